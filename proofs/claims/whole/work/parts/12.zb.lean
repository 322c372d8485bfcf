-- X5_write
def fX5_write_0 (N : Nat) (S : zb_S) (a1 : Int32) : Option (Int32 × zb_S) :=
  if a1 < 0 then
    some ((-2), S)
  else
    if a1 ≤ 255 then
      zb_bind (fX4_append N S a1) (fun r2 S1 =>
      if r2 = 0 then
        some ((-4), S1)
      else
        some (zb_i S1 1 1, S1))
    else
      some ((-2), S)
set_option maxHeartbeats 4000000 in
set_option maxRecDepth 100000 in
theorem gX5_write_0 {l : Launch} {G : zb_G} (N : Nat) (S : zb_S) (a1 : Int32) : zb_Go zb_eI l G 1 RX5 cX5_write 2 (some .int) 0 [(0, .ref (zb_ad G 0)), (1, .int a1)] [] S (fX5_write_0 N S a1) := by
  unfold fX5_write_0
  refine zg_iload_n 1 dX5_write_0 rfl rfl ?_
  refine zg_if_lt 11 dX5_write_1 (by decide) ?_ ?_
  · refine zg_bipush (v := (-2)) dX5_write_11 (by decide) ?_
    exact zg_iret rfl dX5_write_13
  · refine zg_iload_n 1 dX5_write_4 rfl rfl ?_
    refine zg_sipush (v := 255) dX5_write_5 (by decide) ?_
    refine zg_icmp_le 14 dX5_write_8 (by decide) ?_ ?_
    · refine zg_aload_n 0 dX5_write_14 rfl rfl ?_
      refine zq_X5_0 rfl rfl zw_16 dX5_write_15 ?_
      refine zg_iload_n 1 dX5_write_18 rfl rfl ?_
      refine zg_callVI (As := [.int a1]) (rest := []) 1 (zcX4_append N S a1) (by decide) (by decide) rfl (by decide) rfl zw_106 zw_107 zw_108 zw_15 zw_109 (by decide +kernel) rfl rfl (Nat.le_of_ble_eq_true rfl) dX5_write_19 (fun r2 S1 => ?_)
      refine zg_if_eq 35 dX5_write_22 (by decide) ?_ ?_
      · refine zg_bipush (v := (-4)) dX5_write_35 (by decide) ?_
        exact zg_iret rfl dX5_write_37
      · refine zg_aload_n 0 dX5_write_25 rfl rfl ?_
        refine zq_X5_0 rfl rfl zw_16 dX5_write_26 ?_
        refine zq_X4_1 rfl zw_105 dX5_write_29 ?_
        refine zg_goto (tgt := 37) dX5_write_32 (by decide) ?_
        exact zg_iret rfl dX5_write_37
    · refine zg_bipush (v := (-2)) dX5_write_11 (by decide) ?_
      exact zg_iret rfl dX5_write_13
def fX5_write (N : Nat) (S : zb_S) (a1 : Int32) : Option (Int32 × zb_S) := fX5_write_0 N S a1
theorem zcX5_write {l : Launch} {G : zb_G} (N : Nat) (S : zb_S) (a1 : Int32) : zb_C zb_eI l G 1 yX5_write cX5_write 2 (some .int) [.ref (zb_ad G 0), .int a1] S (fX5_write N S a1) :=
  zb_C.of (by decide +kernel) rfl (Nat.le_of_ble_eq_true rfl) rfl (gX5_write_0 N S a1)
-- X5_wipe
def fX5_wipe_0 (N : Nat) (S : zb_S) : Option (Int32 × zb_S) :=
  zb_let (zb_i S 1 1) (fun x1 : Int32 =>
  zb_let (zb_pi S 1 1 0) (fun S2 : zb_S =>
  some (x1, S2)))
set_option maxHeartbeats 4000000 in
set_option maxRecDepth 100000 in
theorem gX5_wipe_0 {l : Launch} {G : zb_G} (N : Nat) (S : zb_S) : zb_Go zb_eI l G 0 RX5 cX5_wipe 2 (some .int) 0 [(0, .ref (zb_ad G 0))] [] S (fX5_wipe_0 N S) := by
  unfold fX5_wipe_0
  refine zg_aload_n 0 dX5_wipe_0 rfl rfl ?_
  refine zq_X5_0 rfl rfl zw_16 dX5_wipe_1 ?_
  refine zq_X4_1 rfl zw_105 dX5_wipe_4 ?_
  refine zg_istore_nL (fun x1 => [(1, .int x1), (0, .ref (zb_ad G 0))]) dX5_wipe_7 rfl (by decide) (fun _ => rfl) (fun x1 => ?_)
  refine zg_aload_n 1 dX5_wipe_8 rfl rfl ?_
  refine zq_X5_0 rfl rfl zw_16 dX5_wipe_9 ?_
  refine zg_iconst (v := 0) dX5_wipe_12 (by decide) ?_
  refine zp_X4_1 rfl zw_105 dX5_wipe_13 (fun S2 => ?_)
  refine zg_iload_n 0 dX5_wipe_16 rfl rfl ?_
  exact zg_iret rfl dX5_wipe_17
def fX5_wipe (N : Nat) (S : zb_S) : Option (Int32 × zb_S) := fX5_wipe_0 N S
theorem zcX5_wipe {l : Launch} {G : zb_G} (N : Nat) (S : zb_S) : zb_C zb_eI l G 0 yX5_wipe cX5_wipe 2 (some .int) [.ref (zb_ad G 0)] S (fX5_wipe N S) :=
  zb_C.of (by decide +kernel) rfl (Nat.le_of_ble_eq_true rfl) rfl (gX5_wipe_0 N S)
-- X5_fault
def fX5_fault_0 (N : Nat) (S : zb_S) : Option (Int32 × zb_S) :=
  zb_bind (fX4_firstFault N S) (fun r2 S1 =>
  some (r2, S1))
set_option maxHeartbeats 4000000 in
set_option maxRecDepth 100000 in
theorem gX5_fault_0 {l : Launch} {G : zb_G} (N : Nat) (S : zb_S) : zb_Go zb_eI l G 5 RX5 cX5_fault 1 (some .int) 0 [(0, .ref (zb_ad G 0))] [] S (fX5_fault_0 N S) := by
  unfold fX5_fault_0
  refine zg_aload_n 0 dX5_fault_0 rfl rfl ?_
  refine zq_X5_0 rfl rfl zw_16 dX5_fault_1 ?_
  refine zg_callVI (As := []) (rest := []) 0 (zcX4_firstFault N S) (by decide) (by decide) rfl (by decide) rfl zw_132 zw_133 zw_134 zw_15 zw_135 (by decide +kernel) rfl rfl (Nat.le_of_ble_eq_true rfl) dX5_fault_4 (fun r2 S1 => ?_)
  exact zg_iret rfl dX5_fault_7
def fX5_fault (N : Nat) (S : zb_S) : Option (Int32 × zb_S) := fX5_fault_0 N S
theorem zcX5_fault {l : Launch} {G : zb_G} (N : Nat) (S : zb_S) : zb_C zb_eI l G 5 yX5_fault cX5_fault 1 (some .int) [.ref (zb_ad G 0)] S (fX5_fault N S) :=
  zb_C.of (by decide +kernel) rfl (Nat.le_of_ble_eq_true rfl) rfl (gX5_fault_0 N S)
-- X5_belt
def fX5_belt_0 (N : Nat) (S : zb_S) : Option (Int32 × zb_S) :=
  zb_bind (fX4_firstFault N S) (fun r2 S1 =>
  if r2 = (-9) then
    zb_bind (fX4_layOut N 3 S1) (fun _ S3 =>
    zb_bind (fX0_forgetAll N S3) (fun _ S5 =>
    zb_let (zb_pi S5 0 5 0) (fun S7 : zb_S =>
    some (zb_i S7 3 2, S7))))
  else
    some ((-3), S1))
set_option maxHeartbeats 4000000 in
set_option maxRecDepth 100000 in
theorem gX5_belt_0 {l : Launch} {G : zb_G} (N : Nat) (S : zb_S) : zb_Go zb_eI l G 5 RX5 cX5_belt 1 (some .int) 0 [(0, .ref (zb_ad G 0))] [] S (fX5_belt_0 N S) := by
  unfold fX5_belt_0
  refine zg_aload_n 0 dX5_belt_0 rfl rfl ?_
  refine zq_X5_0 rfl rfl zw_16 dX5_belt_1 ?_
  refine zg_callVI (As := []) (rest := []) 0 (zcX4_firstFault N S) (by decide) (by decide) rfl (by decide) rfl zw_132 zw_133 zw_134 zw_15 zw_135 (by decide +kernel) rfl rfl (Nat.le_of_ble_eq_true rfl) dX5_belt_4 (fun r2 S1 => ?_)
  refine zg_bipush (v := (-9)) dX5_belt_7 (by decide) ?_
  refine zg_icmp_eq 15 dX5_belt_9 (by decide) ?_ ?_
  · refine zg_aload_n 0 dX5_belt_15 rfl rfl ?_
    refine zq_X5_0 rfl rfl zw_16 dX5_belt_16 ?_
    refine zg_aload_n 0 dX5_belt_19 rfl rfl ?_
    refine zq_X5_1 rfl rfl zw_20 dX5_belt_20 ?_
    refine zg_callVV (As := [.ref (zb_ad G 3)]) (rest := []) 1 (zcX4_layOut N 3 rfl S1) (by decide) (by decide) rfl (by decide) rfl zw_193 zw_194 zw_195 zw_15 zw_196 (by decide +kernel) rfl rfl (Nat.le_of_ble_eq_true rfl) dX5_belt_23 (fun S3 => ?_)
    refine zg_aload_n 0 dX5_belt_26 rfl rfl ?_
    refine zq_X5_3 rfl rfl zw_25 dX5_belt_27 ?_
    refine zg_callVV (As := []) (rest := []) 0 (zcX0_forgetAll N S3) (by decide) (by decide) rfl (by decide) rfl zw_210 zw_211 zw_212 zw_24 zw_213 (by decide +kernel) rfl rfl (Nat.le_of_ble_eq_true rfl) dX5_belt_30 (fun S5 => ?_)
    refine zg_aload_n 0 dX5_belt_33 rfl rfl ?_
    refine zg_iconst (v := 0) dX5_belt_34 (by decide) ?_
    refine zp_X5_5 rfl zw_30 dX5_belt_35 (fun S7 => ?_)
    refine zg_aload_n 0 dX5_belt_38 rfl rfl ?_
    refine zq_X5_1 rfl rfl zw_20 dX5_belt_39 ?_
    refine zq_X1_2 rfl zw_192 dX5_belt_42 ?_
    exact zg_iret rfl dX5_belt_45
  · refine zg_bipush (v := (-3)) dX5_belt_12 (by decide) ?_
    exact zg_iret rfl dX5_belt_14
def fX5_belt (N : Nat) (S : zb_S) : Option (Int32 × zb_S) := fX5_belt_0 N S
theorem zcX5_belt {l : Launch} {G : zb_G} (N : Nat) (S : zb_S) : zb_C zb_eI l G 5 yX5_belt cX5_belt 1 (some .int) [.ref (zb_ad G 0)] S (fX5_belt N S) :=
  zb_C.of (by decide +kernel) rfl (Nat.le_of_ble_eq_true rfl) rfl (gX5_belt_0 N S)
-- X5_factOf
def fX5_factOf_0 (N : Nat) (b0 : Nat) (S : zb_S) (a1 : Int32) (a2 : Int32) : Option (Int32 × zb_S) :=
  if a2 = 0 then
    zb_bind (fX1_hasCarton N b0 S a1) (fun r2 S1 =>
    if r2 = 0 then
      some ((-9), S1)
    else
      if zb_in (0 + a1) (zb_sz (b0 + 1)) then
      some (zb_a S1 (b0 + 1) (Int32.toNatClampNeg (0 + a1)), S1) else none)
  else if a2 = 1 then
    if zb_in (12 + a1) (zb_sz (b0 + 1)) then
    some (zb_a S (b0 + 1) (Int32.toNatClampNeg (12 + a1)), S) else none
  else if a2 = 2 then
    zb_bind (fX1_seeing N b0 S) (fun r6 S5 =>
    zb_bind (fX1_in N S5 r6 a1) (fun r8 S7 =>
    if r8 = 0 then
      some (0, S7)
    else
      some (1, S7)))
  else if a2 = 3 then
    zb_bind (fX1_isJammed N b0 S a1) (fun r11 S10 =>
    if r11 = 0 then
      some (0, S10)
    else
      some (1, S10))
  else if a2 = 4 then
    if zb_in 49 (zb_sz (b0 + 1)) then
    zb_bind (fX1_in N S (zb_a S (b0 + 1) (Int32.toNatClampNeg 49)) a1) (fun r14 S13 =>
    if r14 = 0 then
      some (0, S13)
    else
      some (1, S13)) else none
  else if a2 = 5 then
    if zb_in (24 + a1) (zb_sz (b0 + 1)) then
    some (zb_a S (b0 + 1) (Int32.toNatClampNeg (24 + a1)), S) else none
  else if a2 = 6 then
    if zb_in (36 + a1) (zb_sz (b0 + 1)) then
    some (zb_a S (b0 + 1) (Int32.toNatClampNeg (36 + a1)), S) else none
  else 
    some ((-2), S)
set_option maxHeartbeats 4000000 in
set_option maxRecDepth 100000 in
theorem gX5_factOf_0 {l : Launch} {G : zb_G} (N : Nat) (b0 : Nat) (h0 : zb_kd b0 = 1) (S : zb_S) (a1 : Int32) (a2 : Int32) : zb_Go zb_eI l G 2 RX5 cX5_factOf 3 (some .int) 0 [(0, .ref (zb_ad G b0)), (1, .int a1), (2, .int a2)] [] S (fX5_factOf_0 N b0 S a1 a2) := by
  unfold fX5_factOf_0
  refine zg_iload_n 2 dX5_factOf_0 rfl rfl ?_
  refine zg_if (fun q3 => ?_) (fun q3 => ?_)
  · refine zg_tableIn dX5_factOf_1 (by rw [q3]; decide) (by rw [q3]; decide) (by rw [q3]; rfl) (by decide : (1 : Int) + 43 = (44 : Nat)) ?_
    refine zg_aload_n 0 dX5_factOf_44 rfl rfl ?_
    refine zg_iload_n 1 dX5_factOf_45 rfl rfl ?_
    refine zg_callVI (As := [.int a1]) (rest := []) 1 (zcX1_hasCarton N b0 h0 S a1) (by decide) (by decide) h0 (by decide) rfl zw_233 zw_234 zw_235 zw_19 zw_236 (by decide +kernel) rfl rfl (Nat.le_of_ble_eq_true rfl) dX5_factOf_46 (fun r2 S1 => ?_)
    refine zg_if_eq 63 dX5_factOf_49 (by decide) ?_ ?_
    · refine zg_bipush (v := (-9)) dX5_factOf_63 (by decide) ?_
      exact zg_iret rfl dX5_factOf_65
    · refine zg_aload_n 0 dX5_factOf_52 rfl rfl ?_
      refine zq_X1_4 h0 (zk_X1_4 h0).1 zw_232 dX5_factOf_53 ?_
      refine zg_iconst (v := 0) dX5_factOf_56 (by decide) ?_
      refine zg_iload_n 1 dX5_factOf_57 rfl rfl ?_
      refine zg_iadd dX5_factOf_58 ?_
      refine zg_iald (zk_X1_4 h0).2.1 dX5_factOf_59 ?_
      refine zg_goto (tgt := 65) dX5_factOf_60 (by decide) ?_
      exact zg_iret rfl dX5_factOf_65
  · refine zg_if (fun q4 => ?_) (fun q4 => ?_)
    · refine zg_tableIn dX5_factOf_1 (by rw [q4]; decide) (by rw [q4]; decide) (by rw [q4]; rfl) (by decide : (1 : Int) + 65 = (66 : Nat)) ?_
      refine zg_aload_n 0 dX5_factOf_66 rfl rfl ?_
      refine zq_X1_4 h0 (zk_X1_4 h0).1 zw_232 dX5_factOf_67 ?_
      refine zg_bipush (v := 12) dX5_factOf_70 (by decide) ?_
      refine zg_iload_n 1 dX5_factOf_72 rfl rfl ?_
      refine zg_iadd dX5_factOf_73 ?_
      refine zg_iald (zk_X1_4 h0).2.1 dX5_factOf_74 ?_
      exact zg_iret rfl dX5_factOf_75
    · refine zg_if (fun q9 => ?_) (fun q9 => ?_)
      · refine zg_tableIn dX5_factOf_1 (by rw [q9]; decide) (by rw [q9]; decide) (by rw [q9]; rfl) (by decide : (1 : Int) + 75 = (76 : Nat)) ?_
        refine zg_aload_n 0 dX5_factOf_76 rfl rfl ?_
        refine zg_callVI (As := []) (rest := []) 0 (zcX1_seeing N b0 h0 S) (by decide) (by decide) h0 (by decide) rfl zw_237 zw_238 zw_239 zw_19 zw_240 (by decide +kernel) rfl rfl (Nat.le_of_ble_eq_true rfl) dX5_factOf_77 (fun r6 S5 => ?_)
        refine zg_iload_n 1 dX5_factOf_80 rfl rfl ?_
        refine zg_callSI (As := [.int r6, .int a1]) (rest := []) 2 (zcX1_in N S5 r6 a1) (by decide) (by decide) zw_242 zw_157 zw_19 zw_158 (by decide +kernel) rfl rfl (Nat.le_of_ble_eq_true rfl) dX5_factOf_81 (fun r8 S7 => ?_)
        refine zg_if_eq 91 dX5_factOf_84 (by decide) ?_ ?_
        · refine zg_iconst (v := 0) dX5_factOf_91 (by decide) ?_
          exact zg_iret rfl dX5_factOf_92
        · refine zg_iconst (v := 1) dX5_factOf_87 (by decide) ?_
          refine zg_goto (tgt := 92) dX5_factOf_88 (by decide) ?_
          exact zg_iret rfl dX5_factOf_92
      · refine zg_if (fun q12 => ?_) (fun q12 => ?_)
        · refine zg_tableIn dX5_factOf_1 (by rw [q12]; decide) (by rw [q12]; decide) (by rw [q12]; rfl) (by decide : (1 : Int) + 92 = (93 : Nat)) ?_
          refine zg_aload_n 0 dX5_factOf_93 rfl rfl ?_
          refine zg_iload_n 1 dX5_factOf_94 rfl rfl ?_
          refine zg_callVI (As := [.int a1]) (rest := []) 1 (zcX1_isJammed N b0 h0 S a1) (by decide) (by decide) h0 (by decide) rfl zw_243 zw_244 zw_245 zw_19 zw_246 (by decide +kernel) rfl rfl (Nat.le_of_ble_eq_true rfl) dX5_factOf_95 (fun r11 S10 => ?_)
          refine zg_if_eq 105 dX5_factOf_98 (by decide) ?_ ?_
          · refine zg_iconst (v := 0) dX5_factOf_105 (by decide) ?_
            exact zg_iret rfl dX5_factOf_106
          · refine zg_iconst (v := 1) dX5_factOf_101 (by decide) ?_
            refine zg_goto (tgt := 106) dX5_factOf_102 (by decide) ?_
            exact zg_iret rfl dX5_factOf_106
        · refine zg_if (fun q15 => ?_) (fun q15 => ?_)
          · refine zg_tableIn dX5_factOf_1 (by rw [q15]; decide) (by rw [q15]; decide) (by rw [q15]; rfl) (by decide : (1 : Int) + 106 = (107 : Nat)) ?_
            refine zg_aload_n 0 dX5_factOf_107 rfl rfl ?_
            refine zq_X1_4 h0 (zk_X1_4 h0).1 zw_232 dX5_factOf_108 ?_
            refine zg_bipush (v := 49) dX5_factOf_111 (by decide) ?_
            refine zg_iald (zk_X1_4 h0).2.1 dX5_factOf_113 ?_
            refine zg_iload_n 1 dX5_factOf_114 rfl rfl ?_
            refine zg_callSI (As := [.int (zb_a S (b0 + 1) (Int32.toNatClampNeg 49)), .int a1]) (rest := []) 2 (zcX1_in N S (zb_a S (b0 + 1) (Int32.toNatClampNeg 49)) a1) (by decide) (by decide) zw_242 zw_157 zw_19 zw_158 (by decide +kernel) rfl rfl (Nat.le_of_ble_eq_true rfl) dX5_factOf_115 (fun r14 S13 => ?_)
            refine zg_if_eq 125 dX5_factOf_118 (by decide) ?_ ?_
            · refine zg_iconst (v := 0) dX5_factOf_125 (by decide) ?_
              exact zg_iret rfl dX5_factOf_126
            · refine zg_iconst (v := 1) dX5_factOf_121 (by decide) ?_
              refine zg_goto (tgt := 126) dX5_factOf_122 (by decide) ?_
              exact zg_iret rfl dX5_factOf_126
          · refine zg_if (fun q16 => ?_) (fun q16 => ?_)
            · refine zg_tableIn dX5_factOf_1 (by rw [q16]; decide) (by rw [q16]; decide) (by rw [q16]; rfl) (by decide : (1 : Int) + 126 = (127 : Nat)) ?_
              refine zg_aload_n 0 dX5_factOf_127 rfl rfl ?_
              refine zq_X1_4 h0 (zk_X1_4 h0).1 zw_232 dX5_factOf_128 ?_
              refine zg_bipush (v := 24) dX5_factOf_131 (by decide) ?_
              refine zg_iload_n 1 dX5_factOf_133 rfl rfl ?_
              refine zg_iadd dX5_factOf_134 ?_
              refine zg_iald (zk_X1_4 h0).2.1 dX5_factOf_135 ?_
              exact zg_iret rfl dX5_factOf_136
            · refine zg_if (fun q17 => ?_) (fun q17 => ?_)
              · refine zg_tableIn dX5_factOf_1 (by rw [q17]; decide) (by rw [q17]; decide) (by rw [q17]; rfl) (by decide : (1 : Int) + 136 = (137 : Nat)) ?_
                refine zg_aload_n 0 dX5_factOf_137 rfl rfl ?_
                refine zq_X1_4 h0 (zk_X1_4 h0).1 zw_232 dX5_factOf_138 ?_
                refine zg_bipush (v := 36) dX5_factOf_141 (by decide) ?_
                refine zg_iload_n 1 dX5_factOf_143 rfl rfl ?_
                refine zg_iadd dX5_factOf_144 ?_
                refine zg_iald (zk_X1_4 h0).2.1 dX5_factOf_145 ?_
                exact zg_iret rfl dX5_factOf_146
              · refine zg_tableOut dX5_factOf_1 (by have q3 := lv_neT q3 (show (0 : Int32).toInt = 0 from by decide); have q4 := lv_neT q4 (show (1 : Int32).toInt = 1 from by decide); have q9 := lv_neT q9 (show (2 : Int32).toInt = 2 from by decide); have q12 := lv_neT q12 (show (3 : Int32).toInt = 3 from by decide); have q15 := lv_neT q15 (show (4 : Int32).toInt = 4 from by decide); have q16 := lv_neT q16 (show (5 : Int32).toInt = 5 from by decide); have q17 := lv_neT q17 (show (6 : Int32).toInt = 6 from by decide); omega) (by decide : (1 : Int) + 146 = (147 : Nat)) ?_
                refine zg_bipush (v := (-2)) dX5_factOf_147 (by decide) ?_
                exact zg_iret rfl dX5_factOf_149
def fX5_factOf (N : Nat) (b0 : Nat) (S : zb_S) (a1 : Int32) (a2 : Int32) : Option (Int32 × zb_S) := fX5_factOf_0 N b0 S a1 a2
theorem zcX5_factOf {l : Launch} {G : zb_G} (N : Nat) (b0 : Nat) (h0 : zb_kd b0 = 1) (S : zb_S) (a1 : Int32) (a2 : Int32) : zb_C zb_eI l G 2 yX5_factOf cX5_factOf 3 (some .int) [.ref (zb_ad G b0), .int a1, .int a2] S (fX5_factOf N b0 S a1 a2) :=
  zb_C.of (by decide +kernel) rfl (Nat.le_of_ble_eq_true rfl) rfl (gX5_factOf_0 N b0 h0 S a1 a2)
-- X5_zone
def fX5_zone_0 (N : Nat) (S : zb_S) (a1 : Int32) (a2 : Int32) : Option (Int32 × zb_S) :=
  zb_bind (fX1_hasZone N 3 S a1) (fun r2 S1 =>
  if r2 = 0 then
    some ((-1), S1)
  else
    zb_bind (fX5_factOf N 3 S1 a1 a2) (fun r4 S3 =>
    some (r4, S3)))
set_option maxHeartbeats 4000000 in
set_option maxRecDepth 100000 in
theorem gX5_zone_0 {l : Launch} {G : zb_G} (N : Nat) (S : zb_S) (a1 : Int32) (a2 : Int32) : zb_Go zb_eI l G 3 RX5 cX5_zone 3 (some .int) 0 [(0, .ref (zb_ad G 0)), (1, .int a1), (2, .int a2)] [] S (fX5_zone_0 N S a1 a2) := by
  unfold fX5_zone_0
  refine zg_aload_n 0 dX5_zone_0 rfl rfl ?_
  refine zq_X5_1 rfl rfl zw_20 dX5_zone_1 ?_
  refine zg_iload_n 1 dX5_zone_4 rfl rfl ?_
  refine zg_callVI (As := [.int a1]) (rest := []) 1 (zcX1_hasZone N 3 rfl S a1) (by decide) (by decide) rfl (by decide) rfl zw_228 zw_203 zw_204 zw_19 zw_205 (by decide +kernel) rfl rfl (Nat.le_of_ble_eq_true rfl) dX5_zone_5 (fun r2 S1 => ?_)
  refine zg_if_ne 13 dX5_zone_8 (by decide) ?_ ?_
  · refine zg_aload_n 0 dX5_zone_13 rfl rfl ?_
    refine zq_X5_1 rfl rfl zw_20 dX5_zone_14 ?_
    refine zg_iload_n 1 dX5_zone_17 rfl rfl ?_
    refine zg_iload_n 2 dX5_zone_18 rfl rfl ?_
    refine zg_callSI (As := [.ref (zb_ad G 3), .int a1, .int a2]) (rest := []) 3 (zcX5_factOf N 3 rfl S1 a1 a2) (by decide) (by decide) zw_229 zw_230 zw_2 zw_231 (by decide +kernel) rfl rfl (Nat.le_of_ble_eq_true rfl) dX5_zone_19 (fun r4 S3 => ?_)
    exact zg_iret rfl dX5_zone_22
  · refine zg_iconst (v := (-1)) dX5_zone_11 (by decide) ?_
    exact zg_iret rfl dX5_zone_12
def fX5_zone (N : Nat) (S : zb_S) (a1 : Int32) (a2 : Int32) : Option (Int32 × zb_S) := fX5_zone_0 N S a1 a2
theorem zcX5_zone {l : Launch} {G : zb_G} (N : Nat) (S : zb_S) (a1 : Int32) (a2 : Int32) : zb_C zb_eI l G 3 yX5_zone cX5_zone 3 (some .int) [.ref (zb_ad G 0), .int a1, .int a2] S (fX5_zone N S a1 a2) :=
  zb_C.of (by decide +kernel) rfl (Nat.le_of_ble_eq_true rfl) rfl (gX5_zone_0 N S a1 a2)
-- X5_feed
def fX5_feed_0 (N : Nat) (S : zb_S) (a1 : Int32) : Option (Int32 × zb_S) :=
  zb_bind (fX1_hasLine N 3 S a1) (fun r2 S1 =>
  if r2 = 0 then
    some ((-1), S1)
  else
    zb_bind (fX1_entryOf N 3 S1 a1) (fun r4 S3 =>
    zb_bind (fX1_hasCarton N 3 S3 r4) (fun r6 S5 =>
    if r6 = 0 then
      zb_bind (fX1_canFeed N 3 S5 a1) (fun r8 S7 =>
      if r8 = 0 then
        some ((-4), S7)
      else
        zb_bind (fX0_remember N 3 S7) (fun _ S9 =>
        zb_bind (fX1_entryOf N 3 S9 a1) (fun r12 S11 =>
        zb_bind (fX1_putNext N 3 S11 r12) (fun r14 S13 =>
        some (r14, S13)))))
    else
      some ((-3), S5))))
set_option maxHeartbeats 4000000 in
set_option maxRecDepth 100000 in
theorem gX5_feed_0 {l : Launch} {G : zb_G} (N : Nat) (S : zb_S) (a1 : Int32) : zb_Go zb_eI l G 2 RX5 cX5_feed 2 (some .int) 0 [(0, .ref (zb_ad G 0)), (1, .int a1)] [] S (fX5_feed_0 N S a1) := by
  unfold fX5_feed_0
  refine zg_aload_n 0 dX5_feed_0 rfl rfl ?_
  refine zq_X5_1 rfl rfl zw_20 dX5_feed_1 ?_
  refine zg_iload_n 1 dX5_feed_4 rfl rfl ?_
  refine zg_callVI (As := [.int a1]) (rest := []) 1 (zcX1_hasLine N 3 rfl S a1) (by decide) (by decide) rfl (by decide) rfl zw_268 zw_269 zw_270 zw_19 zw_271 (by decide +kernel) rfl rfl (Nat.le_of_ble_eq_true rfl) dX5_feed_5 (fun r2 S1 => ?_)
  refine zg_if_ne 13 dX5_feed_8 (by decide) ?_ ?_
  · refine zg_aload_n 0 dX5_feed_13 rfl rfl ?_
    refine zq_X5_1 rfl rfl zw_20 dX5_feed_14 ?_
    refine zg_aload_n 0 dX5_feed_17 rfl rfl ?_
    refine zq_X5_1 rfl rfl zw_20 dX5_feed_18 ?_
    refine zg_iload_n 1 dX5_feed_21 rfl rfl ?_
    refine zg_callVI (As := [.int a1]) (rest := [.ref (zb_ad G 3)]) 1 (zcX1_entryOf N 3 rfl S1 a1) (by decide) (by decide) rfl (by decide) rfl zw_272 zw_273 zw_274 zw_19 zw_275 (by decide +kernel) rfl rfl (Nat.le_of_ble_eq_true rfl) dX5_feed_22 (fun r4 S3 => ?_)
    refine zg_callVI (As := [.int r4]) (rest := []) 1 (zcX1_hasCarton N 3 rfl S3 r4) (by decide) (by decide) rfl (by decide) rfl zw_233 zw_234 zw_235 zw_19 zw_236 (by decide +kernel) rfl rfl (Nat.le_of_ble_eq_true rfl) dX5_feed_25 (fun r6 S5 => ?_)
    refine zg_if_eq 34 dX5_feed_28 (by decide) ?_ ?_
    · refine zg_aload_n 0 dX5_feed_34 rfl rfl ?_
      refine zq_X5_1 rfl rfl zw_20 dX5_feed_35 ?_
      refine zg_iload_n 1 dX5_feed_38 rfl rfl ?_
      refine zg_callVI (As := [.int a1]) (rest := []) 1 (zcX1_canFeed N 3 rfl S5 a1) (by decide) (by decide) rfl (by decide) rfl zw_276 zw_277 zw_278 zw_19 zw_279 (by decide +kernel) rfl rfl (Nat.le_of_ble_eq_true rfl) dX5_feed_39 (fun r8 S7 => ?_)
      refine zg_if_ne 48 dX5_feed_42 (by decide) ?_ ?_
      · refine zg_aload_n 0 dX5_feed_48 rfl rfl ?_
        refine zq_X5_3 rfl rfl zw_25 dX5_feed_49 ?_
        refine zg_aload_n 0 dX5_feed_52 rfl rfl ?_
        refine zq_X5_1 rfl rfl zw_20 dX5_feed_53 ?_
        refine zg_callVV (As := [.ref (zb_ad G 3)]) (rest := []) 1 (zcX0_remember N 3 rfl S7) (by decide) (by decide) rfl (by decide) rfl zw_282 zw_283 zw_284 zw_24 zw_285 (by decide +kernel) rfl rfl (Nat.le_of_ble_eq_true rfl) dX5_feed_56 (fun S9 => ?_)
        refine zg_aload_n 0 dX5_feed_59 rfl rfl ?_
        refine zq_X5_1 rfl rfl zw_20 dX5_feed_60 ?_
        refine zg_aload_n 0 dX5_feed_63 rfl rfl ?_
        refine zq_X5_1 rfl rfl zw_20 dX5_feed_64 ?_
        refine zg_iload_n 1 dX5_feed_67 rfl rfl ?_
        refine zg_callVI (As := [.int a1]) (rest := [.ref (zb_ad G 3)]) 1 (zcX1_entryOf N 3 rfl S9 a1) (by decide) (by decide) rfl (by decide) rfl zw_272 zw_273 zw_274 zw_19 zw_275 (by decide +kernel) rfl rfl (Nat.le_of_ble_eq_true rfl) dX5_feed_68 (fun r12 S11 => ?_)
        refine zg_callVI (As := [.int r12]) (rest := []) 1 (zcX1_putNext N 3 rfl S11 r12) (by decide) (by decide) rfl (by decide) rfl zw_298 zw_207 zw_208 zw_19 zw_209 (by decide +kernel) rfl rfl (Nat.le_of_ble_eq_true rfl) dX5_feed_71 (fun r14 S13 => ?_)
        exact zg_iret rfl dX5_feed_74
      · refine zg_bipush (v := (-4)) dX5_feed_45 (by decide) ?_
        exact zg_iret rfl dX5_feed_47
    · refine zg_bipush (v := (-3)) dX5_feed_31 (by decide) ?_
      exact zg_iret rfl dX5_feed_33
  · refine zg_iconst (v := (-1)) dX5_feed_11 (by decide) ?_
    exact zg_iret rfl dX5_feed_12
def fX5_feed (N : Nat) (S : zb_S) (a1 : Int32) : Option (Int32 × zb_S) := fX5_feed_0 N S a1
theorem zcX5_feed {l : Launch} {G : zb_G} (N : Nat) (S : zb_S) (a1 : Int32) : zb_C zb_eI l G 2 yX5_feed cX5_feed 2 (some .int) [.ref (zb_ad G 0), .int a1] S (fX5_feed N S a1) :=
  zb_C.of (by decide +kernel) rfl (Nat.le_of_ble_eq_true rfl) rfl (gX5_feed_0 N S a1)
-- X5_lift
def fX5_lift_0 (N : Nat) (S : zb_S) (a1 : Int32) : Option (Int32 × zb_S) :=
  zb_bind (fX1_hasZone N 3 S a1) (fun r2 S1 =>
  if r2 = 0 then
    some ((-1), S1)
  else
    zb_bind (fX1_hasCarton N 3 S1 a1) (fun r4 S3 =>
    if r4 = 0 then
      some ((-3), S3)
    else
      zb_bind (fX0_remember N 3 S3) (fun _ S5 =>
      zb_bind (fX1_takeAway N 3 S5 a1) (fun r8 S7 =>
      some (r8, S7)))))
set_option maxHeartbeats 4000000 in
set_option maxRecDepth 100000 in
theorem gX5_lift_0 {l : Launch} {G : zb_G} (N : Nat) (S : zb_S) (a1 : Int32) : zb_Go zb_eI l G 2 RX5 cX5_lift 2 (some .int) 0 [(0, .ref (zb_ad G 0)), (1, .int a1)] [] S (fX5_lift_0 N S a1) := by
  unfold fX5_lift_0
  refine zg_aload_n 0 dX5_lift_0 rfl rfl ?_
  refine zq_X5_1 rfl rfl zw_20 dX5_lift_1 ?_
  refine zg_iload_n 1 dX5_lift_4 rfl rfl ?_
  refine zg_callVI (As := [.int a1]) (rest := []) 1 (zcX1_hasZone N 3 rfl S a1) (by decide) (by decide) rfl (by decide) rfl zw_228 zw_203 zw_204 zw_19 zw_205 (by decide +kernel) rfl rfl (Nat.le_of_ble_eq_true rfl) dX5_lift_5 (fun r2 S1 => ?_)
  refine zg_if_ne 13 dX5_lift_8 (by decide) ?_ ?_
  · refine zg_aload_n 0 dX5_lift_13 rfl rfl ?_
    refine zq_X5_1 rfl rfl zw_20 dX5_lift_14 ?_
    refine zg_iload_n 1 dX5_lift_17 rfl rfl ?_
    refine zg_callVI (As := [.int a1]) (rest := []) 1 (zcX1_hasCarton N 3 rfl S1 a1) (by decide) (by decide) rfl (by decide) rfl zw_233 zw_234 zw_235 zw_19 zw_236 (by decide +kernel) rfl rfl (Nat.le_of_ble_eq_true rfl) dX5_lift_18 (fun r4 S3 => ?_)
    refine zg_if_ne 27 dX5_lift_21 (by decide) ?_ ?_
    · refine zg_aload_n 0 dX5_lift_27 rfl rfl ?_
      refine zq_X5_3 rfl rfl zw_25 dX5_lift_28 ?_
      refine zg_aload_n 0 dX5_lift_31 rfl rfl ?_
      refine zq_X5_1 rfl rfl zw_20 dX5_lift_32 ?_
      refine zg_callVV (As := [.ref (zb_ad G 3)]) (rest := []) 1 (zcX0_remember N 3 rfl S3) (by decide) (by decide) rfl (by decide) rfl zw_282 zw_283 zw_284 zw_24 zw_285 (by decide +kernel) rfl rfl (Nat.le_of_ble_eq_true rfl) dX5_lift_35 (fun S5 => ?_)
      refine zg_aload_n 0 dX5_lift_38 rfl rfl ?_
      refine zq_X5_1 rfl rfl zw_20 dX5_lift_39 ?_
      refine zg_iload_n 1 dX5_lift_42 rfl rfl ?_
      refine zg_callVI (As := [.int a1]) (rest := []) 1 (zcX1_takeAway N 3 rfl S5 a1) (by decide) (by decide) rfl (by decide) rfl zw_323 zw_324 zw_325 zw_19 zw_326 (by decide +kernel) rfl rfl (Nat.le_of_ble_eq_true rfl) dX5_lift_43 (fun r8 S7 => ?_)
      exact zg_iret rfl dX5_lift_46
    · refine zg_bipush (v := (-3)) dX5_lift_24 (by decide) ?_
      exact zg_iret rfl dX5_lift_26
  · refine zg_iconst (v := (-1)) dX5_lift_11 (by decide) ?_
    exact zg_iret rfl dX5_lift_12
def fX5_lift (N : Nat) (S : zb_S) (a1 : Int32) : Option (Int32 × zb_S) := fX5_lift_0 N S a1
theorem zcX5_lift {l : Launch} {G : zb_G} (N : Nat) (S : zb_S) (a1 : Int32) : zb_C zb_eI l G 2 yX5_lift cX5_lift 2 (some .int) [.ref (zb_ad G 0), .int a1] S (fX5_lift N S a1) :=
  zb_C.of (by decide +kernel) rfl (Nat.le_of_ble_eq_true rfl) rfl (gX5_lift_0 N S a1)
-- X5_turn
def fX5_turn_0 (N : Nat) (S : zb_S) : Option (Int32 × zb_S) :=
  zb_bind (fX0_remember N 3 S) (fun _ S1 =>
  zb_bind (fX1_turnExit N 3 S1) (fun r4 S3 =>
  some (r4, S3)))
set_option maxHeartbeats 4000000 in
set_option maxRecDepth 100000 in
theorem gX5_turn_0 {l : Launch} {G : zb_G} (N : Nat) (S : zb_S) : zb_Go zb_eI l G 2 RX5 cX5_turn 1 (some .int) 0 [(0, .ref (zb_ad G 0))] [] S (fX5_turn_0 N S) := by
  unfold fX5_turn_0
  refine zg_aload_n 0 dX5_turn_0 rfl rfl ?_
  refine zq_X5_3 rfl rfl zw_25 dX5_turn_1 ?_
  refine zg_aload_n 0 dX5_turn_4 rfl rfl ?_
  refine zq_X5_1 rfl rfl zw_20 dX5_turn_5 ?_
  refine zg_callVV (As := [.ref (zb_ad G 3)]) (rest := []) 1 (zcX0_remember N 3 rfl S) (by decide) (by decide) rfl (by decide) rfl zw_282 zw_283 zw_284 zw_24 zw_285 (by decide +kernel) rfl rfl (Nat.le_of_ble_eq_true rfl) dX5_turn_8 (fun S1 => ?_)
  refine zg_aload_n 0 dX5_turn_11 rfl rfl ?_
  refine zq_X5_1 rfl rfl zw_20 dX5_turn_12 ?_
  refine zg_callVI (As := []) (rest := []) 0 (zcX1_turnExit N 3 rfl S1) (by decide) (by decide) rfl (by decide) rfl zw_346 zw_347 zw_348 zw_19 zw_349 (by decide +kernel) rfl rfl (Nat.le_of_ble_eq_true rfl) dX5_turn_15 (fun r4 S3 => ?_)
  exact zg_iret rfl dX5_turn_18
def fX5_turn (N : Nat) (S : zb_S) : Option (Int32 × zb_S) := fX5_turn_0 N S
theorem zcX5_turn {l : Launch} {G : zb_G} (N : Nat) (S : zb_S) : zb_C zb_eI l G 2 yX5_turn cX5_turn 1 (some .int) [.ref (zb_ad G 0)] S (fX5_turn N S) :=
  zb_C.of (by decide +kernel) rfl (Nat.le_of_ble_eq_true rfl) rfl (gX5_turn_0 N S)
-- X5_eye
def fX5_eye_0 (N : Nat) (S : zb_S) (a1 : Int32) (a2 : Int32) : Option (Int32 × zb_S) :=
  zb_bind (fX1_hasZone N 3 S a1) (fun r2 S1 =>
  if r2 = 0 then
    some ((-1), S1)
  else
    zb_bind (fX1_isEye N S1 a2) (fun r4 S3 =>
    if r4 = 0 then
      some ((-2), S3)
    else
      zb_bind (fX0_remember N 3 S3) (fun _ S5 =>
      zb_bind (fX1_change N 3 S5 (12 + a1) a2) (fun r8 S7 =>
      some (r8, S7)))))
set_option maxHeartbeats 4000000 in
set_option maxRecDepth 100000 in
theorem gX5_eye_0 {l : Launch} {G : zb_G} (N : Nat) (S : zb_S) (a1 : Int32) (a2 : Int32) : zb_Go zb_eI l G 2 RX5 cX5_eye 3 (some .int) 0 [(0, .ref (zb_ad G 0)), (1, .int a1), (2, .int a2)] [] S (fX5_eye_0 N S a1 a2) := by
  unfold fX5_eye_0
  refine zg_aload_n 0 dX5_eye_0 rfl rfl ?_
  refine zq_X5_1 rfl rfl zw_20 dX5_eye_1 ?_
  refine zg_iload_n 1 dX5_eye_4 rfl rfl ?_
  refine zg_callVI (As := [.int a1]) (rest := []) 1 (zcX1_hasZone N 3 rfl S a1) (by decide) (by decide) rfl (by decide) rfl zw_228 zw_203 zw_204 zw_19 zw_205 (by decide +kernel) rfl rfl (Nat.le_of_ble_eq_true rfl) dX5_eye_5 (fun r2 S1 => ?_)
  refine zg_if_ne 13 dX5_eye_8 (by decide) ?_ ?_
  · refine zg_iload_n 2 dX5_eye_13 rfl rfl ?_
    refine zg_callSI (As := [.int a2]) (rest := []) 1 (zcX1_isEye N S1 a2) (by decide) (by decide) zw_358 zw_359 zw_19 zw_360 (by decide +kernel) rfl rfl (Nat.le_of_ble_eq_true rfl) dX5_eye_14 (fun r4 S3 => ?_)
    refine zg_if_ne 23 dX5_eye_17 (by decide) ?_ ?_
    · refine zg_aload_n 0 dX5_eye_23 rfl rfl ?_
      refine zq_X5_3 rfl rfl zw_25 dX5_eye_24 ?_
      refine zg_aload_n 0 dX5_eye_27 rfl rfl ?_
      refine zq_X5_1 rfl rfl zw_20 dX5_eye_28 ?_
      refine zg_callVV (As := [.ref (zb_ad G 3)]) (rest := []) 1 (zcX0_remember N 3 rfl S3) (by decide) (by decide) rfl (by decide) rfl zw_282 zw_283 zw_284 zw_24 zw_285 (by decide +kernel) rfl rfl (Nat.le_of_ble_eq_true rfl) dX5_eye_31 (fun S5 => ?_)
      refine zg_aload_n 0 dX5_eye_34 rfl rfl ?_
      refine zq_X5_1 rfl rfl zw_20 dX5_eye_35 ?_
      refine zg_bipush (v := 12) dX5_eye_38 (by decide) ?_
      refine zg_iload_n 1 dX5_eye_40 rfl rfl ?_
      refine zg_iadd dX5_eye_41 ?_
      refine zg_iload_n 2 dX5_eye_42 rfl rfl ?_
      refine zg_callVI (As := [.int (12 + a1), .int a2]) (rest := []) 2 (zcX1_change N 3 rfl S5 (12 + a1) a2) (by decide) (by decide) rfl (by decide) rfl zw_361 zw_332 zw_333 zw_19 zw_334 (by decide +kernel) rfl rfl (Nat.le_of_ble_eq_true rfl) dX5_eye_43 (fun r8 S7 => ?_)
      exact zg_iret rfl dX5_eye_46
    · refine zg_bipush (v := (-2)) dX5_eye_20 (by decide) ?_
      exact zg_iret rfl dX5_eye_22
  · refine zg_iconst (v := (-1)) dX5_eye_11 (by decide) ?_
    exact zg_iret rfl dX5_eye_12
def fX5_eye (N : Nat) (S : zb_S) (a1 : Int32) (a2 : Int32) : Option (Int32 × zb_S) := fX5_eye_0 N S a1 a2
theorem zcX5_eye {l : Launch} {G : zb_G} (N : Nat) (S : zb_S) (a1 : Int32) (a2 : Int32) : zb_C zb_eI l G 2 yX5_eye cX5_eye 3 (some .int) [.ref (zb_ad G 0), .int a1, .int a2] S (fX5_eye N S a1 a2) :=
  zb_C.of (by decide +kernel) rfl (Nat.le_of_ble_eq_true rfl) rfl (gX5_eye_0 N S a1 a2)
-- X5_make
def fX5_make_56 (N : Nat) (S : zb_S) (l2 : Int32) (s0 : Int32) : Option (Int32 × zb_S) :=
  zb_bind (fX1_change N 3 S s0 l2) (fun r2 S1 =>
  some (r2, S1))
set_option maxHeartbeats 4000000 in
set_option maxRecDepth 100000 in
theorem gX5_make_56 {l : Launch} {G : zb_G} (N : Nat) (S : zb_S) (l2 : Int32) (s0 : Int32) : zb_Go zb_eI l G 2 RX5 cX5_make 3 (some .int) 56 [(2, .int l2)] [.int s0, .ref (zb_ad G 3)] S (fX5_make_56 N S l2 s0) := by
  unfold fX5_make_56
  refine zg_iload_n 0 dX5_make_56 rfl rfl ?_
  refine zg_callVI (As := [.int s0, .int l2]) (rest := []) 2 (zcX1_change N 3 rfl S s0 l2) (by decide) (by decide) rfl (by decide) rfl zw_361 zw_332 zw_333 zw_19 zw_334 (by decide +kernel) rfl rfl (Nat.le_of_ble_eq_true rfl) dX5_make_57 (fun r2 S1 => ?_)
  exact zg_iret rfl dX5_make_60
def fX5_make_24 (N : Nat) (S : zb_S) (l1 : Int32) (l2 : Int32) (s0 : Int32) (s1 : Int32) : Option (Int32 × zb_S) :=
  if s1 ≤ s0 then
    zb_bind (fX0_remember N 3 S) (fun _ S1 =>
    if l1 = 0 then
      fX5_make_56 N S1 l2 51
    else
      fX5_make_56 N S1 l2 52)
  else
    some ((-2), S)
set_option maxHeartbeats 4000000 in
set_option maxRecDepth 100000 in
theorem gX5_make_24 {l : Launch} {G : zb_G} (N : Nat) (S : zb_S) (l1 : Int32) (l2 : Int32) (s0 : Int32) (s1 : Int32) : zb_Go zb_eI l G 2 RX5 cX5_make 3 (some .int) 24 [(0, .ref (zb_ad G 0)), (1, .int l1), (2, .int l2)] [.int s0, .int s1] S (fX5_make_24 N S l1 l2 s0 s1) := by
  unfold fX5_make_24
  refine zg_icmp_le 30 dX5_make_24 (by decide) ?_ ?_
  · refine zg_aload_n 0 dX5_make_30 rfl rfl ?_
    refine zq_X5_3 rfl rfl zw_25 dX5_make_31 ?_
    refine zg_aload_n 0 dX5_make_34 rfl rfl ?_
    refine zq_X5_1 rfl rfl zw_20 dX5_make_35 ?_
    refine zg_callVV (As := [.ref (zb_ad G 3)]) (rest := []) 1 (zcX0_remember N 3 rfl S) (by decide) (by decide) rfl (by decide) rfl zw_282 zw_283 zw_284 zw_24 zw_285 (by decide +kernel) rfl rfl (Nat.le_of_ble_eq_true rfl) dX5_make_38 (fun S1 => ?_)
    refine zg_aload_n 0 dX5_make_41 rfl rfl ?_
    refine zq_X5_1 rfl rfl zw_20 dX5_make_42 ?_
    refine zg_iload_n 1 dX5_make_45 rfl rfl ?_
    refine zg_if_ne 54 dX5_make_46 (by decide) ?_ ?_
    · refine zg_bipush (v := 52) dX5_make_54 (by decide) ?_
      refine zg_sub [2] rfl ?_
      exact gX5_make_56 N S1 l2 52
    · refine zg_bipush (v := 51) dX5_make_49 (by decide) ?_
      refine zg_goto (tgt := 56) dX5_make_51 (by decide) ?_
      refine zg_sub [2] rfl ?_
      exact gX5_make_56 N S1 l2 51
  · refine zg_bipush (v := (-2)) dX5_make_27 (by decide) ?_
    exact zg_iret rfl dX5_make_29
def fX5_make_0 (N : Nat) (S : zb_S) (a1 : Int32) (a2 : Int32) : Option (Int32 × zb_S) :=
  if a1 < 0 then
    some ((-2), S)
  else
    if 1 < a1 then
      some ((-2), S)
    else
      if a2 < 0 then
        some ((-2), S)
      else
        if a1 = 0 then
          fX5_make_24 N S a1 a2 1 a2
        else
          fX5_make_24 N S a1 a2 9 a2
set_option maxHeartbeats 4000000 in
set_option maxRecDepth 100000 in
theorem gX5_make_0 {l : Launch} {G : zb_G} (N : Nat) (S : zb_S) (a1 : Int32) (a2 : Int32) : zb_Go zb_eI l G 2 RX5 cX5_make 3 (some .int) 0 [(0, .ref (zb_ad G 0)), (1, .int a1), (2, .int a2)] [] S (fX5_make_0 N S a1 a2) := by
  unfold fX5_make_0
  refine zg_iload_n 1 dX5_make_0 rfl rfl ?_
  refine zg_if_lt 27 dX5_make_1 (by decide) ?_ ?_
  · refine zg_bipush (v := (-2)) dX5_make_27 (by decide) ?_
    exact zg_iret rfl dX5_make_29
  · refine zg_iload_n 1 dX5_make_4 rfl rfl ?_
    refine zg_iconst (v := 1) dX5_make_5 (by decide) ?_
    refine zg_icmp_gt 27 dX5_make_6 (by decide) ?_ ?_
    · refine zg_bipush (v := (-2)) dX5_make_27 (by decide) ?_
      exact zg_iret rfl dX5_make_29
    · refine zg_iload_n 2 dX5_make_9 rfl rfl ?_
      refine zg_if_lt 27 dX5_make_10 (by decide) ?_ ?_
      · refine zg_bipush (v := (-2)) dX5_make_27 (by decide) ?_
        exact zg_iret rfl dX5_make_29
      · refine zg_iload_n 2 dX5_make_13 rfl rfl ?_
        refine zg_iload_n 1 dX5_make_14 rfl rfl ?_
        refine zg_if_ne 22 dX5_make_15 (by decide) ?_ ?_
        · refine zg_bipush (v := 9) dX5_make_22 (by decide) ?_
          exact gX5_make_24 N S a1 a2 9 a2
        · refine zg_iconst (v := 1) dX5_make_18 (by decide) ?_
          refine zg_goto (tgt := 24) dX5_make_19 (by decide) ?_
          exact gX5_make_24 N S a1 a2 1 a2
def fX5_make (N : Nat) (S : zb_S) (a1 : Int32) (a2 : Int32) : Option (Int32 × zb_S) := fX5_make_0 N S a1 a2
theorem zcX5_make {l : Launch} {G : zb_G} (N : Nat) (S : zb_S) (a1 : Int32) (a2 : Int32) : zb_C zb_eI l G 2 yX5_make cX5_make 3 (some .int) [.ref (zb_ad G 0), .int a1, .int a2] S (fX5_make N S a1 a2) :=
  zb_C.of (by decide +kernel) rfl (Nat.le_of_ble_eq_true rfl) rfl (gX5_make_0 N S a1 a2)
-- X5_clear
def fX5_clear_0 (N : Nat) (S : zb_S) (a1 : Int32) : Option (Int32 × zb_S) :=
  zb_bind (fX1_hasZone N 3 S a1) (fun r2 S1 =>
  if r2 = 0 then
    some ((-1), S1)
  else
    zb_bind (fX1_isJammed N 3 S1 a1) (fun r4 S3 =>
    if r4 = 0 then
      some ((-3), S3)
    else
      zb_bind (fX0_remember N 3 S3) (fun _ S5 =>
      zb_bind (fX1_freeJam N 3 S5 a1) (fun _ S7 =>
      if zb_in 48 (zb_sz 4) then
      zb_bind (fJ6_bitCount_0f7a4 N S7 (zb_a S7 4 (Int32.toNatClampNeg 48))) (fun r10 S9 =>
      some (r10, S9)) else none))))
set_option maxHeartbeats 4000000 in
set_option maxRecDepth 100000 in
theorem gX5_clear_0 {l : Launch} {G : zb_G} (N : Nat) (S : zb_S) (a1 : Int32) : zb_Go zb_eI l G 2 RX5 cX5_clear 2 (some .int) 0 [(0, .ref (zb_ad G 0)), (1, .int a1)] [] S (fX5_clear_0 N S a1) := by
  unfold fX5_clear_0
  refine zg_aload_n 0 dX5_clear_0 rfl rfl ?_
  refine zq_X5_1 rfl rfl zw_20 dX5_clear_1 ?_
  refine zg_iload_n 1 dX5_clear_4 rfl rfl ?_
  refine zg_callVI (As := [.int a1]) (rest := []) 1 (zcX1_hasZone N 3 rfl S a1) (by decide) (by decide) rfl (by decide) rfl zw_228 zw_203 zw_204 zw_19 zw_205 (by decide +kernel) rfl rfl (Nat.le_of_ble_eq_true rfl) dX5_clear_5 (fun r2 S1 => ?_)
  refine zg_if_ne 13 dX5_clear_8 (by decide) ?_ ?_
  · refine zg_aload_n 0 dX5_clear_13 rfl rfl ?_
    refine zq_X5_1 rfl rfl zw_20 dX5_clear_14 ?_
    refine zg_iload_n 1 dX5_clear_17 rfl rfl ?_
    refine zg_callVI (As := [.int a1]) (rest := []) 1 (zcX1_isJammed N 3 rfl S1 a1) (by decide) (by decide) rfl (by decide) rfl zw_243 zw_244 zw_245 zw_19 zw_246 (by decide +kernel) rfl rfl (Nat.le_of_ble_eq_true rfl) dX5_clear_18 (fun r4 S3 => ?_)
    refine zg_if_ne 27 dX5_clear_21 (by decide) ?_ ?_
    · refine zg_aload_n 0 dX5_clear_27 rfl rfl ?_
      refine zq_X5_3 rfl rfl zw_25 dX5_clear_28 ?_
      refine zg_aload_n 0 dX5_clear_31 rfl rfl ?_
      refine zq_X5_1 rfl rfl zw_20 dX5_clear_32 ?_
      refine zg_callVV (As := [.ref (zb_ad G 3)]) (rest := []) 1 (zcX0_remember N 3 rfl S3) (by decide) (by decide) rfl (by decide) rfl zw_282 zw_283 zw_284 zw_24 zw_285 (by decide +kernel) rfl rfl (Nat.le_of_ble_eq_true rfl) dX5_clear_35 (fun S5 => ?_)
      refine zg_aload_n 0 dX5_clear_38 rfl rfl ?_
      refine zq_X5_1 rfl rfl zw_20 dX5_clear_39 ?_
      refine zg_iload_n 1 dX5_clear_42 rfl rfl ?_
      refine zg_callVV (As := [.int a1]) (rest := []) 1 (zcX1_freeJam N 3 rfl S5 a1) (by decide) (by decide) rfl (by decide) rfl zw_379 zw_328 zw_329 zw_19 zw_330 (by decide +kernel) rfl rfl (Nat.le_of_ble_eq_true rfl) dX5_clear_43 (fun S7 => ?_)
      refine zg_aload_n 0 dX5_clear_46 rfl rfl ?_
      refine zq_X5_1 rfl rfl zw_20 dX5_clear_47 ?_
      refine zq_X1_4 rfl rfl zw_232 dX5_clear_50 ?_
      refine zg_bipush (v := 48) dX5_clear_53 (by decide) ?_
      refine zg_iald rfl dX5_clear_55 ?_
      refine zg_callSI (As := [.int (zb_a S7 4 (Int32.toNatClampNeg 48))]) (rest := []) 1 (zcJ6_bitCount_0f7a4 N S7 (zb_a S7 4 (Int32.toNatClampNeg 48))) (by decide) (by decide) zw_380 zw_381 zw_382 zw_383 (by decide +kernel) rfl rfl (Nat.le_of_ble_eq_true rfl) dX5_clear_56 (fun r10 S9 => ?_)
      exact zg_iret rfl dX5_clear_59
    · refine zg_bipush (v := (-3)) dX5_clear_24 (by decide) ?_
      exact zg_iret rfl dX5_clear_26
  · refine zg_iconst (v := (-1)) dX5_clear_11 (by decide) ?_
    exact zg_iret rfl dX5_clear_12
def fX5_clear (N : Nat) (S : zb_S) (a1 : Int32) : Option (Int32 × zb_S) := fX5_clear_0 N S a1
theorem zcX5_clear {l : Launch} {G : zb_G} (N : Nat) (S : zb_S) (a1 : Int32) : zb_C zb_eI l G 2 yX5_clear cX5_clear 2 (some .int) [.ref (zb_ad G 0), .int a1] S (fX5_clear N S a1) :=
  zb_C.of (by decide +kernel) rfl (Nat.le_of_ble_eq_true rfl) rfl (gX5_clear_0 N S a1)
-- X5_step
def fX5_step_0 (N : Nat) (S : zb_S) (a1 : Int32) : Option (Int32 × zb_S) :=
  if a1 < 1 then
    some ((-2), S)
  else
    if a1 ≤ 99 then
      zb_bind (fX0_remember N 3 S) (fun _ S1 =>
      if zb_in 55 (zb_sz 4) then
      zb_let (zb_a S1 4 (Int32.toNatClampNeg 55)) (fun x3 : Int32 =>
      zb_bind (fX1_advance N 3 S1 a1) (fun _ S4 =>
      if zb_in 55 (zb_sz 4) then
      some ((zb_a S4 4 (Int32.toNatClampNeg 55)) - x3, S4) else none)) else none)
    else
      some ((-2), S)
set_option maxHeartbeats 4000000 in
set_option maxRecDepth 100000 in
theorem gX5_step_0 {l : Launch} {G : zb_G} (N : Nat) (S : zb_S) (a1 : Int32) : zb_Go zb_eI l G 5 RX5 cX5_step 3 (some .int) 0 [(0, .ref (zb_ad G 0)), (1, .int a1)] [] S (fX5_step_0 N S a1) := by
  unfold fX5_step_0
  refine zg_iload_n 1 dX5_step_0 rfl rfl ?_
  refine zg_iconst (v := 1) dX5_step_1 (by decide) ?_
  refine zg_icmp_lt 11 dX5_step_2 (by decide) ?_ ?_
  · refine zg_bipush (v := (-2)) dX5_step_11 (by decide) ?_
    exact zg_iret rfl dX5_step_13
  · refine zg_iload_n 1 dX5_step_5 rfl rfl ?_
    refine zg_bipush (v := 99) dX5_step_6 (by decide) ?_
    refine zg_icmp_le 14 dX5_step_8 (by decide) ?_ ?_
    · refine zg_aload_n 0 dX5_step_14 rfl rfl ?_
      refine zq_X5_3 rfl rfl zw_25 dX5_step_15 ?_
      refine zg_aload_n 0 dX5_step_18 rfl rfl ?_
      refine zq_X5_1 rfl rfl zw_20 dX5_step_19 ?_
      refine zg_callVV (As := [.ref (zb_ad G 3)]) (rest := []) 1 (zcX0_remember N 3 rfl S) (by decide) (by decide) rfl (by decide) rfl zw_282 zw_283 zw_284 zw_24 zw_285 (by decide +kernel) rfl rfl (Nat.le_of_ble_eq_true rfl) dX5_step_22 (fun S1 => ?_)
      refine zg_aload_n 0 dX5_step_25 rfl rfl ?_
      refine zq_X5_1 rfl rfl zw_20 dX5_step_26 ?_
      refine zq_X1_4 rfl rfl zw_232 dX5_step_29 ?_
      refine zg_bipush (v := 55) dX5_step_32 (by decide) ?_
      refine zg_iald rfl dX5_step_34 ?_
      refine zg_istore_nL (fun x3 => [(2, .int x3), (0, .ref (zb_ad G 0)), (1, .int a1)]) dX5_step_35 rfl (by decide) (fun _ => rfl) (fun x3 => ?_)
      refine zg_aload_n 1 dX5_step_36 rfl rfl ?_
      refine zq_X5_1 rfl rfl zw_20 dX5_step_37 ?_
      refine zg_iload_n 2 dX5_step_40 rfl rfl ?_
      refine zg_callVV (As := [.int a1]) (rest := []) 1 (zcX1_advance N 3 rfl S1 a1) (by decide) (by decide) rfl (by decide) rfl zw_402 zw_403 zw_404 zw_19 zw_405 (by decide +kernel) rfl rfl (Nat.le_of_ble_eq_true rfl) dX5_step_41 (fun S4 => ?_)
      refine zg_aload_n 1 dX5_step_44 rfl rfl ?_
      refine zq_X5_1 rfl rfl zw_20 dX5_step_45 ?_
      refine zq_X1_4 rfl rfl zw_232 dX5_step_48 ?_
      refine zg_bipush (v := 55) dX5_step_51 (by decide) ?_
      refine zg_iald rfl dX5_step_53 ?_
      refine zg_iload_n 0 dX5_step_54 rfl rfl ?_
      refine zg_isub dX5_step_55 ?_
      exact zg_iret rfl dX5_step_56
    · refine zg_bipush (v := (-2)) dX5_step_11 (by decide) ?_
      exact zg_iret rfl dX5_step_13
def fX5_step (N : Nat) (S : zb_S) (a1 : Int32) : Option (Int32 × zb_S) := fX5_step_0 N S a1
theorem zcX5_step {l : Launch} {G : zb_G} (N : Nat) (S : zb_S) (a1 : Int32) : zb_C zb_eI l G 5 yX5_step cX5_step 3 (some .int) [.ref (zb_ad G 0), .int a1] S (fX5_step N S a1) :=
  zb_C.of (by decide +kernel) rfl (Nat.le_of_ble_eq_true rfl) rfl (gX5_step_0 N S a1)
-- X5_undo
def fX5_undo_0 (N : Nat) (S : zb_S) : Option (Int32 × zb_S) :=
  zb_bind (fX0_takeBack N 3 S) (fun r2 S1 =>
  if r2 = 0 then
    some ((-3), S1)
  else
    some (zb_i S1 7 2, S1))
set_option maxHeartbeats 4000000 in
set_option maxRecDepth 100000 in
theorem gX5_undo_0 {l : Launch} {G : zb_G} (N : Nat) (S : zb_S) : zb_Go zb_eI l G 2 RX5 cX5_undo 1 (some .int) 0 [(0, .ref (zb_ad G 0))] [] S (fX5_undo_0 N S) := by
  unfold fX5_undo_0
  refine zg_aload_n 0 dX5_undo_0 rfl rfl ?_
  refine zq_X5_3 rfl rfl zw_25 dX5_undo_1 ?_
  refine zg_aload_n 0 dX5_undo_4 rfl rfl ?_
  refine zq_X5_1 rfl rfl zw_20 dX5_undo_5 ?_
  refine zg_callVI (As := [.ref (zb_ad G 3)]) (rest := []) 1 (zcX0_takeBack N 3 rfl S) (by decide) (by decide) rfl (by decide) rfl zw_517 zw_518 zw_519 zw_24 zw_520 (by decide +kernel) rfl rfl (Nat.le_of_ble_eq_true rfl) dX5_undo_8 (fun r2 S1 => ?_)
  refine zg_if_eq 24 dX5_undo_11 (by decide) ?_ ?_
  · refine zg_bipush (v := (-3)) dX5_undo_24 (by decide) ?_
    exact zg_iret rfl dX5_undo_26
  · refine zg_aload_n 0 dX5_undo_14 rfl rfl ?_
    refine zq_X5_3 rfl rfl zw_25 dX5_undo_15 ?_
    refine zq_X0_2 rfl zw_516 dX5_undo_18 ?_
    refine zg_goto (tgt := 26) dX5_undo_21 (by decide) ?_
    exact zg_iret rfl dX5_undo_26
def fX5_undo (N : Nat) (S : zb_S) : Option (Int32 × zb_S) := fX5_undo_0 N S
theorem zcX5_undo {l : Launch} {G : zb_G} (N : Nat) (S : zb_S) : zb_C zb_eI l G 2 yX5_undo cX5_undo 1 (some .int) [.ref (zb_ad G 0)] S (fX5_undo N S) :=
  zb_C.of (by decide +kernel) rfl (Nat.le_of_ble_eq_true rfl) rfl (gX5_undo_0 N S)
-- X5_ahead
def fX5_ahead_0 (N : Nat) (S : zb_S) (a1 : Int32) (a2 : Int32) (a3 : Int32) : Option (Int32 × zb_S) :=
  zb_bind (fX1_hasZone N 3 S a2) (fun r2 S1 =>
  if r2 = 0 then
    some ((-1), S1)
  else
    if a1 < 0 then
      some ((-2), S1)
    else
      if 99 < a1 then
        some ((-2), S1)
      else
        if a3 < 0 then
          some ((-2), S1)
        else
          if a3 < 7 then
            zb_bind (fX1_copy N 5 3 S1) (fun _ S3 =>
            zb_bind (fX1_advance N 5 S3 a1) (fun _ S5 =>
            zb_bind (fX5_factOf N 5 S5 a2 a3) (fun r8 S7 =>
            some (r8, S7))))
          else
            some ((-2), S1))
set_option maxHeartbeats 4000000 in
set_option maxRecDepth 100000 in
theorem gX5_ahead_0 {l : Launch} {G : zb_G} (N : Nat) (S : zb_S) (a1 : Int32) (a2 : Int32) (a3 : Int32) : zb_Go zb_eI l G 5 RX5 cX5_ahead 4 (some .int) 0 [(0, .ref (zb_ad G 0)), (1, .int a1), (2, .int a2), (3, .int a3)] [] S (fX5_ahead_0 N S a1 a2 a3) := by
  unfold fX5_ahead_0
  refine zg_aload_n 0 dX5_ahead_0 rfl rfl ?_
  refine zq_X5_1 rfl rfl zw_20 dX5_ahead_1 ?_
  refine zg_iload_n 2 dX5_ahead_4 rfl rfl ?_
  refine zg_callVI (As := [.int a2]) (rest := []) 1 (zcX1_hasZone N 3 rfl S a2) (by decide) (by decide) rfl (by decide) rfl zw_228 zw_203 zw_204 zw_19 zw_205 (by decide +kernel) rfl rfl (Nat.le_of_ble_eq_true rfl) dX5_ahead_5 (fun r2 S1 => ?_)
  refine zg_if_ne 13 dX5_ahead_8 (by decide) ?_ ?_
  · refine zg_iload_n 1 dX5_ahead_13 rfl rfl ?_
    refine zg_if_lt 33 dX5_ahead_14 (by decide) ?_ ?_
    · refine zg_bipush (v := (-2)) dX5_ahead_33 (by decide) ?_
      exact zg_iret rfl dX5_ahead_35
    · refine zg_iload_n 1 dX5_ahead_17 rfl rfl ?_
      refine zg_bipush (v := 99) dX5_ahead_18 (by decide) ?_
      refine zg_icmp_gt 33 dX5_ahead_20 (by decide) ?_ ?_
      · refine zg_bipush (v := (-2)) dX5_ahead_33 (by decide) ?_
        exact zg_iret rfl dX5_ahead_35
      · refine zg_iload_n 3 dX5_ahead_23 rfl rfl ?_
        refine zg_if_lt 33 dX5_ahead_24 (by decide) ?_ ?_
        · refine zg_bipush (v := (-2)) dX5_ahead_33 (by decide) ?_
          exact zg_iret rfl dX5_ahead_35
        · refine zg_iload_n 3 dX5_ahead_27 rfl rfl ?_
          refine zg_bipush (v := 7) dX5_ahead_28 (by decide) ?_
          refine zg_icmp_lt 36 dX5_ahead_30 (by decide) ?_ ?_
          · refine zg_aload_n 0 dX5_ahead_36 rfl rfl ?_
            refine zq_X5_2 rfl rfl zw_21 dX5_ahead_37 ?_
            refine zg_aload_n 0 dX5_ahead_40 rfl rfl ?_
            refine zq_X5_1 rfl rfl zw_20 dX5_ahead_41 ?_
            refine zg_callVV (As := [.ref (zb_ad G 3)]) (rest := []) 1 (zcX1_copy N 5 rfl 3 rfl S1) (by decide) (by decide) rfl (by decide) rfl zw_533 zw_534 zw_535 zw_19 zw_536 (by decide +kernel) rfl rfl (Nat.le_of_ble_eq_true rfl) dX5_ahead_44 (fun S3 => ?_)
            refine zg_aload_n 0 dX5_ahead_47 rfl rfl ?_
            refine zq_X5_2 rfl rfl zw_21 dX5_ahead_48 ?_
            refine zg_iload_n 1 dX5_ahead_51 rfl rfl ?_
            refine zg_callVV (As := [.int a1]) (rest := []) 1 (zcX1_advance N 5 rfl S3 a1) (by decide) (by decide) rfl (by decide) rfl zw_402 zw_403 zw_404 zw_19 zw_405 (by decide +kernel) rfl rfl (Nat.le_of_ble_eq_true rfl) dX5_ahead_52 (fun S5 => ?_)
            refine zg_aload_n 0 dX5_ahead_55 rfl rfl ?_
            refine zq_X5_2 rfl rfl zw_21 dX5_ahead_56 ?_
            refine zg_iload_n 2 dX5_ahead_59 rfl rfl ?_
            refine zg_iload_n 3 dX5_ahead_60 rfl rfl ?_
            refine zg_callSI (As := [.ref (zb_ad G 5), .int a2, .int a3]) (rest := []) 3 (zcX5_factOf N 5 rfl S5 a2 a3) (by decide) (by decide) zw_229 zw_230 zw_2 zw_231 (by decide +kernel) rfl rfl (Nat.le_of_ble_eq_true rfl) dX5_ahead_61 (fun r8 S7 => ?_)
            exact zg_iret rfl dX5_ahead_64
          · refine zg_bipush (v := (-2)) dX5_ahead_33 (by decide) ?_
            exact zg_iret rfl dX5_ahead_35
  · refine zg_iconst (v := (-1)) dX5_ahead_11 (by decide) ?_
    exact zg_iret rfl dX5_ahead_12
def fX5_ahead (N : Nat) (S : zb_S) (a1 : Int32) (a2 : Int32) (a3 : Int32) : Option (Int32 × zb_S) := fX5_ahead_0 N S a1 a2 a3
theorem zcX5_ahead {l : Launch} {G : zb_G} (N : Nat) (S : zb_S) (a1 : Int32) (a2 : Int32) (a3 : Int32) : zb_C zb_eI l G 5 yX5_ahead cX5_ahead 4 (some .int) [.ref (zb_ad G 0), .int a1, .int a2, .int a3] S (fX5_ahead N S a1 a2 a3) :=
  zb_C.of (by decide +kernel) rfl (Nat.le_of_ble_eq_true rfl) rfl (gX5_ahead_0 N S a1 a2 a3)
-- X5_stepsTillEmpty
def fX5_stepsTillEmpty_2b (N : Nat) (k2 : zb_S → Int32 → Option (Int32 × zb_S)) (S : zb_S) (l1 : Int32) : Option (Int32 × zb_S) :=
  if 60 ≤ l1 then
    zb_bind (fX1_loaded N 5 S) (fun r2 S1 =>
    if r2 = 0 then
      some (60, S1)
    else
      some ((-9), S1))
  else
    zb_bind (fX1_loaded N 5 S) (fun r4 S3 =>
    if r4 = 0 then
      some (l1, S3)
    else
      zb_bind (fX1_advanceOnce N 5 S3) (fun _ S5 =>
      zb_let (l1 + 1) (fun x7 : Int32 =>
      k2 S5 x7)))
set_option maxHeartbeats 4000000 in
set_option maxRecDepth 100000 in
theorem gX5_stepsTillEmpty_2b {l : Launch} {G : zb_G} (N : Nat) (k2 : zb_S → Int32 → Option (Int32 × zb_S)) (hk2 : ∀ (S : zb_S) (l1 : Int32), zb_Go zb_eI l G 4 RX5 cX5_stepsTillEmpty 2 (some .int) 2 [(0, .ref (zb_ad G 0)), (1, .int l1)] [] S (k2 S l1)) (S : zb_S) (l1 : Int32) : zb_Go zb_eI l G 4 RX5 cX5_stepsTillEmpty 2 (some .int) 2 [(0, .ref (zb_ad G 0)), (1, .int l1)] [] S (fX5_stepsTillEmpty_2b N k2 S l1) := by
  unfold fX5_stepsTillEmpty_2b
  refine zg_iload_n 1 dX5_stepsTillEmpty_2 rfl rfl ?_
  refine zg_bipush (v := 60) dX5_stepsTillEmpty_3 (by decide) ?_
  refine zg_icmp_ge 33 dX5_stepsTillEmpty_5 (by decide) ?_ ?_
  · refine zg_aload_n 0 dX5_stepsTillEmpty_33 rfl rfl ?_
    refine zq_X5_2 rfl rfl zw_21 dX5_stepsTillEmpty_34 ?_
    refine zg_callVI (As := []) (rest := []) 0 (zcX1_loaded N 5 rfl S) (by decide) (by decide) rfl (by decide) rfl zw_554 zw_555 zw_556 zw_19 zw_557 (by decide +kernel) rfl rfl (Nat.le_of_ble_eq_true rfl) dX5_stepsTillEmpty_37 (fun r2 S1 => ?_)
    refine zg_if_ne 48 dX5_stepsTillEmpty_40 (by decide) ?_ ?_
    · refine zg_bipush (v := (-9)) dX5_stepsTillEmpty_48 (by decide) ?_
      exact zg_iret rfl dX5_stepsTillEmpty_50
    · refine zg_bipush (v := 60) dX5_stepsTillEmpty_43 (by decide) ?_
      refine zg_goto (tgt := 50) dX5_stepsTillEmpty_45 (by decide) ?_
      exact zg_iret rfl dX5_stepsTillEmpty_50
  · refine zg_aload_n 0 dX5_stepsTillEmpty_8 rfl rfl ?_
    refine zq_X5_2 rfl rfl zw_21 dX5_stepsTillEmpty_9 ?_
    refine zg_callVI (As := []) (rest := []) 0 (zcX1_loaded N 5 rfl S) (by decide) (by decide) rfl (by decide) rfl zw_554 zw_555 zw_556 zw_19 zw_557 (by decide +kernel) rfl rfl (Nat.le_of_ble_eq_true rfl) dX5_stepsTillEmpty_12 (fun r4 S3 => ?_)
    refine zg_if_ne 20 dX5_stepsTillEmpty_15 (by decide) ?_ ?_
    · refine zg_aload_n 0 dX5_stepsTillEmpty_20 rfl rfl ?_
      refine zq_X5_2 rfl rfl zw_21 dX5_stepsTillEmpty_21 ?_
      refine zg_callVV (As := []) (rest := []) 0 (zcX1_advanceOnce N 5 rfl S3) (by decide) (by decide) rfl (by decide) rfl zw_558 zw_407 zw_408 zw_19 zw_409 (by decide +kernel) rfl rfl (Nat.le_of_ble_eq_true rfl) dX5_stepsTillEmpty_24 (fun S5 => ?_)
      refine zg_iincL (fun x7 => [(1, .int x7), (0, .ref (zb_ad G 0))]) 1 dX5_stepsTillEmpty_27 rfl rfl (by decide) (fun _ => rfl) (fun x7 => ?_)
      refine zg_goto (tgt := 2) dX5_stepsTillEmpty_30 (by decide) ?_
      refine zg_sub [1, 0] rfl ?_
      exact hk2 S5 x7
    · refine zg_iload_n 1 dX5_stepsTillEmpty_18 rfl rfl ?_
      exact zg_iret rfl dX5_stepsTillEmpty_19
def fX5_stepsTillEmpty_2 (N : Nat) : Nat → zb_S → Int32 → Option (Int32 × zb_S)
  | 0, _, _ => none
  | n + 1, S, l1 => fX5_stepsTillEmpty_2b N (fX5_stepsTillEmpty_2 N n) S l1
set_option maxHeartbeats 4000000 in
set_option maxRecDepth 100000 in
theorem gX5_stepsTillEmpty_2 {l : Launch} {G : zb_G} (N : Nat) : ∀ (n : Nat) (S : zb_S) (l1 : Int32), zb_Go zb_eI l G 4 RX5 cX5_stepsTillEmpty 2 (some .int) 2 [(0, .ref (zb_ad G 0)), (1, .int l1)] [] S (fX5_stepsTillEmpty_2 N n S l1) := by
  intro n
  induction n with
  | zero => intros; exact zg_none
  | succ n ih =>
    intro S l1
    exact gX5_stepsTillEmpty_2b N (fX5_stepsTillEmpty_2 N n) ih S l1
def fX5_stepsTillEmpty_0 (N : Nat) (S : zb_S) : Option (Int32 × zb_S) :=
  fX5_stepsTillEmpty_2 N N S 0
set_option maxHeartbeats 4000000 in
set_option maxRecDepth 100000 in
theorem gX5_stepsTillEmpty_0 {l : Launch} {G : zb_G} (N : Nat) (S : zb_S) : zb_Go zb_eI l G 4 RX5 cX5_stepsTillEmpty 2 (some .int) 0 [(0, .ref (zb_ad G 0))] [] S (fX5_stepsTillEmpty_0 N S) := by
  unfold fX5_stepsTillEmpty_0
  refine zg_iconst (v := 0) dX5_stepsTillEmpty_0 (by decide) ?_
  refine zg_istore_n (lv' := [(1, .int 0), (0, .ref (zb_ad G 0))]) dX5_stepsTillEmpty_1 rfl (by decide) rfl ?_
  refine zg_sub [1, 0] rfl ?_
  exact gX5_stepsTillEmpty_2 N N S 0
def fX5_stepsTillEmpty (N : Nat) (S : zb_S) : Option (Int32 × zb_S) := fX5_stepsTillEmpty_0 N S
theorem zcX5_stepsTillEmpty {l : Launch} {G : zb_G} (N : Nat) (S : zb_S) : zb_C zb_eI l G 4 yX5_stepsTillEmpty cX5_stepsTillEmpty 2 (some .int) [.ref (zb_ad G 0)] S (fX5_stepsTillEmpty N S) :=
  zb_C.of (by decide +kernel) rfl (Nat.le_of_ble_eq_true rfl) rfl (gX5_stepsTillEmpty_0 N S)
-- X5_bestRest
def fX5_bestRest_59 (N : Nat) (k7 : zb_S → Int32 → Int32 → Int32 → Option (Int32 × zb_S)) (S : zb_S) (l1 : Int32) (l2 : Int32) (l3 : Int32) : Option (Int32 × zb_S) :=
  zb_let (l3 + 1) (fun x1 : Int32 =>
  k7 S l1 l2 x1)
set_option maxHeartbeats 4000000 in
set_option maxRecDepth 100000 in
theorem gX5_bestRest_59 {l : Launch} {G : zb_G} (N : Nat) (k7 : zb_S → Int32 → Int32 → Int32 → Option (Int32 × zb_S)) (hk7 : ∀ (S : zb_S) (l1 : Int32) (l2 : Int32) (l3 : Int32), zb_Go zb_eI l G 5 RX5 cX5_bestRest 5 (some .int) 7 [(0, .ref (zb_ad G 0)), (1, .int l1), (2, .int l2), (3, .int l3)] [] S (k7 S l1 l2 l3)) (S : zb_S) (l1 : Int32) (l2 : Int32) (l3 : Int32) : zb_Go zb_eI l G 5 RX5 cX5_bestRest 5 (some .int) 59 [(0, .ref (zb_ad G 0)), (1, .int l1), (2, .int l2), (3, .int l3)] [] S (fX5_bestRest_59 N k7 S l1 l2 l3) := by
  unfold fX5_bestRest_59
  refine zg_iincL (fun x1 => [(3, .int x1), (0, .ref (zb_ad G 0)), (1, .int l1), (2, .int l2)]) 3 dX5_bestRest_59 rfl rfl (by decide) (fun _ => rfl) (fun x1 => ?_)
  refine zg_goto (tgt := 7) dX5_bestRest_62 (by decide) ?_
  refine zg_sub [1, 2, 3, 0] rfl ?_
  exact hk7 S l1 l2 x1
def fX5_bestRest_7b (N : Nat) (k7 : zb_S → Int32 → Int32 → Int32 → Option (Int32 × zb_S)) (S : zb_S) (l1 : Int32) (l2 : Int32) (l3 : Int32) : Option (Int32 × zb_S) :=
  if 9 < l3 then
    some (l1, S)
  else
    zb_bind (fX1_copy N 5 3 S) (fun _ S1 =>
    if zb_in 52 (zb_sz 6) then zb_let (zb_pa S1 6 (Int32.toNatClampNeg 52) l3) (fun S3 : zb_S =>
    zb_bind (fX5_stepsTillEmpty N S3) (fun r5 S4 =>
    if r5 = (-9) then
      fX5_bestRest_59 N k7 S4 l1 l2 l3
    else
      if l2 ≤ r5 then
        fX5_bestRest_59 N k7 S4 l1 l2 l3
      else
        fX5_bestRest_59 N k7 S4 l3 r5 l3)) else none)
set_option maxHeartbeats 4000000 in
set_option maxRecDepth 100000 in
theorem gX5_bestRest_7b {l : Launch} {G : zb_G} (N : Nat) (k7 : zb_S → Int32 → Int32 → Int32 → Option (Int32 × zb_S)) (hk7 : ∀ (S : zb_S) (l1 : Int32) (l2 : Int32) (l3 : Int32), zb_Go zb_eI l G 5 RX5 cX5_bestRest 5 (some .int) 7 [(0, .ref (zb_ad G 0)), (1, .int l1), (2, .int l2), (3, .int l3)] [] S (k7 S l1 l2 l3)) (S : zb_S) (l1 : Int32) (l2 : Int32) (l3 : Int32) : zb_Go zb_eI l G 5 RX5 cX5_bestRest 5 (some .int) 7 [(0, .ref (zb_ad G 0)), (1, .int l1), (2, .int l2), (3, .int l3)] [] S (fX5_bestRest_7b N k7 S l1 l2 l3) := by
  unfold fX5_bestRest_7b
  refine zg_iload_n 3 dX5_bestRest_7 rfl rfl ?_
  refine zg_bipush (v := 9) dX5_bestRest_8 (by decide) ?_
  refine zg_icmp_gt 65 dX5_bestRest_10 (by decide) ?_ ?_
  · refine zg_iload_n 1 dX5_bestRest_65 rfl rfl ?_
    exact zg_iret rfl dX5_bestRest_66
  · refine zg_aload_n 0 dX5_bestRest_13 rfl rfl ?_
    refine zq_X5_2 rfl rfl zw_21 dX5_bestRest_14 ?_
    refine zg_aload_n 0 dX5_bestRest_17 rfl rfl ?_
    refine zq_X5_1 rfl rfl zw_20 dX5_bestRest_18 ?_
    refine zg_callVV (As := [.ref (zb_ad G 3)]) (rest := []) 1 (zcX1_copy N 5 rfl 3 rfl S) (by decide) (by decide) rfl (by decide) rfl zw_533 zw_534 zw_535 zw_19 zw_536 (by decide +kernel) rfl rfl (Nat.le_of_ble_eq_true rfl) dX5_bestRest_21 (fun S1 => ?_)
    refine zg_aload_n 0 dX5_bestRest_24 rfl rfl ?_
    refine zq_X5_2 rfl rfl zw_21 dX5_bestRest_25 ?_
    refine zq_X1_4 rfl rfl zw_232 dX5_bestRest_28 ?_
    refine zg_bipush (v := 52) dX5_bestRest_31 (by decide) ?_
    refine zg_iload_n 3 dX5_bestRest_33 rfl rfl ?_
    refine zg_iast rfl dX5_bestRest_34 (fun S3 => ?_)
    refine zg_aload_n 0 dX5_bestRest_35 rfl rfl ?_
    refine zg_callVI (As := []) (rest := []) 0 (zcX5_stepsTillEmpty N S3) (by decide) (by decide) rfl (by decide) rfl zw_550 zw_551 zw_552 zw_2 zw_553 (by decide +kernel) rfl rfl (Nat.le_of_ble_eq_true rfl) dX5_bestRest_36 (fun r5 S4 => ?_)
    refine zg_istore (lv' := [(4, .int r5), (0, .ref (zb_ad G 0)), (1, .int l1), (2, .int l2), (3, .int l3)]) dX5_bestRest_39 (by decide) rfl ?_
    refine zg_iload 0 dX5_bestRest_41 rfl ?_
    refine zg_bipush (v := (-9)) dX5_bestRest_43 (by decide) ?_
    refine zg_icmp_eq 59 dX5_bestRest_45 (by decide) ?_ ?_
    · refine zg_sub [1, 2, 3, 4] rfl ?_
      exact gX5_bestRest_59 N k7 hk7 S4 l1 l2 l3
    · refine zg_iload 0 dX5_bestRest_48 rfl ?_
      refine zg_iload_n 3 dX5_bestRest_50 rfl rfl ?_
      refine zg_icmp_ge 59 dX5_bestRest_51 (by decide) ?_ ?_
      · refine zg_sub [1, 2, 3, 4] rfl ?_
        exact gX5_bestRest_59 N k7 hk7 S4 l1 l2 l3
      · refine zg_iload 0 dX5_bestRest_54 rfl ?_
        refine zg_istore_n (lv' := [(2, .int r5), (4, .int r5), (0, .ref (zb_ad G 0)), (1, .int l1), (3, .int l3)]) dX5_bestRest_56 rfl (by decide) rfl ?_
        refine zg_iload_n 4 dX5_bestRest_57 rfl rfl ?_
        refine zg_istore_n (lv' := [(1, .int l3), (2, .int r5), (4, .int r5), (0, .ref (zb_ad G 0)), (3, .int l3)]) dX5_bestRest_58 rfl (by decide) rfl ?_
        refine zg_sub [3, 0, 1, 4] rfl ?_
        exact gX5_bestRest_59 N k7 hk7 S4 l3 r5 l3
def fX5_bestRest_7 (N : Nat) : Nat → zb_S → Int32 → Int32 → Int32 → Option (Int32 × zb_S)
  | 0, _, _, _, _ => none
  | n + 1, S, l1, l2, l3 => fX5_bestRest_7b N (fX5_bestRest_7 N n) S l1 l2 l3
set_option maxHeartbeats 4000000 in
set_option maxRecDepth 100000 in
theorem gX5_bestRest_7 {l : Launch} {G : zb_G} (N : Nat) : ∀ (n : Nat) (S : zb_S) (l1 : Int32) (l2 : Int32) (l3 : Int32), zb_Go zb_eI l G 5 RX5 cX5_bestRest 5 (some .int) 7 [(0, .ref (zb_ad G 0)), (1, .int l1), (2, .int l2), (3, .int l3)] [] S (fX5_bestRest_7 N n S l1 l2 l3) := by
  intro n
  induction n with
  | zero => intros; exact zg_none
  | succ n ih =>
    intro S l1 l2 l3
    exact gX5_bestRest_7b N (fX5_bestRest_7 N n) ih S l1 l2 l3
def fX5_bestRest_0 (N : Nat) (S : zb_S) : Option (Int32 × zb_S) :=
  fX5_bestRest_7 N N S 0 61 0
set_option maxHeartbeats 4000000 in
set_option maxRecDepth 100000 in
theorem gX5_bestRest_0 {l : Launch} {G : zb_G} (N : Nat) (S : zb_S) : zb_Go zb_eI l G 5 RX5 cX5_bestRest 5 (some .int) 0 [(0, .ref (zb_ad G 0))] [] S (fX5_bestRest_0 N S) := by
  unfold fX5_bestRest_0
  refine zg_iconst (v := 0) dX5_bestRest_0 (by decide) ?_
  refine zg_istore_n (lv' := [(1, .int 0), (0, .ref (zb_ad G 0))]) dX5_bestRest_1 rfl (by decide) rfl ?_
  refine zg_bipush (v := 61) dX5_bestRest_2 (by decide) ?_
  refine zg_istore_n (lv' := [(2, .int 61), (1, .int 0), (0, .ref (zb_ad G 0))]) dX5_bestRest_4 rfl (by decide) rfl ?_
  refine zg_iconst (v := 0) dX5_bestRest_5 (by decide) ?_
  refine zg_istore_n (lv' := [(3, .int 0), (2, .int 61), (1, .int 0), (0, .ref (zb_ad G 0))]) dX5_bestRest_6 rfl (by decide) rfl ?_
  refine zg_sub [3, 2, 1, 0] rfl ?_
  exact gX5_bestRest_7 N N S 0 61 0
def fX5_bestRest (N : Nat) (S : zb_S) : Option (Int32 × zb_S) := fX5_bestRest_0 N S
theorem zcX5_bestRest {l : Launch} {G : zb_G} (N : Nat) (S : zb_S) : zb_C zb_eI l G 5 yX5_bestRest cX5_bestRest 5 (some .int) [.ref (zb_ad G 0)] S (fX5_bestRest N S) :=
  zb_C.of (by decide +kernel) rfl (Nat.le_of_ble_eq_true rfl) rfl (gX5_bestRest_0 N S)
-- X5_ask
def fX5_ask_0 (N : Nat) (S : zb_S) (a1 : Int32) : Option (Int32 × zb_S) :=
  if a1 = 0 then
    zb_bind (fX1_copy N 5 3 S) (fun _ S1 =>
    zb_bind (fX5_stepsTillEmpty N S1) (fun r4 S3 =>
    some (r4, S3)))
  else if a1 = 1 then
    zb_bind (fX5_bestRest N S) (fun r7 S6 =>
    some (r7, S6))
  else if a1 = 2 then
    zb_bind (fX1_copy N 5 3 S) (fun _ S9 =>
    zb_bind (fX1_advance N 5 S9 60) (fun _ S11 =>
    if zb_in 55 (zb_sz 6) then
    if zb_in 55 (zb_sz 4) then
    some ((zb_a S11 6 (Int32.toNatClampNeg 55)) - (zb_a S11 4 (Int32.toNatClampNeg 55)), S11) else none else none))
  else 
    some ((-2), S)
set_option maxHeartbeats 4000000 in
set_option maxRecDepth 100000 in
theorem gX5_ask_0 {l : Launch} {G : zb_G} (N : Nat) (S : zb_S) (a1 : Int32) : zb_Go zb_eI l G 6 RX5 cX5_ask 2 (some .int) 0 [(0, .ref (zb_ad G 0)), (1, .int a1)] [] S (fX5_ask_0 N S a1) := by
  unfold fX5_ask_0
  refine zg_iload_n 1 dX5_ask_0 rfl rfl ?_
  refine zg_if (fun q5 => ?_) (fun q5 => ?_)
  · refine zg_tableIn dX5_ask_1 (by rw [q5]; decide) (by rw [q5]; decide) (by rw [q5]; rfl) (by decide : (1 : Int) + 27 = (28 : Nat)) ?_
    refine zg_aload_n 0 dX5_ask_28 rfl rfl ?_
    refine zq_X5_2 rfl rfl zw_21 dX5_ask_29 ?_
    refine zg_aload_n 0 dX5_ask_32 rfl rfl ?_
    refine zq_X5_1 rfl rfl zw_20 dX5_ask_33 ?_
    refine zg_callVV (As := [.ref (zb_ad G 3)]) (rest := []) 1 (zcX1_copy N 5 rfl 3 rfl S) (by decide) (by decide) rfl (by decide) rfl zw_533 zw_534 zw_535 zw_19 zw_536 (by decide +kernel) rfl rfl (Nat.le_of_ble_eq_true rfl) dX5_ask_36 (fun S1 => ?_)
    refine zg_aload_n 0 dX5_ask_39 rfl rfl ?_
    refine zg_callVI (As := []) (rest := []) 0 (zcX5_stepsTillEmpty N S1) (by decide) (by decide) rfl (by decide) rfl zw_550 zw_551 zw_552 zw_2 zw_553 (by decide +kernel) rfl rfl (Nat.le_of_ble_eq_true rfl) dX5_ask_40 (fun r4 S3 => ?_)
    exact zg_iret rfl dX5_ask_43
  · refine zg_if (fun q8 => ?_) (fun q8 => ?_)
    · refine zg_tableIn dX5_ask_1 (by rw [q8]; decide) (by rw [q8]; decide) (by rw [q8]; rfl) (by decide : (1 : Int) + 43 = (44 : Nat)) ?_
      refine zg_aload_n 0 dX5_ask_44 rfl rfl ?_
      refine zg_callVI (As := []) (rest := []) 0 (zcX5_bestRest N S) (by decide) (by decide) rfl (by decide) rfl zw_559 zw_560 zw_561 zw_2 zw_562 (by decide +kernel) rfl rfl (Nat.le_of_ble_eq_true rfl) dX5_ask_45 (fun r7 S6 => ?_)
      exact zg_iret rfl dX5_ask_48
    · refine zg_if (fun q13 => ?_) (fun q13 => ?_)
      · refine zg_tableIn dX5_ask_1 (by rw [q13]; decide) (by rw [q13]; decide) (by rw [q13]; rfl) (by decide : (1 : Int) + 48 = (49 : Nat)) ?_
        refine zg_aload_n 0 dX5_ask_49 rfl rfl ?_
        refine zq_X5_2 rfl rfl zw_21 dX5_ask_50 ?_
        refine zg_aload_n 0 dX5_ask_53 rfl rfl ?_
        refine zq_X5_1 rfl rfl zw_20 dX5_ask_54 ?_
        refine zg_callVV (As := [.ref (zb_ad G 3)]) (rest := []) 1 (zcX1_copy N 5 rfl 3 rfl S) (by decide) (by decide) rfl (by decide) rfl zw_533 zw_534 zw_535 zw_19 zw_536 (by decide +kernel) rfl rfl (Nat.le_of_ble_eq_true rfl) dX5_ask_57 (fun S9 => ?_)
        refine zg_aload_n 0 dX5_ask_60 rfl rfl ?_
        refine zq_X5_2 rfl rfl zw_21 dX5_ask_61 ?_
        refine zg_bipush (v := 60) dX5_ask_64 (by decide) ?_
        refine zg_callVV (As := [.int 60]) (rest := []) 1 (zcX1_advance N 5 rfl S9 60) (by decide) (by decide) rfl (by decide) rfl zw_402 zw_403 zw_404 zw_19 zw_405 (by decide +kernel) rfl rfl (Nat.le_of_ble_eq_true rfl) dX5_ask_66 (fun S11 => ?_)
        refine zg_aload_n 0 dX5_ask_69 rfl rfl ?_
        refine zq_X5_2 rfl rfl zw_21 dX5_ask_70 ?_
        refine zq_X1_4 rfl rfl zw_232 dX5_ask_73 ?_
        refine zg_bipush (v := 55) dX5_ask_76 (by decide) ?_
        refine zg_iald rfl dX5_ask_78 ?_
        refine zg_aload_n 0 dX5_ask_79 rfl rfl ?_
        refine zq_X5_1 rfl rfl zw_20 dX5_ask_80 ?_
        refine zq_X1_4 rfl rfl zw_232 dX5_ask_83 ?_
        refine zg_bipush (v := 55) dX5_ask_86 (by decide) ?_
        refine zg_iald rfl dX5_ask_88 ?_
        refine zg_isub dX5_ask_89 ?_
        exact zg_iret rfl dX5_ask_90
      · refine zg_tableOut dX5_ask_1 (by have q5 := lv_neT q5 (show (0 : Int32).toInt = 0 from by decide); have q8 := lv_neT q8 (show (1 : Int32).toInt = 1 from by decide); have q13 := lv_neT q13 (show (2 : Int32).toInt = 2 from by decide); omega) (by decide : (1 : Int) + 90 = (91 : Nat)) ?_
        refine zg_bipush (v := (-2)) dX5_ask_91 (by decide) ?_
        exact zg_iret rfl dX5_ask_93
def fX5_ask (N : Nat) (S : zb_S) (a1 : Int32) : Option (Int32 × zb_S) := fX5_ask_0 N S a1
theorem zcX5_ask {l : Launch} {G : zb_G} (N : Nat) (S : zb_S) (a1 : Int32) : zb_C zb_eI l G 6 yX5_ask cX5_ask 2 (some .int) [.ref (zb_ad G 0), .int a1] S (fX5_ask N S a1) :=
  zb_C.of (by decide +kernel) rfl (Nat.le_of_ble_eq_true rfl) rfl (gX5_ask_0 N S a1)
-- X5_row
def fX5_row_41b (N : Nat) (k41 : zb_S → Int32 → Int32 → Option (Int32 × zb_S)) (S : zb_S) (l2 : Int32) (l3 : Int32) : Option (Int32 × zb_S) :=
  if 60 ≤ l3 then
    some ((-9), S)
  else
    zb_bind (fX1_advanceOnce N 5 S) (fun _ S1 =>
    if zb_in 55 (zb_sz 6) then
    if (zb_a S1 6 (Int32.toNatClampNeg 55)) = l2 then
      some (zb_i S1 5 5, S1)
    else
      zb_let (l3 + 1) (fun x3 : Int32 =>
      k41 S1 l2 x3) else none)
set_option maxHeartbeats 4000000 in
set_option maxRecDepth 100000 in
theorem gX5_row_41b {l : Launch} {G : zb_G} (N : Nat) (k41 : zb_S → Int32 → Int32 → Option (Int32 × zb_S)) (hk41 : ∀ (S : zb_S) (l2 : Int32) (l3 : Int32), zb_Go zb_eI l G 4 RX5 cX5_row 4 (some .int) 41 [(0, .ref (zb_ad G 0)), (2, .int l2), (3, .int l3)] [] S (k41 S l2 l3)) (S : zb_S) (l2 : Int32) (l3 : Int32) : zb_Go zb_eI l G 4 RX5 cX5_row 4 (some .int) 41 [(0, .ref (zb_ad G 0)), (2, .int l2), (3, .int l3)] [] S (fX5_row_41b N k41 S l2 l3) := by
  unfold fX5_row_41b
  refine zg_iload_n 2 dX5_row_41 rfl rfl ?_
  refine zg_bipush (v := 60) dX5_row_42 (by decide) ?_
  refine zg_icmp_ge 82 dX5_row_44 (by decide) ?_ ?_
  · refine zg_bipush (v := (-9)) dX5_row_82 (by decide) ?_
    exact zg_iret rfl dX5_row_84
  · refine zg_aload_n 0 dX5_row_47 rfl rfl ?_
    refine zq_X5_2 rfl rfl zw_21 dX5_row_48 ?_
    refine zg_callVV (As := []) (rest := []) 0 (zcX1_advanceOnce N 5 rfl S) (by decide) (by decide) rfl (by decide) rfl zw_558 zw_407 zw_408 zw_19 zw_409 (by decide +kernel) rfl rfl (Nat.le_of_ble_eq_true rfl) dX5_row_51 (fun S1 => ?_)
    refine zg_aload_n 0 dX5_row_54 rfl rfl ?_
    refine zq_X5_2 rfl rfl zw_21 dX5_row_55 ?_
    refine zq_X1_4 rfl rfl zw_232 dX5_row_58 ?_
    refine zg_bipush (v := 55) dX5_row_61 (by decide) ?_
    refine zg_iald rfl dX5_row_63 ?_
    refine zg_iload_n 1 dX5_row_64 rfl rfl ?_
    refine zg_icmp_ne 76 dX5_row_65 (by decide) ?_ ?_
    · refine zg_iincL (fun x3 => [(3, .int x3), (0, .ref (zb_ad G 0)), (2, .int l2)]) 2 dX5_row_76 rfl rfl (by decide) (fun _ => rfl) (fun x3 => ?_)
      refine zg_goto (tgt := 41) dX5_row_79 (by decide) ?_
      refine zg_sub [1, 2, 0] rfl ?_
      exact hk41 S1 l2 x3
    · refine zg_aload_n 0 dX5_row_68 rfl rfl ?_
      refine zq_X5_2 rfl rfl zw_21 dX5_row_69 ?_
      refine zq_X1_5 rfl zw_583 dX5_row_72 ?_
      exact zg_iret rfl dX5_row_75
def fX5_row_41 (N : Nat) : Nat → zb_S → Int32 → Int32 → Option (Int32 × zb_S)
  | 0, _, _, _ => none
  | n + 1, S, l2, l3 => fX5_row_41b N (fX5_row_41 N n) S l2 l3
set_option maxHeartbeats 4000000 in
set_option maxRecDepth 100000 in
theorem gX5_row_41 {l : Launch} {G : zb_G} (N : Nat) : ∀ (n : Nat) (S : zb_S) (l2 : Int32) (l3 : Int32), zb_Go zb_eI l G 4 RX5 cX5_row 4 (some .int) 41 [(0, .ref (zb_ad G 0)), (2, .int l2), (3, .int l3)] [] S (fX5_row_41 N n S l2 l3) := by
  intro n
  induction n with
  | zero => intros; exact zg_none
  | succ n ih =>
    intro S l2 l3
    exact gX5_row_41b N (fX5_row_41 N n) ih S l2 l3
def fX5_row_0 (N : Nat) (S : zb_S) (a1 : Int32) : Option (Int32 × zb_S) :=
  if a1 < 0 then
    some ((-9), S)
  else
    if a1 < 60 then
      if zb_in 55 (zb_sz 4) then
      zb_let (((zb_a S 4 (Int32.toNatClampNeg 55)) + a1) + 1) (fun x1 : Int32 =>
      zb_bind (fX1_copy N 5 3 S) (fun _ S2 =>
      fX5_row_41 N N S2 x1 0)) else none
    else
      some ((-9), S)
set_option maxHeartbeats 4000000 in
set_option maxRecDepth 100000 in
theorem gX5_row_0 {l : Launch} {G : zb_G} (N : Nat) (S : zb_S) (a1 : Int32) : zb_Go zb_eI l G 4 RX5 cX5_row 4 (some .int) 0 [(0, .ref (zb_ad G 0)), (1, .int a1)] [] S (fX5_row_0 N S a1) := by
  unfold fX5_row_0
  refine zg_iload_n 1 dX5_row_0 rfl rfl ?_
  refine zg_if_lt 10 dX5_row_1 (by decide) ?_ ?_
  · refine zg_bipush (v := (-9)) dX5_row_10 (by decide) ?_
    exact zg_iret rfl dX5_row_12
  · refine zg_iload_n 1 dX5_row_4 rfl rfl ?_
    refine zg_bipush (v := 60) dX5_row_5 (by decide) ?_
    refine zg_icmp_lt 13 dX5_row_7 (by decide) ?_ ?_
    · refine zg_aload_n 0 dX5_row_13 rfl rfl ?_
      refine zq_X5_1 rfl rfl zw_20 dX5_row_14 ?_
      refine zq_X1_4 rfl rfl zw_232 dX5_row_17 ?_
      refine zg_bipush (v := 55) dX5_row_20 (by decide) ?_
      refine zg_iald rfl dX5_row_22 ?_
      refine zg_iload_n 1 dX5_row_23 rfl rfl ?_
      refine zg_iadd dX5_row_24 ?_
      refine zg_iconst (v := 1) dX5_row_25 (by decide) ?_
      refine zg_iadd dX5_row_26 ?_
      refine zg_istore_nL (fun x1 => [(2, .int x1), (0, .ref (zb_ad G 0)), (1, .int a1)]) dX5_row_27 rfl (by decide) (fun _ => rfl) (fun x1 => ?_)
      refine zg_aload_n 1 dX5_row_28 rfl rfl ?_
      refine zq_X5_2 rfl rfl zw_21 dX5_row_29 ?_
      refine zg_aload_n 1 dX5_row_32 rfl rfl ?_
      refine zq_X5_1 rfl rfl zw_20 dX5_row_33 ?_
      refine zg_callVV (As := [.ref (zb_ad G 3)]) (rest := []) 1 (zcX1_copy N 5 rfl 3 rfl S) (by decide) (by decide) rfl (by decide) rfl zw_533 zw_534 zw_535 zw_19 zw_536 (by decide +kernel) rfl rfl (Nat.le_of_ble_eq_true rfl) dX5_row_36 (fun S2 => ?_)
      refine zg_iconst (v := 0) dX5_row_39 (by decide) ?_
      refine zg_istore_n (lv' := [(3, .int 0), (2, .int x1), (0, .ref (zb_ad G 0)), (1, .int a1)]) dX5_row_40 rfl (by decide) rfl ?_
      refine zg_sub [2, 1, 0] rfl ?_
      exact gX5_row_41 N N S2 x1 0
    · refine zg_bipush (v := (-9)) dX5_row_10 (by decide) ?_
      exact zg_iret rfl dX5_row_12
def fX5_row (N : Nat) (S : zb_S) (a1 : Int32) : Option (Int32 × zb_S) := fX5_row_0 N S a1
theorem zcX5_row {l : Launch} {G : zb_G} (N : Nat) (S : zb_S) (a1 : Int32) : zb_C zb_eI l G 4 yX5_row cX5_row 4 (some .int) [.ref (zb_ad G 0), .int a1] S (fX5_row N S a1) :=
  zb_C.of (by decide +kernel) rfl (Nat.le_of_ble_eq_true rfl) rfl (gX5_row_0 N S a1)
-- X5_feedTold
def fX5_feedTold_0 (N : Nat) (b0 : Nat) (S : zb_S) (a1 : Int32) : Option (Int32 × zb_S) :=
  zb_bind (fX1_canFeed N b0 S a1) (fun r2 S1 =>
  if r2 = 0 then
    if (0 : Int32) = 0 ∨ (0 : Int32) = 1 then some (0, S1) else none
  else
    zb_bind (fX1_entryOf N b0 S1 a1) (fun r4 S3 =>
    zb_bind (fX1_putNext N b0 S3 r4) (fun r6 S5 =>
    if (1 : Int32) = 0 ∨ (1 : Int32) = 1 then some (1, S5) else none)))
set_option maxHeartbeats 4000000 in
set_option maxRecDepth 100000 in
theorem gX5_feedTold_0 {l : Launch} {G : zb_G} (N : Nat) (b0 : Nat) (h0 : zb_kd b0 = 1) (S : zb_S) (a1 : Int32) : zb_Go zb_eI l G 2 RX5 cX5_feedTold 2 (some .boolean) 0 [(0, .ref (zb_ad G b0)), (1, .int a1)] [] S (fX5_feedTold_0 N b0 S a1) := by
  unfold fX5_feedTold_0
  refine zg_aload_n 0 dX5_feedTold_0 rfl rfl ?_
  refine zg_iload_n 1 dX5_feedTold_1 rfl rfl ?_
  refine zg_callVI (As := [.int a1]) (rest := []) 1 (zcX1_canFeed N b0 h0 S a1) (by decide) (by decide) h0 (by decide) rfl zw_276 zw_277 zw_278 zw_19 zw_279 (by decide +kernel) rfl rfl (Nat.le_of_ble_eq_true rfl) dX5_feedTold_2 (fun r2 S1 => ?_)
  refine zg_if_ne 10 dX5_feedTold_5 (by decide) ?_ ?_
  · refine zg_aload_n 0 dX5_feedTold_10 rfl rfl ?_
    refine zg_aload_n 0 dX5_feedTold_11 rfl rfl ?_
    refine zg_iload_n 1 dX5_feedTold_12 rfl rfl ?_
    refine zg_callVI (As := [.int a1]) (rest := [.ref (zb_ad G b0)]) 1 (zcX1_entryOf N b0 h0 S1 a1) (by decide) (by decide) h0 (by decide) rfl zw_272 zw_273 zw_274 zw_19 zw_275 (by decide +kernel) rfl rfl (Nat.le_of_ble_eq_true rfl) dX5_feedTold_13 (fun r4 S3 => ?_)
    refine zg_callVI (As := [.int r4]) (rest := []) 1 (zcX1_putNext N b0 h0 S3 r4) (by decide) (by decide) h0 (by decide) rfl zw_298 zw_207 zw_208 zw_19 zw_209 (by decide +kernel) rfl rfl (Nat.le_of_ble_eq_true rfl) dX5_feedTold_16 (fun r6 S5 => ?_)
    refine zg_pop dX5_feedTold_19 rfl ?_
    refine zg_iconst (v := 1) dX5_feedTold_20 (by decide) ?_
    exact zg_zret rfl dX5_feedTold_21
  · refine zg_iconst (v := 0) dX5_feedTold_8 (by decide) ?_
    exact zg_zret rfl dX5_feedTold_9
def fX5_feedTold (N : Nat) (b0 : Nat) (S : zb_S) (a1 : Int32) : Option (Int32 × zb_S) := fX5_feedTold_0 N b0 S a1
theorem zcX5_feedTold {l : Launch} {G : zb_G} (N : Nat) (b0 : Nat) (h0 : zb_kd b0 = 1) (S : zb_S) (a1 : Int32) : zb_C zb_eI l G 2 yX5_feedTold cX5_feedTold 2 (some .boolean) [.ref (zb_ad G b0), .int a1] S (fX5_feedTold N b0 S a1) :=
  zb_C.of (by decide +kernel) rfl (Nat.le_of_ble_eq_true rfl) rfl (gX5_feedTold_0 N b0 h0 S a1)
-- X5_liftTold
def fX5_liftTold_0 (N : Nat) (b0 : Nat) (S : zb_S) (a1 : Int32) : Option (Int32 × zb_S) :=
  zb_bind (fX1_hasZone N b0 S a1) (fun r2 S1 =>
  if r2 = 0 then
    if (0 : Int32) = 0 ∨ (0 : Int32) = 1 then some (0, S1) else none
  else
    zb_bind (fX1_hasCarton N b0 S1 a1) (fun r4 S3 =>
    if r4 = 0 then
      if (0 : Int32) = 0 ∨ (0 : Int32) = 1 then some (0, S3) else none
    else
      zb_bind (fX1_takeAway N b0 S3 a1) (fun r6 S5 =>
      if (1 : Int32) = 0 ∨ (1 : Int32) = 1 then some (1, S5) else none)))
set_option maxHeartbeats 4000000 in
set_option maxRecDepth 100000 in
theorem gX5_liftTold_0 {l : Launch} {G : zb_G} (N : Nat) (b0 : Nat) (h0 : zb_kd b0 = 1) (S : zb_S) (a1 : Int32) : zb_Go zb_eI l G 2 RX5 cX5_liftTold 2 (some .boolean) 0 [(0, .ref (zb_ad G b0)), (1, .int a1)] [] S (fX5_liftTold_0 N b0 S a1) := by
  unfold fX5_liftTold_0
  refine zg_aload_n 0 dX5_liftTold_0 rfl rfl ?_
  refine zg_iload_n 1 dX5_liftTold_1 rfl rfl ?_
  refine zg_callVI (As := [.int a1]) (rest := []) 1 (zcX1_hasZone N b0 h0 S a1) (by decide) (by decide) h0 (by decide) rfl zw_228 zw_203 zw_204 zw_19 zw_205 (by decide +kernel) rfl rfl (Nat.le_of_ble_eq_true rfl) dX5_liftTold_2 (fun r2 S1 => ?_)
  refine zg_if_eq 16 dX5_liftTold_5 (by decide) ?_ ?_
  · refine zg_iconst (v := 0) dX5_liftTold_16 (by decide) ?_
    exact zg_zret rfl dX5_liftTold_17
  · refine zg_aload_n 0 dX5_liftTold_8 rfl rfl ?_
    refine zg_iload_n 1 dX5_liftTold_9 rfl rfl ?_
    refine zg_callVI (As := [.int a1]) (rest := []) 1 (zcX1_hasCarton N b0 h0 S1 a1) (by decide) (by decide) h0 (by decide) rfl zw_233 zw_234 zw_235 zw_19 zw_236 (by decide +kernel) rfl rfl (Nat.le_of_ble_eq_true rfl) dX5_liftTold_10 (fun r4 S3 => ?_)
    refine zg_if_ne 18 dX5_liftTold_13 (by decide) ?_ ?_
    · refine zg_aload_n 0 dX5_liftTold_18 rfl rfl ?_
      refine zg_iload_n 1 dX5_liftTold_19 rfl rfl ?_
      refine zg_callVI (As := [.int a1]) (rest := []) 1 (zcX1_takeAway N b0 h0 S3 a1) (by decide) (by decide) h0 (by decide) rfl zw_323 zw_324 zw_325 zw_19 zw_326 (by decide +kernel) rfl rfl (Nat.le_of_ble_eq_true rfl) dX5_liftTold_20 (fun r6 S5 => ?_)
      refine zg_pop dX5_liftTold_23 rfl ?_
      refine zg_iconst (v := 1) dX5_liftTold_24 (by decide) ?_
      exact zg_zret rfl dX5_liftTold_25
    · refine zg_iconst (v := 0) dX5_liftTold_16 (by decide) ?_
      exact zg_zret rfl dX5_liftTold_17
def fX5_liftTold (N : Nat) (b0 : Nat) (S : zb_S) (a1 : Int32) : Option (Int32 × zb_S) := fX5_liftTold_0 N b0 S a1
theorem zcX5_liftTold {l : Launch} {G : zb_G} (N : Nat) (b0 : Nat) (h0 : zb_kd b0 = 1) (S : zb_S) (a1 : Int32) : zb_C zb_eI l G 2 yX5_liftTold cX5_liftTold 2 (some .boolean) [.ref (zb_ad G b0), .int a1] S (fX5_liftTold N b0 S a1) :=
  zb_C.of (by decide +kernel) rfl (Nat.le_of_ble_eq_true rfl) rfl (gX5_liftTold_0 N b0 h0 S a1)
-- X5_turnTold
def fX5_turnTold_0 (N : Nat) (b0 : Nat) (S : zb_S) (a1 : Int32) : Option (Int32 × zb_S) :=
  if a1 = 0 then
    zb_bind (fX1_turnExit N b0 S) (fun r2 S1 =>
    if (1 : Int32) = 0 ∨ (1 : Int32) = 1 then some (1, S1) else none)
  else
    if (0 : Int32) = 0 ∨ (0 : Int32) = 1 then some (0, S) else none
set_option maxHeartbeats 4000000 in
set_option maxRecDepth 100000 in
theorem gX5_turnTold_0 {l : Launch} {G : zb_G} (N : Nat) (b0 : Nat) (h0 : zb_kd b0 = 1) (S : zb_S) (a1 : Int32) : zb_Go zb_eI l G 1 RX5 cX5_turnTold 2 (some .boolean) 0 [(0, .ref (zb_ad G b0)), (1, .int a1)] [] S (fX5_turnTold_0 N b0 S a1) := by
  unfold fX5_turnTold_0
  refine zg_iload_n 1 dX5_turnTold_0 rfl rfl ?_
  refine zg_if_eq 6 dX5_turnTold_1 (by decide) ?_ ?_
  · refine zg_aload_n 0 dX5_turnTold_6 rfl rfl ?_
    refine zg_callVI (As := []) (rest := []) 0 (zcX1_turnExit N b0 h0 S) (by decide) (by decide) h0 (by decide) rfl zw_346 zw_347 zw_348 zw_19 zw_349 (by decide +kernel) rfl rfl (Nat.le_of_ble_eq_true rfl) dX5_turnTold_7 (fun r2 S1 => ?_)
    refine zg_pop dX5_turnTold_10 rfl ?_
    refine zg_iconst (v := 1) dX5_turnTold_11 (by decide) ?_
    exact zg_zret rfl dX5_turnTold_12
  · refine zg_iconst (v := 0) dX5_turnTold_4 (by decide) ?_
    exact zg_zret rfl dX5_turnTold_5
def fX5_turnTold (N : Nat) (b0 : Nat) (S : zb_S) (a1 : Int32) : Option (Int32 × zb_S) := fX5_turnTold_0 N b0 S a1
theorem zcX5_turnTold {l : Launch} {G : zb_G} (N : Nat) (b0 : Nat) (h0 : zb_kd b0 = 1) (S : zb_S) (a1 : Int32) : zb_C zb_eI l G 1 yX5_turnTold cX5_turnTold 2 (some .boolean) [.ref (zb_ad G b0), .int a1] S (fX5_turnTold N b0 S a1) :=
  zb_C.of (by decide +kernel) rfl (Nat.le_of_ble_eq_true rfl) rfl (gX5_turnTold_0 N b0 h0 S a1)
-- X5_eyeTold
def fX5_eyeTold_0 (N : Nat) (b0 : Nat) (S : zb_S) (a1 : Int32) (a2 : Int32) : Option (Int32 × zb_S) :=
  zb_bind (fX1_hasZone N b0 S a1) (fun r2 S1 =>
  if r2 = 0 then
    if (0 : Int32) = 0 ∨ (0 : Int32) = 1 then some (0, S1) else none
  else
    zb_bind (fX1_isEye N S1 a2) (fun r4 S3 =>
    if r4 = 0 then
      if (0 : Int32) = 0 ∨ (0 : Int32) = 1 then some (0, S3) else none
    else
      if zb_in (12 + a1) (zb_sz (b0 + 1)) then zb_let (zb_pa S3 (b0 + 1) (Int32.toNatClampNeg (12 + a1)) a2) (fun S5 : zb_S =>
      if (1 : Int32) = 0 ∨ (1 : Int32) = 1 then some (1, S5) else none) else none))
set_option maxHeartbeats 4000000 in
set_option maxRecDepth 100000 in
theorem gX5_eyeTold_0 {l : Launch} {G : zb_G} (N : Nat) (b0 : Nat) (h0 : zb_kd b0 = 1) (S : zb_S) (a1 : Int32) (a2 : Int32) : zb_Go zb_eI l G 1 RX5 cX5_eyeTold 3 (some .boolean) 0 [(0, .ref (zb_ad G b0)), (1, .int a1), (2, .int a2)] [] S (fX5_eyeTold_0 N b0 S a1 a2) := by
  unfold fX5_eyeTold_0
  refine zg_aload_n 0 dX5_eyeTold_0 rfl rfl ?_
  refine zg_iload_n 1 dX5_eyeTold_1 rfl rfl ?_
  refine zg_callVI (As := [.int a1]) (rest := []) 1 (zcX1_hasZone N b0 h0 S a1) (by decide) (by decide) h0 (by decide) rfl zw_228 zw_203 zw_204 zw_19 zw_205 (by decide +kernel) rfl rfl (Nat.le_of_ble_eq_true rfl) dX5_eyeTold_2 (fun r2 S1 => ?_)
  refine zg_if_eq 15 dX5_eyeTold_5 (by decide) ?_ ?_
  · refine zg_iconst (v := 0) dX5_eyeTold_15 (by decide) ?_
    exact zg_zret rfl dX5_eyeTold_16
  · refine zg_iload_n 2 dX5_eyeTold_8 rfl rfl ?_
    refine zg_callSI (As := [.int a2]) (rest := []) 1 (zcX1_isEye N S1 a2) (by decide) (by decide) zw_358 zw_359 zw_19 zw_360 (by decide +kernel) rfl rfl (Nat.le_of_ble_eq_true rfl) dX5_eyeTold_9 (fun r4 S3 => ?_)
    refine zg_if_ne 17 dX5_eyeTold_12 (by decide) ?_ ?_
    · refine zg_aload_n 0 dX5_eyeTold_17 rfl rfl ?_
      refine zq_X1_4 h0 (zk_X1_4 h0).1 zw_232 dX5_eyeTold_18 ?_
      refine zg_bipush (v := 12) dX5_eyeTold_21 (by decide) ?_
      refine zg_iload_n 1 dX5_eyeTold_23 rfl rfl ?_
      refine zg_iadd dX5_eyeTold_24 ?_
      refine zg_iload_n 2 dX5_eyeTold_25 rfl rfl ?_
      refine zg_iast (zk_X1_4 h0).2.1 dX5_eyeTold_26 (fun S5 => ?_)
      refine zg_iconst (v := 1) dX5_eyeTold_27 (by decide) ?_
      exact zg_zret rfl dX5_eyeTold_28
    · refine zg_iconst (v := 0) dX5_eyeTold_15 (by decide) ?_
      exact zg_zret rfl dX5_eyeTold_16
def fX5_eyeTold (N : Nat) (b0 : Nat) (S : zb_S) (a1 : Int32) (a2 : Int32) : Option (Int32 × zb_S) := fX5_eyeTold_0 N b0 S a1 a2
theorem zcX5_eyeTold {l : Launch} {G : zb_G} (N : Nat) (b0 : Nat) (h0 : zb_kd b0 = 1) (S : zb_S) (a1 : Int32) (a2 : Int32) : zb_C zb_eI l G 1 yX5_eyeTold cX5_eyeTold 3 (some .boolean) [.ref (zb_ad G b0), .int a1, .int a2] S (fX5_eyeTold N b0 S a1 a2) :=
  zb_C.of (by decide +kernel) rfl (Nat.le_of_ble_eq_true rfl) rfl (gX5_eyeTold_0 N b0 h0 S a1 a2)
-- X5_holds
def fX5_holds_177 (N : Nat) (b0 : Nat) (S : zb_S) (s0 : Int32) (s1 : Int32) : Option (Int32 × zb_S) :=
  if s1 = s0 then
    if (1 : Int32) = 0 ∨ (1 : Int32) = 1 then some (1, S) else none
  else
    if (0 : Int32) = 0 ∨ (0 : Int32) = 1 then some (0, S) else none
set_option maxHeartbeats 4000000 in
set_option maxRecDepth 100000 in
theorem gX5_holds_177 {l : Launch} {G : zb_G} (N : Nat) (b0 : Nat) (h0 : zb_kd b0 = 1) (S : zb_S) (s0 : Int32) (s1 : Int32) : zb_Go zb_eI l G 5 RX5 cX5_holds 5 (some .boolean) 177 [] [.int s0, .int s1] S (fX5_holds_177 N b0 S s0 s1) := by
  unfold fX5_holds_177
  refine zg_icmp_ne 184 dX5_holds_177 (by decide) ?_ ?_
  · refine zg_iconst (v := 0) dX5_holds_184 (by decide) ?_
    exact zg_zret rfl dX5_holds_185
  · refine zg_iconst (v := 1) dX5_holds_180 (by decide) ?_
    refine zg_goto (tgt := 185) dX5_holds_181 (by decide) ?_
    exact zg_zret rfl dX5_holds_185
def fX5_holds_229 (N : Nat) (b0 : Nat) (S : zb_S) (s0 : Int32) (s1 : Int32) : Option (Int32 × zb_S) :=
  if s1 = s0 then
    if (1 : Int32) = 0 ∨ (1 : Int32) = 1 then some (1, S) else none
  else
    if (0 : Int32) = 0 ∨ (0 : Int32) = 1 then some (0, S) else none
set_option maxHeartbeats 4000000 in
set_option maxRecDepth 100000 in
theorem gX5_holds_229 {l : Launch} {G : zb_G} (N : Nat) (b0 : Nat) (h0 : zb_kd b0 = 1) (S : zb_S) (s0 : Int32) (s1 : Int32) : zb_Go zb_eI l G 5 RX5 cX5_holds 5 (some .boolean) 229 [] [.int s0, .int s1] S (fX5_holds_229 N b0 S s0 s1) := by
  unfold fX5_holds_229
  refine zg_icmp_ne 236 dX5_holds_229 (by decide) ?_ ?_
  · refine zg_iconst (v := 0) dX5_holds_236 (by decide) ?_
    exact zg_zret rfl dX5_holds_237
  · refine zg_iconst (v := 1) dX5_holds_232 (by decide) ?_
    refine zg_goto (tgt := 237) dX5_holds_233 (by decide) ?_
    exact zg_zret rfl dX5_holds_237
def fX5_holds_0 (N : Nat) (b0 : Nat) (S : zb_S) (a1 : Int32) : Option (Int32 × zb_S) :=
  if 100 = 0 then none else
  zb_let (a1 / 100) (fun x1 : Int32 =>
  if 10 = 0 then none else
  if 10 = 0 then none else
  zb_let ((a1 / 10) - (a1 / 10) / 10 * 10) (fun x2 : Int32 =>
  if 10 = 0 then none else
  zb_let (a1 - a1 / 10 * 10) (fun x3 : Int32 =>
  if x1 = 1 then
    if 100 = 0 then none else
    zb_bind (fX1_advance N b0 S (a1 - a1 / 100 * 100)) (fun _ S4 =>
    if 100 = 0 then none else
    if (a1 - a1 / 100 * 100) ≤ 0 then
      if (0 : Int32) = 0 ∨ (0 : Int32) = 1 then some (0, S4) else none
    else
      if (1 : Int32) = 0 ∨ (1 : Int32) = 1 then some (1, S4) else none)
  else if x1 = 2 then
    if x2 = 0 then
      zb_bind (fX5_feedTold N b0 S x3) (fun r8 S7 =>
      if r8 = 0 then
        if (0 : Int32) = 0 ∨ (0 : Int32) = 1 then some (0, S7) else none
      else
        if (1 : Int32) = 0 ∨ (1 : Int32) = 1 then some (1, S7) else none)
    else
      if (0 : Int32) = 0 ∨ (0 : Int32) = 1 then some (0, S) else none
  else if x1 = 3 then
    if x2 = 0 then
      zb_bind (fX5_liftTold N b0 S x3) (fun r11 S10 =>
      if r11 = 0 then
        if (0 : Int32) = 0 ∨ (0 : Int32) = 1 then some (0, S10) else none
      else
        if (1 : Int32) = 0 ∨ (1 : Int32) = 1 then some (1, S10) else none)
    else
      if (0 : Int32) = 0 ∨ (0 : Int32) = 1 then some (0, S) else none
  else if x1 = 4 then
    if x2 = 0 then
      zb_bind (fX5_turnTold N b0 S x3) (fun r14 S13 =>
      if r14 = 0 then
        if (0 : Int32) = 0 ∨ (0 : Int32) = 1 then some (0, S13) else none
      else
        if (1 : Int32) = 0 ∨ (1 : Int32) = 1 then some (1, S13) else none)
    else
      if (0 : Int32) = 0 ∨ (0 : Int32) = 1 then some (0, S) else none
  else if x1 = 5 then
    zb_bind (fX5_eyeTold N b0 S x2 x3) (fun r17 S16 =>
    if (r17 : Int32) = 0 ∨ (r17 : Int32) = 1 then some (r17, S16) else none)
  else if x1 = 6 then
    zb_bind (fX1_hasZone N b0 S x2) (fun r20 S19 =>
    if r20 = 0 then
      if (0 : Int32) = 0 ∨ (0 : Int32) = 1 then some (0, S19) else none
    else
      zb_bind (fX1_hasCarton N b0 S19 x2) (fun r22 S21 =>
      if r22 = 0 then
        fX5_holds_177 N b0 S21 0 x3
      else
        fX5_holds_177 N b0 S21 1 x3))
  else if x1 = 7 then
    if zb_in 55 (zb_sz (b0 + 1)) then
    if 100 = 0 then none else
    if (zb_a S (b0 + 1) (Int32.toNatClampNeg 55)) = (a1 - a1 / 100 * 100) then
      if (1 : Int32) = 0 ∨ (1 : Int32) = 1 then some (1, S) else none
    else
      if (0 : Int32) = 0 ∨ (0 : Int32) = 1 then some (0, S) else none else none
  else if x1 = 8 then
    zb_bind (fX1_hasZone N b0 S x2) (fun r26 S25 =>
    if r26 = 0 then
      if (0 : Int32) = 0 ∨ (0 : Int32) = 1 then some (0, S25) else none
    else
      zb_bind (fX1_isJammed N b0 S25 x2) (fun r28 S27 =>
      if r28 = 0 then
        fX5_holds_229 N b0 S27 0 x3
      else
        fX5_holds_229 N b0 S27 1 x3))
  else 
    if (0 : Int32) = 0 ∨ (0 : Int32) = 1 then some (0, S) else none)))
set_option maxHeartbeats 4000000 in
set_option maxRecDepth 100000 in
theorem gX5_holds_0 {l : Launch} {G : zb_G} (N : Nat) (b0 : Nat) (h0 : zb_kd b0 = 1) (S : zb_S) (a1 : Int32) : zb_Go zb_eI l G 5 RX5 cX5_holds 5 (some .boolean) 0 [(0, .ref (zb_ad G b0)), (1, .int a1)] [] S (fX5_holds_0 N b0 S a1) := by
  unfold fX5_holds_0
  refine zg_iload_n 1 dX5_holds_0 rfl rfl ?_
  refine zg_bipush (v := 100) dX5_holds_1 (by decide) ?_
  refine zg_idiv dX5_holds_3 (fun _ => ?_)
  refine zg_istore_nL (fun x1 => [(2, .int x1), (0, .ref (zb_ad G b0)), (1, .int a1)]) dX5_holds_4 rfl (by decide) (fun _ => rfl) (fun x1 => ?_)
  refine zg_iload_n 2 dX5_holds_5 rfl rfl ?_
  refine zg_bipush (v := 10) dX5_holds_6 (by decide) ?_
  refine zg_idiv dX5_holds_8 (fun _ => ?_)
  refine zg_bipush (v := 10) dX5_holds_9 (by decide) ?_
  refine zg_irem dX5_holds_11 (fun _ => ?_)
  refine zg_istore_nL (fun x2 => [(3, .int x2), (2, .int x1), (0, .ref (zb_ad G b0)), (1, .int a1)]) dX5_holds_12 rfl (by decide) (fun _ => rfl) (fun x2 => ?_)
  refine zg_iload_n 3 dX5_holds_13 rfl rfl ?_
  refine zg_bipush (v := 10) dX5_holds_14 (by decide) ?_
  refine zg_irem dX5_holds_16 (fun _ => ?_)
  refine zg_istoreL (fun x3 => [(4, .int x3), (3, .int x2), (2, .int x1), (0, .ref (zb_ad G b0)), (1, .int a1)]) dX5_holds_17 (by decide) (fun _ => rfl) (fun x3 => ?_)
  refine zg_iload_n 2 dX5_holds_19 rfl rfl ?_
  refine zg_if (fun q6 => ?_) (fun q6 => ?_)
  · refine zg_tableIn dX5_holds_20 (by rw [q6]; decide) (by rw [q6]; decide) (by rw [q6]; rfl) (by decide : (20 : Int) + 48 = (68 : Nat)) ?_
    refine zg_aload_n 3 dX5_holds_68 rfl rfl ?_
    refine zg_iload_n 4 dX5_holds_69 rfl rfl ?_
    refine zg_bipush (v := 100) dX5_holds_70 (by decide) ?_
    refine zg_irem dX5_holds_72 (fun _ => ?_)
    refine zg_callVV (As := [.int (a1 - a1 / 100 * 100)]) (rest := []) 1 (zcX1_advance N b0 h0 S (a1 - a1 / 100 * 100)) (by decide) (by decide) h0 (by decide) rfl zw_402 zw_403 zw_404 zw_19 zw_405 (by decide +kernel) rfl rfl (Nat.le_of_ble_eq_true rfl) dX5_holds_73 (fun S4 => ?_)
    refine zg_iload_n 4 dX5_holds_76 rfl rfl ?_
    refine zg_bipush (v := 100) dX5_holds_77 (by decide) ?_
    refine zg_irem dX5_holds_79 (fun _ => ?_)
    refine zg_if_le 87 dX5_holds_80 (by decide) ?_ ?_
    · refine zg_iconst (v := 0) dX5_holds_87 (by decide) ?_
      exact zg_zret rfl dX5_holds_88
    · refine zg_iconst (v := 1) dX5_holds_83 (by decide) ?_
      refine zg_goto (tgt := 88) dX5_holds_84 (by decide) ?_
      exact zg_zret rfl dX5_holds_88
  · refine zg_if (fun q9 => ?_) (fun q9 => ?_)
    · refine zg_tableIn dX5_holds_20 (by rw [q9]; decide) (by rw [q9]; decide) (by rw [q9]; rfl) (by decide : (20 : Int) + 69 = (89 : Nat)) ?_
      refine zg_iload_n 1 dX5_holds_89 rfl rfl ?_
      refine zg_if_ne 106 dX5_holds_90 (by decide) ?_ ?_
      · refine zg_iconst (v := 0) dX5_holds_106 (by decide) ?_
        exact zg_zret rfl dX5_holds_107
      · refine zg_aload_n 3 dX5_holds_93 rfl rfl ?_
        refine zg_iload 0 dX5_holds_94 rfl ?_
        refine zg_callSI (As := [.ref (zb_ad G b0), .int x3]) (rest := []) 2 (zcX5_feedTold N b0 h0 S x3) (by decide) (by decide) zw_601 zw_602 zw_2 zw_603 (by decide +kernel) rfl rfl (Nat.le_of_ble_eq_true rfl) dX5_holds_96 (fun r8 S7 => ?_)
        refine zg_if_eq 106 dX5_holds_99 (by decide) ?_ ?_
        · refine zg_iconst (v := 0) dX5_holds_106 (by decide) ?_
          exact zg_zret rfl dX5_holds_107
        · refine zg_iconst (v := 1) dX5_holds_102 (by decide) ?_
          refine zg_goto (tgt := 107) dX5_holds_103 (by decide) ?_
          exact zg_zret rfl dX5_holds_107
    · refine zg_if (fun q12 => ?_) (fun q12 => ?_)
      · refine zg_tableIn dX5_holds_20 (by rw [q12]; decide) (by rw [q12]; decide) (by rw [q12]; rfl) (by decide : (20 : Int) + 88 = (108 : Nat)) ?_
        refine zg_iload_n 1 dX5_holds_108 rfl rfl ?_
        refine zg_if_ne 125 dX5_holds_109 (by decide) ?_ ?_
        · refine zg_iconst (v := 0) dX5_holds_125 (by decide) ?_
          exact zg_zret rfl dX5_holds_126
        · refine zg_aload_n 3 dX5_holds_112 rfl rfl ?_
          refine zg_iload 0 dX5_holds_113 rfl ?_
          refine zg_callSI (As := [.ref (zb_ad G b0), .int x3]) (rest := []) 2 (zcX5_liftTold N b0 h0 S x3) (by decide) (by decide) zw_604 zw_605 zw_2 zw_606 (by decide +kernel) rfl rfl (Nat.le_of_ble_eq_true rfl) dX5_holds_115 (fun r11 S10 => ?_)
          refine zg_if_eq 125 dX5_holds_118 (by decide) ?_ ?_
          · refine zg_iconst (v := 0) dX5_holds_125 (by decide) ?_
            exact zg_zret rfl dX5_holds_126
          · refine zg_iconst (v := 1) dX5_holds_121 (by decide) ?_
            refine zg_goto (tgt := 126) dX5_holds_122 (by decide) ?_
            exact zg_zret rfl dX5_holds_126
      · refine zg_if (fun q15 => ?_) (fun q15 => ?_)
        · refine zg_tableIn dX5_holds_20 (by rw [q15]; decide) (by rw [q15]; decide) (by rw [q15]; rfl) (by decide : (20 : Int) + 107 = (127 : Nat)) ?_
          refine zg_iload_n 1 dX5_holds_127 rfl rfl ?_
          refine zg_if_ne 144 dX5_holds_128 (by decide) ?_ ?_
          · refine zg_iconst (v := 0) dX5_holds_144 (by decide) ?_
            exact zg_zret rfl dX5_holds_145
          · refine zg_aload_n 3 dX5_holds_131 rfl rfl ?_
            refine zg_iload 0 dX5_holds_132 rfl ?_
            refine zg_callSI (As := [.ref (zb_ad G b0), .int x3]) (rest := []) 2 (zcX5_turnTold N b0 h0 S x3) (by decide) (by decide) zw_607 zw_608 zw_2 zw_609 (by decide +kernel) rfl rfl (Nat.le_of_ble_eq_true rfl) dX5_holds_134 (fun r14 S13 => ?_)
            refine zg_if_eq 144 dX5_holds_137 (by decide) ?_ ?_
            · refine zg_iconst (v := 0) dX5_holds_144 (by decide) ?_
              exact zg_zret rfl dX5_holds_145
            · refine zg_iconst (v := 1) dX5_holds_140 (by decide) ?_
              refine zg_goto (tgt := 145) dX5_holds_141 (by decide) ?_
              exact zg_zret rfl dX5_holds_145
        · refine zg_if (fun q18 => ?_) (fun q18 => ?_)
          · refine zg_tableIn dX5_holds_20 (by rw [q18]; decide) (by rw [q18]; decide) (by rw [q18]; rfl) (by decide : (20 : Int) + 126 = (146 : Nat)) ?_
            refine zg_aload_n 3 dX5_holds_146 rfl rfl ?_
            refine zg_iload_n 1 dX5_holds_147 rfl rfl ?_
            refine zg_iload 0 dX5_holds_148 rfl ?_
            refine zg_callSI (As := [.ref (zb_ad G b0), .int x2, .int x3]) (rest := []) 3 (zcX5_eyeTold N b0 h0 S x2 x3) (by decide) (by decide) zw_610 zw_611 zw_2 zw_612 (by decide +kernel) rfl rfl (Nat.le_of_ble_eq_true rfl) dX5_holds_150 (fun r17 S16 => ?_)
            exact zg_zret rfl dX5_holds_153
          · refine zg_if (fun q23 => ?_) (fun q23 => ?_)
            · refine zg_tableIn dX5_holds_20 (by rw [q23]; decide) (by rw [q23]; decide) (by rw [q23]; rfl) (by decide : (20 : Int) + 134 = (154 : Nat)) ?_
              refine zg_aload_n 3 dX5_holds_154 rfl rfl ?_
              refine zg_iload_n 1 dX5_holds_155 rfl rfl ?_
              refine zg_callVI (As := [.int x2]) (rest := []) 1 (zcX1_hasZone N b0 h0 S x2) (by decide) (by decide) h0 (by decide) rfl zw_228 zw_203 zw_204 zw_19 zw_205 (by decide +kernel) rfl rfl (Nat.le_of_ble_eq_true rfl) dX5_holds_156 (fun r20 S19 => ?_)
              refine zg_if_eq 184 dX5_holds_159 (by decide) ?_ ?_
              · refine zg_iconst (v := 0) dX5_holds_184 (by decide) ?_
                exact zg_zret rfl dX5_holds_185
              · refine zg_iload 0 dX5_holds_162 rfl ?_
                refine zg_aload_n 3 dX5_holds_164 rfl rfl ?_
                refine zg_iload_n 1 dX5_holds_165 rfl rfl ?_
                refine zg_callVI (As := [.int x2]) (rest := [.int x3]) 1 (zcX1_hasCarton N b0 h0 S19 x2) (by decide) (by decide) h0 (by decide) rfl zw_233 zw_234 zw_235 zw_19 zw_236 (by decide +kernel) rfl rfl (Nat.le_of_ble_eq_true rfl) dX5_holds_166 (fun r22 S21 => ?_)
                refine zg_if_eq 176 dX5_holds_169 (by decide) ?_ ?_
                · refine zg_iconst (v := 0) dX5_holds_176 (by decide) ?_
                  refine zg_sub [] rfl ?_
                  exact gX5_holds_177 N b0 h0 S21 0 x3
                · refine zg_iconst (v := 1) dX5_holds_172 (by decide) ?_
                  refine zg_goto (tgt := 177) dX5_holds_173 (by decide) ?_
                  refine zg_sub [] rfl ?_
                  exact gX5_holds_177 N b0 h0 S21 1 x3
            · refine zg_if (fun q24 => ?_) (fun q24 => ?_)
              · refine zg_tableIn dX5_holds_20 (by rw [q24]; decide) (by rw [q24]; decide) (by rw [q24]; rfl) (by decide : (20 : Int) + 166 = (186 : Nat)) ?_
                refine zg_aload_n 3 dX5_holds_186 rfl rfl ?_
                refine zq_X1_4 h0 (zk_X1_4 h0).1 zw_232 dX5_holds_187 ?_
                refine zg_bipush (v := 55) dX5_holds_190 (by decide) ?_
                refine zg_iald (zk_X1_4 h0).2.1 dX5_holds_192 ?_
                refine zg_iload_n 4 dX5_holds_193 rfl rfl ?_
                refine zg_bipush (v := 100) dX5_holds_194 (by decide) ?_
                refine zg_irem dX5_holds_196 (fun _ => ?_)
                refine zg_icmp_ne 204 dX5_holds_197 (by decide) ?_ ?_
                · refine zg_iconst (v := 0) dX5_holds_204 (by decide) ?_
                  exact zg_zret rfl dX5_holds_205
                · refine zg_iconst (v := 1) dX5_holds_200 (by decide) ?_
                  refine zg_goto (tgt := 205) dX5_holds_201 (by decide) ?_
                  exact zg_zret rfl dX5_holds_205
              · refine zg_if (fun q29 => ?_) (fun q29 => ?_)
                · refine zg_tableIn dX5_holds_20 (by rw [q29]; decide) (by rw [q29]; decide) (by rw [q29]; rfl) (by decide : (20 : Int) + 186 = (206 : Nat)) ?_
                  refine zg_aload_n 3 dX5_holds_206 rfl rfl ?_
                  refine zg_iload_n 1 dX5_holds_207 rfl rfl ?_
                  refine zg_callVI (As := [.int x2]) (rest := []) 1 (zcX1_hasZone N b0 h0 S x2) (by decide) (by decide) h0 (by decide) rfl zw_228 zw_203 zw_204 zw_19 zw_205 (by decide +kernel) rfl rfl (Nat.le_of_ble_eq_true rfl) dX5_holds_208 (fun r26 S25 => ?_)
                  refine zg_if_eq 236 dX5_holds_211 (by decide) ?_ ?_
                  · refine zg_iconst (v := 0) dX5_holds_236 (by decide) ?_
                    exact zg_zret rfl dX5_holds_237
                  · refine zg_iload 0 dX5_holds_214 rfl ?_
                    refine zg_aload_n 3 dX5_holds_216 rfl rfl ?_
                    refine zg_iload_n 1 dX5_holds_217 rfl rfl ?_
                    refine zg_callVI (As := [.int x2]) (rest := [.int x3]) 1 (zcX1_isJammed N b0 h0 S25 x2) (by decide) (by decide) h0 (by decide) rfl zw_243 zw_244 zw_245 zw_19 zw_246 (by decide +kernel) rfl rfl (Nat.le_of_ble_eq_true rfl) dX5_holds_218 (fun r28 S27 => ?_)
                    refine zg_if_eq 228 dX5_holds_221 (by decide) ?_ ?_
                    · refine zg_iconst (v := 0) dX5_holds_228 (by decide) ?_
                      refine zg_sub [] rfl ?_
                      exact gX5_holds_229 N b0 h0 S27 0 x3
                    · refine zg_iconst (v := 1) dX5_holds_224 (by decide) ?_
                      refine zg_goto (tgt := 229) dX5_holds_225 (by decide) ?_
                      refine zg_sub [] rfl ?_
                      exact gX5_holds_229 N b0 h0 S27 1 x3
                · refine zg_tableOut dX5_holds_20 (by have q6 := lv_neT q6 (show (1 : Int32).toInt = 1 from by decide); have q9 := lv_neT q9 (show (2 : Int32).toInt = 2 from by decide); have q12 := lv_neT q12 (show (3 : Int32).toInt = 3 from by decide); have q15 := lv_neT q15 (show (4 : Int32).toInt = 4 from by decide); have q18 := lv_neT q18 (show (5 : Int32).toInt = 5 from by decide); have q23 := lv_neT q23 (show (6 : Int32).toInt = 6 from by decide); have q24 := lv_neT q24 (show (7 : Int32).toInt = 7 from by decide); have q29 := lv_neT q29 (show (8 : Int32).toInt = 8 from by decide); omega) (by decide : (20 : Int) + 218 = (238 : Nat)) ?_
                  refine zg_iconst (v := 0) dX5_holds_238 (by decide) ?_
                  exact zg_zret rfl dX5_holds_239
def fX5_holds (N : Nat) (b0 : Nat) (S : zb_S) (a1 : Int32) : Option (Int32 × zb_S) := fX5_holds_0 N b0 S a1
theorem zcX5_holds {l : Launch} {G : zb_G} (N : Nat) (b0 : Nat) (h0 : zb_kd b0 = 1) (S : zb_S) (a1 : Int32) : zb_C zb_eI l G 5 yX5_holds cX5_holds 5 (some .boolean) [.ref (zb_ad G b0), .int a1] S (fX5_holds N b0 S a1) :=
  zb_C.of (by decide +kernel) rfl (Nat.le_of_ble_eq_true rfl) rfl (gX5_holds_0 N b0 h0 S a1)
-- X5_judge
def fX5_judge_84b (N : Nat) (k84 : zb_S → Int32 → Int32 → Option (Int32 × zb_S)) (S : zb_S) (l1 : Int32) (l6 : Int32) : Option (Int32 × zb_S) :=
  if l1 ≤ l6 then
    some ((-9), S)
  else
    if zb_in l6 (zb_sz 18) then
    zb_bind (fX5_holds N 5 S (zb_a S 18 (Int32.toNatClampNeg l6))) (fun r2 S1 =>
    if r2 = 0 then
      some (l6, S1)
    else
      zb_let (l6 + 1) (fun x3 : Int32 =>
      k84 S1 l1 x3)) else none
set_option maxHeartbeats 4000000 in
set_option maxRecDepth 100000 in
theorem gX5_judge_84b {l : Launch} {G : zb_G} (N : Nat) (k84 : zb_S → Int32 → Int32 → Option (Int32 × zb_S)) (hk84 : ∀ (S : zb_S) (l1 : Int32) (l6 : Int32), zb_Go zb_eI l G 6 RX5 cX5_judge 7 (some .int) 84 [(0, .ref (zb_ad G 0)), (1, .int l1), (6, .int l6)] [] S (k84 S l1 l6)) (S : zb_S) (l1 : Int32) (l6 : Int32) : zb_Go zb_eI l G 6 RX5 cX5_judge 7 (some .int) 84 [(0, .ref (zb_ad G 0)), (1, .int l1), (6, .int l6)] [] S (fX5_judge_84b N k84 S l1 l6) := by
  unfold fX5_judge_84b
  refine zg_iload 2 dX5_judge_84 rfl ?_
  refine zg_iload_n 1 dX5_judge_86 rfl rfl ?_
  refine zg_icmp_ge 116 dX5_judge_87 (by decide) ?_ ?_
  · refine zg_bipush (v := (-9)) dX5_judge_116 (by decide) ?_
    exact zg_iret rfl dX5_judge_118
  · refine zg_aload_n 0 dX5_judge_90 rfl rfl ?_
    refine zq_X5_2 rfl rfl zw_21 dX5_judge_91 ?_
    refine zg_aload_n 0 dX5_judge_94 rfl rfl ?_
    refine zq_X5_8 rfl rfl zw_37 dX5_judge_95 ?_
    refine zg_iload 2 dX5_judge_98 rfl ?_
    refine zg_iald rfl dX5_judge_100 ?_
    refine zg_callSI (As := [.ref (zb_ad G 5), .int (zb_a S 18 (Int32.toNatClampNeg l6))]) (rest := []) 2 (zcX5_holds N 5 rfl S (zb_a S 18 (Int32.toNatClampNeg l6))) (by decide) (by decide) zw_598 zw_599 zw_2 zw_600 (by decide +kernel) rfl rfl (Nat.le_of_ble_eq_true rfl) dX5_judge_101 (fun r2 S1 => ?_)
    refine zg_if_ne 110 dX5_judge_104 (by decide) ?_ ?_
    · refine zg_iincL (fun x3 => [(6, .int x3), (0, .ref (zb_ad G 0)), (1, .int l1)]) 2 dX5_judge_110 rfl rfl (by decide) (fun _ => rfl) (fun x3 => ?_)
      refine zg_goto (tgt := 84) dX5_judge_113 (by decide) ?_
      refine zg_sub [1, 2, 0] rfl ?_
      exact hk84 S1 l1 x3
    · refine zg_iload 2 dX5_judge_107 rfl ?_
      exact zg_iret rfl dX5_judge_109
def fX5_judge_84 (N : Nat) : Nat → zb_S → Int32 → Int32 → Option (Int32 × zb_S)
  | 0, _, _, _ => none
  | n + 1, S, l1, l6 => fX5_judge_84b N (fX5_judge_84 N n) S l1 l6
set_option maxHeartbeats 4000000 in
set_option maxRecDepth 100000 in
theorem gX5_judge_84 {l : Launch} {G : zb_G} (N : Nat) : ∀ (n : Nat) (S : zb_S) (l1 : Int32) (l6 : Int32), zb_Go zb_eI l G 6 RX5 cX5_judge 7 (some .int) 84 [(0, .ref (zb_ad G 0)), (1, .int l1), (6, .int l6)] [] S (fX5_judge_84 N n S l1 l6) := by
  intro n
  induction n with
  | zero => intros; exact zg_none
  | succ n ih =>
    intro S l1 l6
    exact gX5_judge_84b N (fX5_judge_84 N n) ih S l1 l6
def fX5_judge_37b (N : Nat) (k37 : zb_S → Int32 → Int64 → Int32 → Option (Int32 × zb_S)) (S : zb_S) (l1 : Int32) (l4 : Int64) (l6 : Int32) : Option (Int32 × zb_S) :=
  if l6 < 0 then
    zb_bind (fX1_copy N 5 3 S) (fun _ S1 =>
    fX5_judge_84 N N S1 l1 0)
  else
    if 1000 = 0 then none else
    if zb_in l6 (zb_sz 18) then zb_let (zb_pa S 18 (Int32.toNatClampNeg l6) (Int64.toInt32 (l4 - l4 / 1000 * 1000))) (fun S3 : zb_S =>
    if 1000 = 0 then none else
    zb_let (l4 / 1000) (fun x4 : Int64 =>
    zb_let (l6 + (-1)) (fun x5 : Int32 =>
    k37 S3 l1 x4 x5))) else none
set_option maxHeartbeats 4000000 in
set_option maxRecDepth 100000 in
theorem gX5_judge_37b {l : Launch} {G : zb_G} (N : Nat) (k37 : zb_S → Int32 → Int64 → Int32 → Option (Int32 × zb_S)) (hk37 : ∀ (S : zb_S) (l1 : Int32) (l4 : Int64) (l6 : Int32), zb_Go zb_eI l G 6 RX5 cX5_judge 7 (some .int) 37 [(0, .ref (zb_ad G 0)), (1, .int l1), (4, .long l4), (6, .int l6)] [] S (k37 S l1 l4 l6)) (S : zb_S) (l1 : Int32) (l4 : Int64) (l6 : Int32) : zb_Go zb_eI l G 6 RX5 cX5_judge 7 (some .int) 37 [(0, .ref (zb_ad G 0)), (1, .int l1), (4, .long l4), (6, .int l6)] [] S (fX5_judge_37b N k37 S l1 l4 l6) := by
  unfold fX5_judge_37b
  refine zg_iload 3 dX5_judge_37 rfl ?_
  refine zg_if_lt 70 dX5_judge_39 (by decide) ?_ ?_
  · refine zg_aload_n 0 dX5_judge_70 rfl rfl ?_
    refine zq_X5_2 rfl rfl zw_21 dX5_judge_71 ?_
    refine zg_aload_n 0 dX5_judge_74 rfl rfl ?_
    refine zq_X5_1 rfl rfl zw_20 dX5_judge_75 ?_
    refine zg_callVV (As := [.ref (zb_ad G 3)]) (rest := []) 1 (zcX1_copy N 5 rfl 3 rfl S) (by decide) (by decide) rfl (by decide) rfl zw_533 zw_534 zw_535 zw_19 zw_536 (by decide +kernel) rfl rfl (Nat.le_of_ble_eq_true rfl) dX5_judge_78 (fun S1 => ?_)
    refine zg_iconst (v := 0) dX5_judge_81 (by decide) ?_
    refine zg_istore (lv' := [(6, .int 0), (0, .ref (zb_ad G 0)), (1, .int l1), (4, .long l4)]) dX5_judge_82 (by decide) rfl ?_
    refine zg_sub [1, 2, 0] rfl ?_
    exact gX5_judge_84 N N S1 l1 0
  · refine zg_aload_n 0 dX5_judge_42 rfl rfl ?_
    refine zq_X5_8 rfl rfl zw_37 dX5_judge_43 ?_
    refine zg_iload 3 dX5_judge_46 rfl ?_
    refine zg_lload 2 dX5_judge_48 rfl ?_
    refine zg_ldc2 zw_597 dX5_judge_50 ?_
    refine zg_lrem dX5_judge_53 (fun _ => ?_)
    refine zg_l2i dX5_judge_54 ?_
    refine zg_iast rfl dX5_judge_55 (fun S3 => ?_)
    refine zg_lload 2 dX5_judge_56 rfl ?_
    refine zg_ldc2 zw_597 dX5_judge_58 ?_
    refine zg_ldiv dX5_judge_61 (fun _ => ?_)
    refine zg_lstoreL (fun x4 => [(4, .long x4), (0, .ref (zb_ad G 0)), (1, .int l1), (6, .int l6)]) dX5_judge_62 (by decide) (fun _ => rfl) (fun x4 => ?_)
    refine zg_iincL (fun x5 => [(6, .int x5), (4, .long x4), (0, .ref (zb_ad G 0)), (1, .int l1)]) 3 dX5_judge_64 rfl rfl (by decide) (fun _ => rfl) (fun x5 => ?_)
    refine zg_goto (tgt := 37) dX5_judge_67 (by decide) ?_
    refine zg_sub [2, 3, 1, 0] rfl ?_
    exact hk37 S3 l1 x4 x5
def fX5_judge_37 (N : Nat) : Nat → zb_S → Int32 → Int64 → Int32 → Option (Int32 × zb_S)
  | 0, _, _, _, _ => none
  | n + 1, S, l1, l4, l6 => fX5_judge_37b N (fX5_judge_37 N n) S l1 l4 l6
set_option maxHeartbeats 4000000 in
set_option maxRecDepth 100000 in
theorem gX5_judge_37 {l : Launch} {G : zb_G} (N : Nat) : ∀ (n : Nat) (S : zb_S) (l1 : Int32) (l4 : Int64) (l6 : Int32), zb_Go zb_eI l G 6 RX5 cX5_judge 7 (some .int) 37 [(0, .ref (zb_ad G 0)), (1, .int l1), (4, .long l4), (6, .int l6)] [] S (fX5_judge_37 N n S l1 l4 l6) := by
  intro n
  induction n with
  | zero => intros; exact zg_none
  | succ n ih =>
    intro S l1 l4 l6
    exact gX5_judge_37b N (fX5_judge_37 N n) ih S l1 l4 l6
def fX5_judge_0 (N : Nat) (S : zb_S) (a1 : Int32) (a2 : Int64) : Option (Int32 × zb_S) :=
  if a1 < 1 then
    some ((-2), S)
  else
    if 4 < a1 then
      some ((-2), S)
    else
      if (lg_cmp a2 0) < 0 then
        some ((-2), S)
      else
        if zb_in a1 5 then
        if (lg_cmp a2 (zb_tho (Int32.toNatClampNeg a1))) < 0 then
          zb_let (a1 - 1) (fun x1 : Int32 =>
          fX5_judge_37 N N S a1 a2 x1)
        else
          some ((-2), S) else none
set_option maxHeartbeats 4000000 in
set_option maxRecDepth 100000 in
theorem gX5_judge_0 {l : Launch} {G : zb_G} (N : Nat) (S : zb_S) (a1 : Int32) (a2 : Int64) : zb_Go zb_eI l G 6 RX5 cX5_judge 7 (some .int) 0 [(0, .ref (zb_ad G 0)), (1, .int a1), (2, .long a2)] [] S (fX5_judge_0 N S a1 a2) := by
  unfold fX5_judge_0
  refine zg_iload_n 1 dX5_judge_0 rfl rfl ?_
  refine zg_iconst (v := 1) dX5_judge_1 (by decide) ?_
  refine zg_icmp_lt 26 dX5_judge_2 (by decide) ?_ ?_
  · refine zg_bipush (v := (-2)) dX5_judge_26 (by decide) ?_
    exact zg_iret rfl dX5_judge_28
  · refine zg_iload_n 1 dX5_judge_5 rfl rfl ?_
    refine zg_iconst (v := 4) dX5_judge_6 (by decide) ?_
    refine zg_icmp_gt 26 dX5_judge_7 (by decide) ?_ ?_
    · refine zg_bipush (v := (-2)) dX5_judge_26 (by decide) ?_
      exact zg_iret rfl dX5_judge_28
    · refine zg_lload_n 2 dX5_judge_10 rfl rfl ?_
      refine zg_lconst (v := 0) dX5_judge_11 (by decide) ?_
      refine zg_lcmp dX5_judge_12 ?_
      refine zg_if_lt 26 dX5_judge_13 (by decide) ?_ ?_
      · refine zg_bipush (v := (-2)) dX5_judge_26 (by decide) ?_
        exact zg_iret rfl dX5_judge_28
      · refine zg_lload_n 2 dX5_judge_16 rfl rfl ?_
        refine zg_getsT rfl zw_596 dX5_judge_17 ?_
        refine zg_iload_n 1 dX5_judge_20 rfl rfl ?_
        refine zg_tlT dX5_judge_21 ?_
        refine zg_lcmp dX5_judge_22 ?_
        refine zg_if_lt 29 dX5_judge_23 (by decide) ?_ ?_
        · refine zg_lload_n 2 dX5_judge_29 rfl rfl ?_
          refine zg_lstore (lv' := [(4, .long a2), (0, .ref (zb_ad G 0)), (1, .int a1), (2, .long a2)]) dX5_judge_30 (by decide) rfl ?_
          refine zg_iload_n 2 dX5_judge_32 rfl rfl ?_
          refine zg_iconst (v := 1) dX5_judge_33 (by decide) ?_
          refine zg_isub dX5_judge_34 ?_
          refine zg_istoreL (fun x1 => [(6, .int x1), (4, .long a2), (0, .ref (zb_ad G 0)), (1, .int a1), (2, .long a2)]) dX5_judge_35 (by decide) (fun _ => rfl) (fun x1 => ?_)
          refine zg_sub [2, 3, 1, 0] rfl ?_
          exact gX5_judge_37 N N S a1 a2 x1
        · refine zg_bipush (v := (-2)) dX5_judge_26 (by decide) ?_
          exact zg_iret rfl dX5_judge_28
def fX5_judge (N : Nat) (S : zb_S) (a1 : Int32) (a2 : Int64) : Option (Int32 × zb_S) := fX5_judge_0 N S a1 a2
theorem zcX5_judge {l : Launch} {G : zb_G} (N : Nat) (S : zb_S) (a1 : Int32) (a2 : Int64) : zb_C zb_eI l G 6 yX5_judge cX5_judge 7 (some .int) [.ref (zb_ad G 0), .int a1, .long a2] S (fX5_judge N S a1 a2) :=
  zb_C.of (by decide +kernel) rfl (Nat.le_of_ble_eq_true rfl) rfl (gX5_judge_0 N S a1 a2)
-- X5_see
def fX5_see_0 (N : Nat) (S : zb_S) (a1 : Int32) (a2 : Int32) (a3 : Int32) : Option (Int32 × zb_S) :=
  if a1 < 0 then
    some ((-2), S)
  else
    if 30 < a1 then
      some ((-2), S)
    else
      if a2 < 0 then
        some ((-2), S)
      else
        if 99 < a2 then
          some ((-2), S)
        else
          if a3 < 0 then
            some ((-2), S)
          else
            if a3 ≤ 1 then
              zb_bind (fX2_append N S a1 a2 a3) (fun r2 S1 =>
              if r2 = 0 then
                some ((-4), S1)
              else
                some (zb_i S1 14 3, S1))
            else
              some ((-2), S)
set_option maxHeartbeats 4000000 in
set_option maxRecDepth 100000 in
theorem gX5_see_0 {l : Launch} {G : zb_G} (N : Nat) (S : zb_S) (a1 : Int32) (a2 : Int32) (a3 : Int32) : zb_Go zb_eI l G 1 RX5 cX5_see 4 (some .int) 0 [(0, .ref (zb_ad G 0)), (1, .int a1), (2, .int a2), (3, .int a3)] [] S (fX5_see_0 N S a1 a2 a3) := by
  unfold fX5_see_0
  refine zg_iload_n 1 dX5_see_0 rfl rfl ?_
  refine zg_if_lt 29 dX5_see_1 (by decide) ?_ ?_
  · refine zg_bipush (v := (-2)) dX5_see_29 (by decide) ?_
    exact zg_iret rfl dX5_see_31
  · refine zg_iload_n 1 dX5_see_4 rfl rfl ?_
    refine zg_bipush (v := 30) dX5_see_5 (by decide) ?_
    refine zg_icmp_gt 29 dX5_see_7 (by decide) ?_ ?_
    · refine zg_bipush (v := (-2)) dX5_see_29 (by decide) ?_
      exact zg_iret rfl dX5_see_31
    · refine zg_iload_n 2 dX5_see_10 rfl rfl ?_
      refine zg_if_lt 29 dX5_see_11 (by decide) ?_ ?_
      · refine zg_bipush (v := (-2)) dX5_see_29 (by decide) ?_
        exact zg_iret rfl dX5_see_31
      · refine zg_iload_n 2 dX5_see_14 rfl rfl ?_
        refine zg_bipush (v := 99) dX5_see_15 (by decide) ?_
        refine zg_icmp_gt 29 dX5_see_17 (by decide) ?_ ?_
        · refine zg_bipush (v := (-2)) dX5_see_29 (by decide) ?_
          exact zg_iret rfl dX5_see_31
        · refine zg_iload_n 3 dX5_see_20 rfl rfl ?_
          refine zg_if_lt 29 dX5_see_21 (by decide) ?_ ?_
          · refine zg_bipush (v := (-2)) dX5_see_29 (by decide) ?_
            exact zg_iret rfl dX5_see_31
          · refine zg_iload_n 3 dX5_see_24 rfl rfl ?_
            refine zg_iconst (v := 1) dX5_see_25 (by decide) ?_
            refine zg_icmp_le 32 dX5_see_26 (by decide) ?_ ?_
            · refine zg_aload_n 0 dX5_see_32 rfl rfl ?_
              refine zq_X5_7 rfl rfl zw_35 dX5_see_33 ?_
              refine zg_iload_n 1 dX5_see_36 rfl rfl ?_
              refine zg_iload_n 2 dX5_see_37 rfl rfl ?_
              refine zg_iload_n 3 dX5_see_38 rfl rfl ?_
              refine zg_callVI (As := [.int a1, .int a2, .int a3]) (rest := []) 3 (zcX2_append N S a1 a2 a3) (by decide) (by decide) rfl (by decide) rfl zw_631 zw_632 zw_633 zw_34 zw_634 (by decide +kernel) rfl rfl (Nat.le_of_ble_eq_true rfl) dX5_see_39 (fun r2 S1 => ?_)
              refine zg_if_eq 55 dX5_see_42 (by decide) ?_ ?_
              · refine zg_bipush (v := (-4)) dX5_see_55 (by decide) ?_
                exact zg_iret rfl dX5_see_57
              · refine zg_aload_n 0 dX5_see_45 rfl rfl ?_
                refine zq_X5_7 rfl rfl zw_35 dX5_see_46 ?_
                refine zq_X2_3 rfl zw_630 dX5_see_49 ?_
                refine zg_goto (tgt := 57) dX5_see_52 (by decide) ?_
                exact zg_iret rfl dX5_see_57
            · refine zg_bipush (v := (-2)) dX5_see_29 (by decide) ?_
              exact zg_iret rfl dX5_see_31
def fX5_see (N : Nat) (S : zb_S) (a1 : Int32) (a2 : Int32) (a3 : Int32) : Option (Int32 × zb_S) := fX5_see_0 N S a1 a2 a3
theorem zcX5_see {l : Launch} {G : zb_G} (N : Nat) (S : zb_S) (a1 : Int32) (a2 : Int32) (a3 : Int32) : zb_C zb_eI l G 1 yX5_see cX5_see 4 (some .int) [.ref (zb_ad G 0), .int a1, .int a2, .int a3] S (fX5_see N S a1 a2 a3) :=
  zb_C.of (by decide +kernel) rfl (Nat.le_of_ble_eq_true rfl) rfl (gX5_see_0 N S a1 a2 a3)
-- X5_unsee
def fX5_unsee_0 (N : Nat) (S : zb_S) : Option (Int32 × zb_S) :=
  zb_let (zb_i S 14 3) (fun x1 : Int32 =>
  zb_let (zb_pi S 14 3 0) (fun S2 : zb_S =>
  some (x1, S2)))
set_option maxHeartbeats 4000000 in
set_option maxRecDepth 100000 in
theorem gX5_unsee_0 {l : Launch} {G : zb_G} (N : Nat) (S : zb_S) : zb_Go zb_eI l G 0 RX5 cX5_unsee 2 (some .int) 0 [(0, .ref (zb_ad G 0))] [] S (fX5_unsee_0 N S) := by
  unfold fX5_unsee_0
  refine zg_aload_n 0 dX5_unsee_0 rfl rfl ?_
  refine zq_X5_7 rfl rfl zw_35 dX5_unsee_1 ?_
  refine zq_X2_3 rfl zw_630 dX5_unsee_4 ?_
  refine zg_istore_nL (fun x1 => [(1, .int x1), (0, .ref (zb_ad G 0))]) dX5_unsee_7 rfl (by decide) (fun _ => rfl) (fun x1 => ?_)
  refine zg_aload_n 1 dX5_unsee_8 rfl rfl ?_
  refine zq_X5_7 rfl rfl zw_35 dX5_unsee_9 ?_
  refine zg_iconst (v := 0) dX5_unsee_12 (by decide) ?_
  refine zp_X2_3 rfl zw_630 dX5_unsee_13 (fun S2 => ?_)
  refine zg_iload_n 0 dX5_unsee_16 rfl rfl ?_
  exact zg_iret rfl dX5_unsee_17
def fX5_unsee (N : Nat) (S : zb_S) : Option (Int32 × zb_S) := fX5_unsee_0 N S
theorem zcX5_unsee {l : Launch} {G : zb_G} (N : Nat) (S : zb_S) : zb_C zb_eI l G 0 yX5_unsee cX5_unsee 2 (some .int) [.ref (zb_ad G 0)] S (fX5_unsee N S) :=
  zb_C.of (by decide +kernel) rfl (Nat.le_of_ble_eq_true rfl) rfl (gX5_unsee_0 N S)
-- X5_which
def fX5_which_74 (N : Nat) (k4 : zb_S → Int32 → Int32 → Option (Int32 × zb_S)) (S : zb_S) (l1 : Int32) (l2 : Int32) : Option (Int32 × zb_S) :=
  zb_let (l2 + 1) (fun x1 : Int32 =>
  k4 S l1 x1)
set_option maxHeartbeats 4000000 in
set_option maxRecDepth 100000 in
theorem gX5_which_74 {l : Launch} {G : zb_G} (N : Nat) (k4 : zb_S → Int32 → Int32 → Option (Int32 × zb_S)) (hk4 : ∀ (S : zb_S) (l1 : Int32) (l2 : Int32), zb_Go zb_eI l G 5 RX5 cX5_which 3 (some .int) 4 [(0, .ref (zb_ad G 0)), (1, .int l1), (2, .int l2)] [] S (k4 S l1 l2)) (S : zb_S) (l1 : Int32) (l2 : Int32) : zb_Go zb_eI l G 5 RX5 cX5_which 3 (some .int) 74 [(0, .ref (zb_ad G 0)), (1, .int l1), (2, .int l2)] [] S (fX5_which_74 N k4 S l1 l2) := by
  unfold fX5_which_74
  refine zg_iincL (fun x1 => [(2, .int x1), (0, .ref (zb_ad G 0)), (1, .int l1)]) 2 dX5_which_74 rfl rfl (by decide) (fun _ => rfl) (fun x1 => ?_)
  refine zg_goto (tgt := 4) dX5_which_77 (by decide) ?_
  refine zg_sub [1, 2, 0] rfl ?_
  exact hk4 S l1 x1
def fX5_which_4b (N : Nat) (k4 : zb_S → Int32 → Int32 → Option (Int32 × zb_S)) (S : zb_S) (l1 : Int32) (l2 : Int32) : Option (Int32 × zb_S) :=
  if (zb_i S 3 2) ≤ l2 then
    some (l1, S)
  else
    if zb_in (12 + l2) (zb_sz 4) then
    if (zb_a S 4 (Int32.toNatClampNeg (12 + l2))) = 0 then
      zb_bind (fX1_copy N 5 3 S) (fun _ S1 =>
      if zb_in (12 + l2) (zb_sz 6) then zb_let (zb_pa S1 6 (Int32.toNatClampNeg (12 + l2)) 1) (fun S3 : zb_S =>
      zb_bind (fX2_allSo N 5 S3) (fun r5 S4 =>
      if r5 = 0 then
        fX5_which_74 N k4 S4 l1 l2
      else
        zb_let (l1 ||| ((1 : Int32) <<< (l2 &&& 31))) (fun x6 : Int32 =>
        fX5_which_74 N k4 S4 x6 l2))) else none)
    else
      fX5_which_74 N k4 S l1 l2 else none
set_option maxHeartbeats 4000000 in
set_option maxRecDepth 100000 in
theorem gX5_which_4b {l : Launch} {G : zb_G} (N : Nat) (k4 : zb_S → Int32 → Int32 → Option (Int32 × zb_S)) (hk4 : ∀ (S : zb_S) (l1 : Int32) (l2 : Int32), zb_Go zb_eI l G 5 RX5 cX5_which 3 (some .int) 4 [(0, .ref (zb_ad G 0)), (1, .int l1), (2, .int l2)] [] S (k4 S l1 l2)) (S : zb_S) (l1 : Int32) (l2 : Int32) : zb_Go zb_eI l G 5 RX5 cX5_which 3 (some .int) 4 [(0, .ref (zb_ad G 0)), (1, .int l1), (2, .int l2)] [] S (fX5_which_4b N k4 S l1 l2) := by
  unfold fX5_which_4b
  refine zg_iload_n 2 dX5_which_4 rfl rfl ?_
  refine zg_aload_n 0 dX5_which_5 rfl rfl ?_
  refine zq_X5_1 rfl rfl zw_20 dX5_which_6 ?_
  refine zq_X1_2 rfl zw_192 dX5_which_9 ?_
  refine zg_icmp_ge 80 dX5_which_12 (by decide) ?_ ?_
  · refine zg_iload_n 1 dX5_which_80 rfl rfl ?_
    exact zg_iret rfl dX5_which_81
  · refine zg_aload_n 0 dX5_which_15 rfl rfl ?_
    refine zq_X5_1 rfl rfl zw_20 dX5_which_16 ?_
    refine zq_X1_4 rfl rfl zw_232 dX5_which_19 ?_
    refine zg_bipush (v := 12) dX5_which_22 (by decide) ?_
    refine zg_iload_n 2 dX5_which_24 rfl rfl ?_
    refine zg_iadd dX5_which_25 ?_
    refine zg_iald rfl dX5_which_26 ?_
    refine zg_if_ne 74 dX5_which_27 (by decide) ?_ ?_
    · exact gX5_which_74 N k4 hk4 S l1 l2
    · refine zg_aload_n 0 dX5_which_30 rfl rfl ?_
      refine zq_X5_2 rfl rfl zw_21 dX5_which_31 ?_
      refine zg_aload_n 0 dX5_which_34 rfl rfl ?_
      refine zq_X5_1 rfl rfl zw_20 dX5_which_35 ?_
      refine zg_callVV (As := [.ref (zb_ad G 3)]) (rest := []) 1 (zcX1_copy N 5 rfl 3 rfl S) (by decide) (by decide) rfl (by decide) rfl zw_533 zw_534 zw_535 zw_19 zw_536 (by decide +kernel) rfl rfl (Nat.le_of_ble_eq_true rfl) dX5_which_38 (fun S1 => ?_)
      refine zg_aload_n 0 dX5_which_41 rfl rfl ?_
      refine zq_X5_2 rfl rfl zw_21 dX5_which_42 ?_
      refine zq_X1_4 rfl rfl zw_232 dX5_which_45 ?_
      refine zg_bipush (v := 12) dX5_which_48 (by decide) ?_
      refine zg_iload_n 2 dX5_which_50 rfl rfl ?_
      refine zg_iadd dX5_which_51 ?_
      refine zg_iconst (v := 1) dX5_which_52 (by decide) ?_
      refine zg_iast rfl dX5_which_53 (fun S3 => ?_)
      refine zg_aload_n 0 dX5_which_54 rfl rfl ?_
      refine zq_X5_7 rfl rfl zw_35 dX5_which_55 ?_
      refine zg_aload_n 0 dX5_which_58 rfl rfl ?_
      refine zq_X5_2 rfl rfl zw_21 dX5_which_59 ?_
      refine zg_callVI (As := [.ref (zb_ad G 5)]) (rest := []) 1 (zcX2_allSo N 5 rfl S3) (by decide) (by decide) rfl (by decide) rfl zw_653 zw_654 zw_655 zw_34 zw_656 (by decide +kernel) rfl rfl (Nat.le_of_ble_eq_true rfl) dX5_which_62 (fun r5 S4 => ?_)
      refine zg_if_eq 74 dX5_which_65 (by decide) ?_ ?_
      · exact gX5_which_74 N k4 hk4 S4 l1 l2
      · refine zg_iload_n 1 dX5_which_68 rfl rfl ?_
        refine zg_iconst (v := 1) dX5_which_69 (by decide) ?_
        refine zg_iload_n 2 dX5_which_70 rfl rfl ?_
        refine zg_ishl dX5_which_71 ?_
        refine zg_ior dX5_which_72 ?_
        refine zg_istore_nL (fun x6 => [(1, .int x6), (0, .ref (zb_ad G 0)), (2, .int l2)]) dX5_which_73 rfl (by decide) (fun _ => rfl) (fun x6 => ?_)
        refine zg_sub [1, 0, 2] rfl ?_
        exact gX5_which_74 N k4 hk4 S4 x6 l2
def fX5_which_4 (N : Nat) : Nat → zb_S → Int32 → Int32 → Option (Int32 × zb_S)
  | 0, _, _, _ => none
  | n + 1, S, l1, l2 => fX5_which_4b N (fX5_which_4 N n) S l1 l2
set_option maxHeartbeats 4000000 in
set_option maxRecDepth 100000 in
theorem gX5_which_4 {l : Launch} {G : zb_G} (N : Nat) : ∀ (n : Nat) (S : zb_S) (l1 : Int32) (l2 : Int32), zb_Go zb_eI l G 5 RX5 cX5_which 3 (some .int) 4 [(0, .ref (zb_ad G 0)), (1, .int l1), (2, .int l2)] [] S (fX5_which_4 N n S l1 l2) := by
  intro n
  induction n with
  | zero => intros; exact zg_none
  | succ n ih =>
    intro S l1 l2
    exact gX5_which_4b N (fX5_which_4 N n) ih S l1 l2
def fX5_which_0 (N : Nat) (S : zb_S) : Option (Int32 × zb_S) :=
  fX5_which_4 N N S 0 0
set_option maxHeartbeats 4000000 in
set_option maxRecDepth 100000 in
theorem gX5_which_0 {l : Launch} {G : zb_G} (N : Nat) (S : zb_S) : zb_Go zb_eI l G 5 RX5 cX5_which 3 (some .int) 0 [(0, .ref (zb_ad G 0))] [] S (fX5_which_0 N S) := by
  unfold fX5_which_0
  refine zg_iconst (v := 0) dX5_which_0 (by decide) ?_
  refine zg_istore_n (lv' := [(1, .int 0), (0, .ref (zb_ad G 0))]) dX5_which_1 rfl (by decide) rfl ?_
  refine zg_iconst (v := 0) dX5_which_2 (by decide) ?_
  refine zg_istore_n (lv' := [(2, .int 0), (1, .int 0), (0, .ref (zb_ad G 0))]) dX5_which_3 rfl (by decide) rfl ?_
  refine zg_sub [2, 1, 0] rfl ?_
  exact gX5_which_4 N N S 0 0
def fX5_which (N : Nat) (S : zb_S) : Option (Int32 × zb_S) := fX5_which_0 N S
theorem zcX5_which {l : Launch} {G : zb_G} (N : Nat) (S : zb_S) : zb_C zb_eI l G 5 yX5_which cX5_which 3 (some .int) [.ref (zb_ad G 0)] S (fX5_which N S) :=
  zb_C.of (by decide +kernel) rfl (Nat.le_of_ble_eq_true rfl) rfl (gX5_which_0 N S)
-- X5_listUnsound
def fX5_listUnsound_60 (N : Nat) (k7 : zb_S → Int32 → Int32 → Int32 → Int32 → Option (Int32 × zb_S)) (S : zb_S) (l1 : Int32) (l2 : Int32) (l3 : Int32) (l4 : Int32) : Option (Int32 × zb_S) :=
  zb_let (l4 + 1) (fun x1 : Int32 =>
  k7 S l1 l2 l3 x1)
set_option maxHeartbeats 4000000 in
set_option maxRecDepth 100000 in
theorem gX5_listUnsound_60 {l : Launch} {G : zb_G} (N : Nat) (k7 : zb_S → Int32 → Int32 → Int32 → Int32 → Option (Int32 × zb_S)) (hk7 : ∀ (S : zb_S) (l1 : Int32) (l2 : Int32) (l3 : Int32) (l4 : Int32), zb_Go zb_eI l G 0 RX5 cX5_listUnsound 5 (some .int) 7 [(0, .ref (zb_ad G 0)), (1, .int l1), (2, .int l2), (3, .int l3), (4, .int l4)] [] S (k7 S l1 l2 l3 l4)) (S : zb_S) (l1 : Int32) (l2 : Int32) (l3 : Int32) (l4 : Int32) : zb_Go zb_eI l G 0 RX5 cX5_listUnsound 5 (some .int) 60 [(0, .ref (zb_ad G 0)), (1, .int l1), (2, .int l2), (3, .int l3), (4, .int l4)] [] S (fX5_listUnsound_60 N k7 S l1 l2 l3 l4) := by
  unfold fX5_listUnsound_60
  refine zg_iincL (fun x1 => [(4, .int x1), (0, .ref (zb_ad G 0)), (1, .int l1), (2, .int l2), (3, .int l3)]) 4 dX5_listUnsound_60 rfl rfl (by decide) (fun _ => rfl) (fun x1 => ?_)
  refine zg_goto (tgt := 7) dX5_listUnsound_63 (by decide) ?_
  refine zg_sub [1, 2, 3, 4, 0] rfl ?_
  exact hk7 S l1 l2 l3 x1
def fX5_listUnsound_49 (N : Nat) (k7 : zb_S → Int32 → Int32 → Int32 → Int32 → Option (Int32 × zb_S)) (S : zb_S) (l1 : Int32) (l2 : Int32) (l3 : Int32) (l4 : Int32) : Option (Int32 × zb_S) :=
  if zb_in l2 (zb_sz 19) then zb_let (zb_pa S 19 (Int32.toNatClampNeg l2) l4) (fun S1 : zb_S =>
  zb_let (l2 + 1) (fun x2 : Int32 =>
  fX5_listUnsound_60 N k7 S1 l1 x2 l3 l4)) else none
set_option maxHeartbeats 4000000 in
set_option maxRecDepth 100000 in
theorem gX5_listUnsound_49 {l : Launch} {G : zb_G} (N : Nat) (k7 : zb_S → Int32 → Int32 → Int32 → Int32 → Option (Int32 × zb_S)) (hk7 : ∀ (S : zb_S) (l1 : Int32) (l2 : Int32) (l3 : Int32) (l4 : Int32), zb_Go zb_eI l G 0 RX5 cX5_listUnsound 5 (some .int) 7 [(0, .ref (zb_ad G 0)), (1, .int l1), (2, .int l2), (3, .int l3), (4, .int l4)] [] S (k7 S l1 l2 l3 l4)) (S : zb_S) (l1 : Int32) (l2 : Int32) (l3 : Int32) (l4 : Int32) : zb_Go zb_eI l G 0 RX5 cX5_listUnsound 5 (some .int) 49 [(0, .ref (zb_ad G 0)), (1, .int l1), (2, .int l2), (3, .int l3), (4, .int l4)] [] S (fX5_listUnsound_49 N k7 S l1 l2 l3 l4) := by
  unfold fX5_listUnsound_49
  refine zg_aload_n 0 dX5_listUnsound_49 rfl rfl ?_
  refine zq_X5_9 rfl rfl zw_38 dX5_listUnsound_50 ?_
  refine zg_iload_n 2 dX5_listUnsound_53 rfl rfl ?_
  refine zg_iload 4 dX5_listUnsound_54 rfl ?_
  refine zg_iast rfl dX5_listUnsound_56 (fun S1 => ?_)
  refine zg_iincL (fun x2 => [(2, .int x2), (0, .ref (zb_ad G 0)), (1, .int l1), (3, .int l3), (4, .int l4)]) 2 dX5_listUnsound_57 rfl rfl (by decide) (fun _ => rfl) (fun x2 => ?_)
  refine zg_sub [1, 2, 0, 3, 4] rfl ?_
  exact gX5_listUnsound_60 N k7 hk7 S1 l1 x2 l3 l4
def fX5_listUnsound_7b (N : Nat) (k7 : zb_S → Int32 → Int32 → Int32 → Int32 → Option (Int32 × zb_S)) (S : zb_S) (l1 : Int32) (l2 : Int32) (l3 : Int32) (l4 : Int32) : Option (Int32 × zb_S) :=
  if (zb_i S 3 2) ≤ l4 then
    some (l3, S)
  else
    if 6 ≤ l2 then
      some (l3, S)
    else
      if zb_in (12 + l4) (zb_sz 4) then
      if (zb_a S 4 (Int32.toNatClampNeg (12 + l4))) = 0 then
        fX5_listUnsound_60 N k7 S l1 l2 l3 l4
      else
        if l4 = l1 then
          fX5_listUnsound_49 N k7 S l1 l2 l2 l4
        else
          fX5_listUnsound_49 N k7 S l1 l2 l3 l4 else none
set_option maxHeartbeats 4000000 in
set_option maxRecDepth 100000 in
theorem gX5_listUnsound_7b {l : Launch} {G : zb_G} (N : Nat) (k7 : zb_S → Int32 → Int32 → Int32 → Int32 → Option (Int32 × zb_S)) (hk7 : ∀ (S : zb_S) (l1 : Int32) (l2 : Int32) (l3 : Int32) (l4 : Int32), zb_Go zb_eI l G 0 RX5 cX5_listUnsound 5 (some .int) 7 [(0, .ref (zb_ad G 0)), (1, .int l1), (2, .int l2), (3, .int l3), (4, .int l4)] [] S (k7 S l1 l2 l3 l4)) (S : zb_S) (l1 : Int32) (l2 : Int32) (l3 : Int32) (l4 : Int32) : zb_Go zb_eI l G 0 RX5 cX5_listUnsound 5 (some .int) 7 [(0, .ref (zb_ad G 0)), (1, .int l1), (2, .int l2), (3, .int l3), (4, .int l4)] [] S (fX5_listUnsound_7b N k7 S l1 l2 l3 l4) := by
  unfold fX5_listUnsound_7b
  refine zg_iload 4 dX5_listUnsound_7 rfl ?_
  refine zg_aload_n 0 dX5_listUnsound_9 rfl rfl ?_
  refine zq_X5_1 rfl rfl zw_20 dX5_listUnsound_10 ?_
  refine zq_X1_2 rfl zw_192 dX5_listUnsound_13 ?_
  refine zg_icmp_ge 66 dX5_listUnsound_16 (by decide) ?_ ?_
  · refine zg_iload_n 3 dX5_listUnsound_66 rfl rfl ?_
    exact zg_iret rfl dX5_listUnsound_67
  · refine zg_iload_n 2 dX5_listUnsound_19 rfl rfl ?_
    refine zg_bipush (v := 6) dX5_listUnsound_20 (by decide) ?_
    refine zg_icmp_ge 66 dX5_listUnsound_22 (by decide) ?_ ?_
    · refine zg_iload_n 3 dX5_listUnsound_66 rfl rfl ?_
      exact zg_iret rfl dX5_listUnsound_67
    · refine zg_aload_n 0 dX5_listUnsound_25 rfl rfl ?_
      refine zq_X5_1 rfl rfl zw_20 dX5_listUnsound_26 ?_
      refine zq_X1_4 rfl rfl zw_232 dX5_listUnsound_29 ?_
      refine zg_bipush (v := 12) dX5_listUnsound_32 (by decide) ?_
      refine zg_iload 4 dX5_listUnsound_34 rfl ?_
      refine zg_iadd dX5_listUnsound_36 ?_
      refine zg_iald rfl dX5_listUnsound_37 ?_
      refine zg_if_eq 60 dX5_listUnsound_38 (by decide) ?_ ?_
      · exact gX5_listUnsound_60 N k7 hk7 S l1 l2 l3 l4
      · refine zg_iload 4 dX5_listUnsound_41 rfl ?_
        refine zg_iload_n 1 dX5_listUnsound_43 rfl rfl ?_
        refine zg_icmp_ne 49 dX5_listUnsound_44 (by decide) ?_ ?_
        · exact gX5_listUnsound_49 N k7 hk7 S l1 l2 l3 l4
        · refine zg_iload_n 2 dX5_listUnsound_47 rfl rfl ?_
          refine zg_istore_n (lv' := [(3, .int l2), (0, .ref (zb_ad G 0)), (1, .int l1), (2, .int l2), (4, .int l4)]) dX5_listUnsound_48 rfl (by decide) rfl ?_
          refine zg_sub [1, 2, 3, 0, 4] rfl ?_
          exact gX5_listUnsound_49 N k7 hk7 S l1 l2 l2 l4
def fX5_listUnsound_7 (N : Nat) : Nat → zb_S → Int32 → Int32 → Int32 → Int32 → Option (Int32 × zb_S)
  | 0, _, _, _, _, _ => none
  | n + 1, S, l1, l2, l3, l4 => fX5_listUnsound_7b N (fX5_listUnsound_7 N n) S l1 l2 l3 l4
set_option maxHeartbeats 4000000 in
set_option maxRecDepth 100000 in
theorem gX5_listUnsound_7 {l : Launch} {G : zb_G} (N : Nat) : ∀ (n : Nat) (S : zb_S) (l1 : Int32) (l2 : Int32) (l3 : Int32) (l4 : Int32), zb_Go zb_eI l G 0 RX5 cX5_listUnsound 5 (some .int) 7 [(0, .ref (zb_ad G 0)), (1, .int l1), (2, .int l2), (3, .int l3), (4, .int l4)] [] S (fX5_listUnsound_7 N n S l1 l2 l3 l4) := by
  intro n
  induction n with
  | zero => intros; exact zg_none
  | succ n ih =>
    intro S l1 l2 l3 l4
    exact gX5_listUnsound_7b N (fX5_listUnsound_7 N n) ih S l1 l2 l3 l4
def fX5_listUnsound_0 (N : Nat) (S : zb_S) (a1 : Int32) : Option (Int32 × zb_S) :=
  fX5_listUnsound_7 N N S a1 0 0 0
set_option maxHeartbeats 4000000 in
set_option maxRecDepth 100000 in
theorem gX5_listUnsound_0 {l : Launch} {G : zb_G} (N : Nat) (S : zb_S) (a1 : Int32) : zb_Go zb_eI l G 0 RX5 cX5_listUnsound 5 (some .int) 0 [(0, .ref (zb_ad G 0)), (1, .int a1)] [] S (fX5_listUnsound_0 N S a1) := by
  unfold fX5_listUnsound_0
  refine zg_iconst (v := 0) dX5_listUnsound_0 (by decide) ?_
  refine zg_istore_n (lv' := [(2, .int 0), (0, .ref (zb_ad G 0)), (1, .int a1)]) dX5_listUnsound_1 rfl (by decide) rfl ?_
  refine zg_iconst (v := 0) dX5_listUnsound_2 (by decide) ?_
  refine zg_istore_n (lv' := [(3, .int 0), (2, .int 0), (0, .ref (zb_ad G 0)), (1, .int a1)]) dX5_listUnsound_3 rfl (by decide) rfl ?_
  refine zg_iconst (v := 0) dX5_listUnsound_4 (by decide) ?_
  refine zg_istore (lv' := [(4, .int 0), (3, .int 0), (2, .int 0), (0, .ref (zb_ad G 0)), (1, .int a1)]) dX5_listUnsound_5 (by decide) rfl ?_
  refine zg_sub [3, 4, 2, 1, 0] rfl ?_
  exact gX5_listUnsound_7 N N S a1 0 0 0
def fX5_listUnsound (N : Nat) (S : zb_S) (a1 : Int32) : Option (Int32 × zb_S) := fX5_listUnsound_0 N S a1
theorem zcX5_listUnsound {l : Launch} {G : zb_G} (N : Nat) (S : zb_S) (a1 : Int32) : zb_C zb_eI l G 0 yX5_listUnsound cX5_listUnsound 5 (some .int) [.ref (zb_ad G 0), .int a1] S (fX5_listUnsound N S a1) :=
  zb_C.of (by decide +kernel) rfl (Nat.le_of_ble_eq_true rfl) rfl (gX5_listUnsound_0 N S a1)
-- X5_outWith
def fX5_outWith_44 (N : Nat) (k13 : zb_S → Int32 → Int32 → Int32 → Option (Int32 × zb_S)) (S : zb_S) (l1 : Int32) (l2 : Int32) (l3 : Int32) : Option (Int32 × zb_S) :=
  zb_let (l3 + 1) (fun x1 : Int32 =>
  k13 S l1 l2 x1)
set_option maxHeartbeats 4000000 in
set_option maxRecDepth 100000 in
theorem gX5_outWith_44 {l : Launch} {G : zb_G} (N : Nat) (k13 : zb_S → Int32 → Int32 → Int32 → Option (Int32 × zb_S)) (hk13 : ∀ (S : zb_S) (l1 : Int32) (l2 : Int32) (l3 : Int32), zb_Go zb_eI l G 4 RX5 cX5_outWith 4 (some .int) 13 [(0, .ref (zb_ad G 0)), (1, .int l1), (2, .int l2), (3, .int l3)] [] S (k13 S l1 l2 l3)) (S : zb_S) (l1 : Int32) (l2 : Int32) (l3 : Int32) : zb_Go zb_eI l G 4 RX5 cX5_outWith 4 (some .int) 44 [(0, .ref (zb_ad G 0)), (1, .int l1), (2, .int l2), (3, .int l3)] [] S (fX5_outWith_44 N k13 S l1 l2 l3) := by
  unfold fX5_outWith_44
  refine zg_iincL (fun x1 => [(3, .int x1), (0, .ref (zb_ad G 0)), (1, .int l1), (2, .int l2)]) 3 dX5_outWith_44 rfl rfl (by decide) (fun _ => rfl) (fun x1 => ?_)
  refine zg_goto (tgt := 13) dX5_outWith_47 (by decide) ?_
  refine zg_sub [1, 2, 3, 0] rfl ?_
  exact hk13 S l1 l2 x1
def fX5_outWith_81 (N : Nat) (S : zb_S) : Option (Int32 × zb_S) :=
  if zb_in 55 (zb_sz 6) then
  some (zb_a S 6 (Int32.toNatClampNeg 55), S) else none
set_option maxHeartbeats 4000000 in
set_option maxRecDepth 100000 in
theorem gX5_outWith_81 {l : Launch} {G : zb_G} (N : Nat) (S : zb_S) : zb_Go zb_eI l G 4 RX5 cX5_outWith 4 (some .int) 81 [(0, .ref (zb_ad G 0))] [] S (fX5_outWith_81 N S) := by
  unfold fX5_outWith_81
  refine zg_aload_n 0 dX5_outWith_81 rfl rfl ?_
  refine zq_X5_2 rfl rfl zw_21 dX5_outWith_82 ?_
  refine zq_X1_4 rfl rfl zw_232 dX5_outWith_85 ?_
  refine zg_bipush (v := 55) dX5_outWith_88 (by decide) ?_
  refine zg_iald rfl dX5_outWith_90 ?_
  exact zg_iret rfl dX5_outWith_91
def fX5_outWith_52b (N : Nat) (k52 : zb_S → Int32 → Option (Int32 × zb_S)) (S : zb_S) (l3 : Int32) : Option (Int32 × zb_S) :=
  if 20 ≤ l3 then
    fX5_outWith_81 N S
  else
    zb_bind (fX1_loaded N 5 S) (fun r2 S1 =>
    if r2 = 0 then
      fX5_outWith_81 N S1
    else
      zb_bind (fX1_advanceOnce N 5 S1) (fun _ S3 =>
      zb_let (l3 + 1) (fun x5 : Int32 =>
      k52 S3 x5)))
set_option maxHeartbeats 4000000 in
set_option maxRecDepth 100000 in
theorem gX5_outWith_52b {l : Launch} {G : zb_G} (N : Nat) (k52 : zb_S → Int32 → Option (Int32 × zb_S)) (hk52 : ∀ (S : zb_S) (l3 : Int32), zb_Go zb_eI l G 4 RX5 cX5_outWith 4 (some .int) 52 [(0, .ref (zb_ad G 0)), (3, .int l3)] [] S (k52 S l3)) (S : zb_S) (l3 : Int32) : zb_Go zb_eI l G 4 RX5 cX5_outWith 4 (some .int) 52 [(0, .ref (zb_ad G 0)), (3, .int l3)] [] S (fX5_outWith_52b N k52 S l3) := by
  unfold fX5_outWith_52b
  refine zg_iload_n 1 dX5_outWith_52 rfl rfl ?_
  refine zg_bipush (v := 20) dX5_outWith_53 (by decide) ?_
  refine zg_icmp_ge 81 dX5_outWith_55 (by decide) ?_ ?_
  · refine zg_sub [0] rfl ?_
    exact gX5_outWith_81 N S
  · refine zg_aload_n 0 dX5_outWith_58 rfl rfl ?_
    refine zq_X5_2 rfl rfl zw_21 dX5_outWith_59 ?_
    refine zg_callVI (As := []) (rest := []) 0 (zcX1_loaded N 5 rfl S) (by decide) (by decide) rfl (by decide) rfl zw_554 zw_555 zw_556 zw_19 zw_557 (by decide +kernel) rfl rfl (Nat.le_of_ble_eq_true rfl) dX5_outWith_62 (fun r2 S1 => ?_)
    refine zg_if_eq 81 dX5_outWith_65 (by decide) ?_ ?_
    · refine zg_sub [0] rfl ?_
      exact gX5_outWith_81 N S1
    · refine zg_aload_n 0 dX5_outWith_68 rfl rfl ?_
      refine zq_X5_2 rfl rfl zw_21 dX5_outWith_69 ?_
      refine zg_callVV (As := []) (rest := []) 0 (zcX1_advanceOnce N 5 rfl S1) (by decide) (by decide) rfl (by decide) rfl zw_558 zw_407 zw_408 zw_19 zw_409 (by decide +kernel) rfl rfl (Nat.le_of_ble_eq_true rfl) dX5_outWith_72 (fun S3 => ?_)
      refine zg_iincL (fun x5 => [(3, .int x5), (0, .ref (zb_ad G 0))]) 1 dX5_outWith_75 rfl rfl (by decide) (fun _ => rfl) (fun x5 => ?_)
      refine zg_goto (tgt := 52) dX5_outWith_78 (by decide) ?_
      refine zg_sub [1, 0] rfl ?_
      exact hk52 S3 x5
def fX5_outWith_52 (N : Nat) : Nat → zb_S → Int32 → Option (Int32 × zb_S)
  | 0, _, _ => none
  | n + 1, S, l3 => fX5_outWith_52b N (fX5_outWith_52 N n) S l3
set_option maxHeartbeats 4000000 in
set_option maxRecDepth 100000 in
theorem gX5_outWith_52 {l : Launch} {G : zb_G} (N : Nat) : ∀ (n : Nat) (S : zb_S) (l3 : Int32), zb_Go zb_eI l G 4 RX5 cX5_outWith 4 (some .int) 52 [(0, .ref (zb_ad G 0)), (3, .int l3)] [] S (fX5_outWith_52 N n S l3) := by
  intro n
  induction n with
  | zero => intros; exact zg_none
  | succ n ih =>
    intro S l3
    exact gX5_outWith_52b N (fX5_outWith_52 N n) ih S l3
def fX5_outWith_13b (N : Nat) (k13 : zb_S → Int32 → Int32 → Int32 → Option (Int32 × zb_S)) (S : zb_S) (l1 : Int32) (l2 : Int32) (l3 : Int32) : Option (Int32 × zb_S) :=
  if l2 ≤ l3 then
    fX5_outWith_52 N N S 0
  else
    zb_bind (fX1_in N S l1 l3) (fun r2 S1 =>
    if r2 = 0 then
      fX5_outWith_44 N k13 S1 l1 l2 l3
    else
      if zb_in l3 (zb_sz 19) then
      if zb_in (12 + (zb_a S1 19 (Int32.toNatClampNeg l3))) (zb_sz 6) then zb_let (zb_pa S1 6 (Int32.toNatClampNeg (12 + (zb_a S1 19 (Int32.toNatClampNeg l3)))) 0) (fun S3 : zb_S =>
      fX5_outWith_44 N k13 S3 l1 l2 l3) else none else none)
set_option maxHeartbeats 4000000 in
set_option maxRecDepth 100000 in
theorem gX5_outWith_13b {l : Launch} {G : zb_G} (N : Nat) (k13 : zb_S → Int32 → Int32 → Int32 → Option (Int32 × zb_S)) (hk13 : ∀ (S : zb_S) (l1 : Int32) (l2 : Int32) (l3 : Int32), zb_Go zb_eI l G 4 RX5 cX5_outWith 4 (some .int) 13 [(0, .ref (zb_ad G 0)), (1, .int l1), (2, .int l2), (3, .int l3)] [] S (k13 S l1 l2 l3)) (S : zb_S) (l1 : Int32) (l2 : Int32) (l3 : Int32) : zb_Go zb_eI l G 4 RX5 cX5_outWith 4 (some .int) 13 [(0, .ref (zb_ad G 0)), (1, .int l1), (2, .int l2), (3, .int l3)] [] S (fX5_outWith_13b N k13 S l1 l2 l3) := by
  unfold fX5_outWith_13b
  refine zg_iload_n 3 dX5_outWith_13 rfl rfl ?_
  refine zg_iload_n 2 dX5_outWith_14 rfl rfl ?_
  refine zg_icmp_ge 50 dX5_outWith_15 (by decide) ?_ ?_
  · refine zg_iconst (v := 0) dX5_outWith_50 (by decide) ?_
    refine zg_istore_n (lv' := [(3, .int 0), (0, .ref (zb_ad G 0)), (1, .int l1), (2, .int l2)]) dX5_outWith_51 rfl (by decide) rfl ?_
    refine zg_sub [1, 0] rfl ?_
    exact gX5_outWith_52 N N S 0
  · refine zg_iload_n 1 dX5_outWith_18 rfl rfl ?_
    refine zg_iload_n 3 dX5_outWith_19 rfl rfl ?_
    refine zg_callSI (As := [.int l1, .int l3]) (rest := []) 2 (zcX1_in N S l1 l3) (by decide) (by decide) zw_242 zw_157 zw_19 zw_158 (by decide +kernel) rfl rfl (Nat.le_of_ble_eq_true rfl) dX5_outWith_20 (fun r2 S1 => ?_)
    refine zg_if_eq 44 dX5_outWith_23 (by decide) ?_ ?_
    · exact gX5_outWith_44 N k13 hk13 S1 l1 l2 l3
    · refine zg_aload_n 0 dX5_outWith_26 rfl rfl ?_
      refine zq_X5_2 rfl rfl zw_21 dX5_outWith_27 ?_
      refine zq_X1_4 rfl rfl zw_232 dX5_outWith_30 ?_
      refine zg_bipush (v := 12) dX5_outWith_33 (by decide) ?_
      refine zg_aload_n 0 dX5_outWith_35 rfl rfl ?_
      refine zq_X5_9 rfl rfl zw_38 dX5_outWith_36 ?_
      refine zg_iload_n 3 dX5_outWith_39 rfl rfl ?_
      refine zg_iald rfl dX5_outWith_40 ?_
      refine zg_iadd dX5_outWith_41 ?_
      refine zg_iconst (v := 0) dX5_outWith_42 (by decide) ?_
      refine zg_iast rfl dX5_outWith_43 (fun S3 => ?_)
      exact gX5_outWith_44 N k13 hk13 S3 l1 l2 l3
def fX5_outWith_13 (N : Nat) : Nat → zb_S → Int32 → Int32 → Int32 → Option (Int32 × zb_S)
  | 0, _, _, _, _ => none
  | n + 1, S, l1, l2, l3 => fX5_outWith_13b N (fX5_outWith_13 N n) S l1 l2 l3
set_option maxHeartbeats 4000000 in
set_option maxRecDepth 100000 in
theorem gX5_outWith_13 {l : Launch} {G : zb_G} (N : Nat) : ∀ (n : Nat) (S : zb_S) (l1 : Int32) (l2 : Int32) (l3 : Int32), zb_Go zb_eI l G 4 RX5 cX5_outWith 4 (some .int) 13 [(0, .ref (zb_ad G 0)), (1, .int l1), (2, .int l2), (3, .int l3)] [] S (fX5_outWith_13 N n S l1 l2 l3) := by
  intro n
  induction n with
  | zero => intros; exact zg_none
  | succ n ih =>
    intro S l1 l2 l3
    exact gX5_outWith_13b N (fX5_outWith_13 N n) ih S l1 l2 l3
def fX5_outWith_0 (N : Nat) (S : zb_S) (a1 : Int32) (a2 : Int32) : Option (Int32 × zb_S) :=
  zb_bind (fX1_copy N 5 3 S) (fun _ S1 =>
  fX5_outWith_13 N N S1 a1 a2 0)
set_option maxHeartbeats 4000000 in
set_option maxRecDepth 100000 in
theorem gX5_outWith_0 {l : Launch} {G : zb_G} (N : Nat) (S : zb_S) (a1 : Int32) (a2 : Int32) : zb_Go zb_eI l G 4 RX5 cX5_outWith 4 (some .int) 0 [(0, .ref (zb_ad G 0)), (1, .int a1), (2, .int a2)] [] S (fX5_outWith_0 N S a1 a2) := by
  unfold fX5_outWith_0
  refine zg_aload_n 0 dX5_outWith_0 rfl rfl ?_
  refine zq_X5_2 rfl rfl zw_21 dX5_outWith_1 ?_
  refine zg_aload_n 0 dX5_outWith_4 rfl rfl ?_
  refine zq_X5_1 rfl rfl zw_20 dX5_outWith_5 ?_
  refine zg_callVV (As := [.ref (zb_ad G 3)]) (rest := []) 1 (zcX1_copy N 5 rfl 3 rfl S) (by decide) (by decide) rfl (by decide) rfl zw_533 zw_534 zw_535 zw_19 zw_536 (by decide +kernel) rfl rfl (Nat.le_of_ble_eq_true rfl) dX5_outWith_8 (fun S1 => ?_)
  refine zg_iconst (v := 0) dX5_outWith_11 (by decide) ?_
  refine zg_istore_n (lv' := [(3, .int 0), (0, .ref (zb_ad G 0)), (1, .int a1), (2, .int a2)]) dX5_outWith_12 rfl (by decide) rfl ?_
  refine zg_sub [1, 2, 3, 0] rfl ?_
  exact gX5_outWith_13 N N S1 a1 a2 0
def fX5_outWith (N : Nat) (S : zb_S) (a1 : Int32) (a2 : Int32) : Option (Int32 × zb_S) := fX5_outWith_0 N S a1 a2
theorem zcX5_outWith {l : Launch} {G : zb_G} (N : Nat) (S : zb_S) (a1 : Int32) (a2 : Int32) : zb_C zb_eI l G 4 yX5_outWith cX5_outWith 4 (some .int) [.ref (zb_ad G 0), .int a1, .int a2] S (fX5_outWith N S a1 a2) :=
  zb_C.of (by decide +kernel) rfl (Nat.le_of_ble_eq_true rfl) rfl (gX5_outWith_0 N S a1 a2)
-- X5_gainInAllOrders
def fX5_gainInAllOrders_73 (N : Nat) (k5 : zb_S → Int32 → Int32 → Int32 → Int32 → Option (Int32 × zb_S)) (S : zb_S) (l1 : Int32) (l2 : Int32) (l3 : Int32) (l4 : Int32) : Option (Int32 × zb_S) :=
  zb_let (l4 + 1) (fun x1 : Int32 =>
  k5 S l1 l2 l3 x1)
set_option maxHeartbeats 4000000 in
set_option maxRecDepth 100000 in
theorem gX5_gainInAllOrders_73 {l : Launch} {G : zb_G} (N : Nat) (k5 : zb_S → Int32 → Int32 → Int32 → Int32 → Option (Int32 × zb_S)) (hk5 : ∀ (S : zb_S) (l1 : Int32) (l2 : Int32) (l3 : Int32) (l4 : Int32), zb_Go zb_eI l G 1 RX5 cX5_gainInAllOrders 7 (some .int) 5 [(0, .ref (zb_ad G 0)), (1, .int l1), (2, .int l2), (3, .int l3), (4, .int l4)] [] S (k5 S l1 l2 l3 l4)) (S : zb_S) (l1 : Int32) (l2 : Int32) (l3 : Int32) (l4 : Int32) : zb_Go zb_eI l G 1 RX5 cX5_gainInAllOrders 7 (some .int) 73 [(0, .ref (zb_ad G 0)), (1, .int l1), (2, .int l2), (3, .int l3), (4, .int l4)] [] S (fX5_gainInAllOrders_73 N k5 S l1 l2 l3 l4) := by
  unfold fX5_gainInAllOrders_73
  refine zg_iincL (fun x1 => [(4, .int x1), (0, .ref (zb_ad G 0)), (1, .int l1), (2, .int l2), (3, .int l3)]) 4 dX5_gainInAllOrders_73 rfl rfl (by decide) (fun _ => rfl) (fun x1 => ?_)
  refine zg_goto (tgt := 5) dX5_gainInAllOrders_76 (by decide) ?_
  refine zg_sub [1, 2, 3, 4, 0] rfl ?_
  exact hk5 S l1 l2 l3 x1
def fX5_gainInAllOrders_5b (N : Nat) (k5 : zb_S → Int32 → Int32 → Int32 → Int32 → Option (Int32 × zb_S)) (S : zb_S) (l1 : Int32) (l2 : Int32) (l3 : Int32) (l4 : Int32) : Option (Int32 × zb_S) :=
  if ((1 : Int32) <<< (l2 &&& 31)) ≤ l4 then
    some (l3, S)
  else
    zb_bind (fX1_in N S l4 l1) (fun r2 S1 =>
    if r2 = 0 then
      zb_bind (fJ6_bitCount_0f7a4 N S1 l4) (fun r4 S3 =>
      if zb_in r4 7 then
      if zb_in ((l2 - 1) - r4) 7 then
      zb_let ((zb_fac (Int32.toNatClampNeg r4)) * (zb_fac (Int32.toNatClampNeg ((l2 - 1) - r4)))) (fun x5 : Int32 =>
      if zb_in (l4 ||| ((1 : Int32) <<< (l1 &&& 31))) (zb_sz 20) then
      if zb_in l4 (zb_sz 20) then
      zb_let (l3 + (x5 * ((zb_a S3 20 (Int32.toNatClampNeg (l4 ||| ((1 : Int32) <<< (l1 &&& 31))))) - (zb_a S3 20 (Int32.toNatClampNeg l4))))) (fun x6 : Int32 =>
      fX5_gainInAllOrders_73 N k5 S3 l1 l2 x6 l4) else none else none) else none else none)
    else
      fX5_gainInAllOrders_73 N k5 S1 l1 l2 l3 l4)
set_option maxHeartbeats 4000000 in
set_option maxRecDepth 100000 in
theorem gX5_gainInAllOrders_5b {l : Launch} {G : zb_G} (N : Nat) (k5 : zb_S → Int32 → Int32 → Int32 → Int32 → Option (Int32 × zb_S)) (hk5 : ∀ (S : zb_S) (l1 : Int32) (l2 : Int32) (l3 : Int32) (l4 : Int32), zb_Go zb_eI l G 1 RX5 cX5_gainInAllOrders 7 (some .int) 5 [(0, .ref (zb_ad G 0)), (1, .int l1), (2, .int l2), (3, .int l3), (4, .int l4)] [] S (k5 S l1 l2 l3 l4)) (S : zb_S) (l1 : Int32) (l2 : Int32) (l3 : Int32) (l4 : Int32) : zb_Go zb_eI l G 1 RX5 cX5_gainInAllOrders 7 (some .int) 5 [(0, .ref (zb_ad G 0)), (1, .int l1), (2, .int l2), (3, .int l3), (4, .int l4)] [] S (fX5_gainInAllOrders_5b N k5 S l1 l2 l3 l4) := by
  unfold fX5_gainInAllOrders_5b
  refine zg_iload 4 dX5_gainInAllOrders_5 rfl ?_
  refine zg_iconst (v := 1) dX5_gainInAllOrders_7 (by decide) ?_
  refine zg_iload_n 2 dX5_gainInAllOrders_8 rfl rfl ?_
  refine zg_ishl dX5_gainInAllOrders_9 ?_
  refine zg_icmp_ge 79 dX5_gainInAllOrders_10 (by decide) ?_ ?_
  · refine zg_iload_n 3 dX5_gainInAllOrders_79 rfl rfl ?_
    exact zg_iret rfl dX5_gainInAllOrders_80
  · refine zg_iload 4 dX5_gainInAllOrders_13 rfl ?_
    refine zg_iload_n 1 dX5_gainInAllOrders_15 rfl rfl ?_
    refine zg_callSI (As := [.int l4, .int l1]) (rest := []) 2 (zcX1_in N S l4 l1) (by decide) (by decide) zw_242 zw_157 zw_19 zw_158 (by decide +kernel) rfl rfl (Nat.le_of_ble_eq_true rfl) dX5_gainInAllOrders_16 (fun r2 S1 => ?_)
    refine zg_if_ne 73 dX5_gainInAllOrders_19 (by decide) ?_ ?_
    · exact gX5_gainInAllOrders_73 N k5 hk5 S1 l1 l2 l3 l4
    · refine zg_iload 4 dX5_gainInAllOrders_22 rfl ?_
      refine zg_callSI (As := [.int l4]) (rest := []) 1 (zcJ6_bitCount_0f7a4 N S1 l4) (by decide) (by decide) zw_380 zw_381 zw_382 zw_383 (by decide +kernel) rfl rfl (Nat.le_of_ble_eq_true rfl) dX5_gainInAllOrders_24 (fun r4 S3 => ?_)
      refine zg_istore (lv' := [(5, .int r4), (0, .ref (zb_ad G 0)), (1, .int l1), (2, .int l2), (3, .int l3), (4, .int l4)]) dX5_gainInAllOrders_27 (by decide) rfl ?_
      refine zg_getsF rfl zw_680 dX5_gainInAllOrders_29 ?_
      refine zg_iload 0 dX5_gainInAllOrders_32 rfl ?_
      refine zg_tiF dX5_gainInAllOrders_34 ?_
      refine zg_getsF rfl zw_680 dX5_gainInAllOrders_35 ?_
      refine zg_iload_n 3 dX5_gainInAllOrders_38 rfl rfl ?_
      refine zg_iconst (v := 1) dX5_gainInAllOrders_39 (by decide) ?_
      refine zg_isub dX5_gainInAllOrders_40 ?_
      refine zg_iload 0 dX5_gainInAllOrders_41 rfl ?_
      refine zg_isub dX5_gainInAllOrders_43 ?_
      refine zg_tiF dX5_gainInAllOrders_44 ?_
      refine zg_imul dX5_gainInAllOrders_45 ?_
      refine zg_istoreL (fun x5 => [(6, .int x5), (5, .int r4), (0, .ref (zb_ad G 0)), (1, .int l1), (2, .int l2), (3, .int l3), (4, .int l4)]) dX5_gainInAllOrders_46 (by decide) (fun _ => rfl) (fun x5 => ?_)
      refine zg_iload_n 5 dX5_gainInAllOrders_48 rfl rfl ?_
      refine zg_iload 0 dX5_gainInAllOrders_49 rfl ?_
      refine zg_aload_n 2 dX5_gainInAllOrders_51 rfl rfl ?_
      refine zq_X5_10 rfl rfl zw_39 dX5_gainInAllOrders_52 ?_
      refine zg_iload 6 dX5_gainInAllOrders_55 rfl ?_
      refine zg_iconst (v := 1) dX5_gainInAllOrders_57 (by decide) ?_
      refine zg_iload_n 3 dX5_gainInAllOrders_58 rfl rfl ?_
      refine zg_ishl dX5_gainInAllOrders_59 ?_
      refine zg_ior dX5_gainInAllOrders_60 ?_
      refine zg_iald rfl dX5_gainInAllOrders_61 ?_
      refine zg_aload_n 2 dX5_gainInAllOrders_62 rfl rfl ?_
      refine zq_X5_10 rfl rfl zw_39 dX5_gainInAllOrders_63 ?_
      refine zg_iload 6 dX5_gainInAllOrders_66 rfl ?_
      refine zg_iald rfl dX5_gainInAllOrders_68 ?_
      refine zg_isub dX5_gainInAllOrders_69 ?_
      refine zg_imul dX5_gainInAllOrders_70 ?_
      refine zg_iadd dX5_gainInAllOrders_71 ?_
      refine zg_istore_nL (fun x6 => [(3, .int x6), (6, .int x5), (5, .int r4), (0, .ref (zb_ad G 0)), (1, .int l1), (2, .int l2), (4, .int l4)]) dX5_gainInAllOrders_72 rfl (by decide) (fun _ => rfl) (fun x6 => ?_)
      refine zg_sub [3, 4, 5, 0, 6] rfl ?_
      exact gX5_gainInAllOrders_73 N k5 hk5 S3 l1 l2 x6 l4
def fX5_gainInAllOrders_5 (N : Nat) : Nat → zb_S → Int32 → Int32 → Int32 → Int32 → Option (Int32 × zb_S)
  | 0, _, _, _, _, _ => none
  | n + 1, S, l1, l2, l3, l4 => fX5_gainInAllOrders_5b N (fX5_gainInAllOrders_5 N n) S l1 l2 l3 l4
set_option maxHeartbeats 4000000 in
set_option maxRecDepth 100000 in
theorem gX5_gainInAllOrders_5 {l : Launch} {G : zb_G} (N : Nat) : ∀ (n : Nat) (S : zb_S) (l1 : Int32) (l2 : Int32) (l3 : Int32) (l4 : Int32), zb_Go zb_eI l G 1 RX5 cX5_gainInAllOrders 7 (some .int) 5 [(0, .ref (zb_ad G 0)), (1, .int l1), (2, .int l2), (3, .int l3), (4, .int l4)] [] S (fX5_gainInAllOrders_5 N n S l1 l2 l3 l4) := by
  intro n
  induction n with
  | zero => intros; exact zg_none
  | succ n ih =>
    intro S l1 l2 l3 l4
    exact gX5_gainInAllOrders_5b N (fX5_gainInAllOrders_5 N n) ih S l1 l2 l3 l4
def fX5_gainInAllOrders_0 (N : Nat) (S : zb_S) (a1 : Int32) (a2 : Int32) : Option (Int32 × zb_S) :=
  fX5_gainInAllOrders_5 N N S a1 a2 0 0
set_option maxHeartbeats 4000000 in
set_option maxRecDepth 100000 in
theorem gX5_gainInAllOrders_0 {l : Launch} {G : zb_G} (N : Nat) (S : zb_S) (a1 : Int32) (a2 : Int32) : zb_Go zb_eI l G 1 RX5 cX5_gainInAllOrders 7 (some .int) 0 [(0, .ref (zb_ad G 0)), (1, .int a1), (2, .int a2)] [] S (fX5_gainInAllOrders_0 N S a1 a2) := by
  unfold fX5_gainInAllOrders_0
  refine zg_iconst (v := 0) dX5_gainInAllOrders_0 (by decide) ?_
  refine zg_istore_n (lv' := [(3, .int 0), (0, .ref (zb_ad G 0)), (1, .int a1), (2, .int a2)]) dX5_gainInAllOrders_1 rfl (by decide) rfl ?_
  refine zg_iconst (v := 0) dX5_gainInAllOrders_2 (by decide) ?_
  refine zg_istore (lv' := [(4, .int 0), (3, .int 0), (0, .ref (zb_ad G 0)), (1, .int a1), (2, .int a2)]) dX5_gainInAllOrders_3 (by decide) rfl ?_
  refine zg_sub [2, 3, 4, 1, 0] rfl ?_
  exact gX5_gainInAllOrders_5 N N S a1 a2 0 0
def fX5_gainInAllOrders (N : Nat) (S : zb_S) (a1 : Int32) (a2 : Int32) : Option (Int32 × zb_S) := fX5_gainInAllOrders_0 N S a1 a2
theorem zcX5_gainInAllOrders {l : Launch} {G : zb_G} (N : Nat) (S : zb_S) (a1 : Int32) (a2 : Int32) : zb_C zb_eI l G 1 yX5_gainInAllOrders cX5_gainInAllOrders 7 (some .int) [.ref (zb_ad G 0), .int a1, .int a2] S (fX5_gainInAllOrders N S a1 a2) :=
  zb_C.of (by decide +kernel) rfl (Nat.le_of_ble_eq_true rfl) rfl (gX5_gainInAllOrders_0 N S a1 a2)
-- X5_commonDivisor
def fX5_commonDivisor_7b (N : Nat) (k7 : zb_S → Int32 → Int32 → Int32 → Option (Int32 × zb_S)) (S : zb_S) (l2 : Int32) (l3 : Int32) (l4 : Int32) : Option (Int32 × zb_S) :=
  if 64 ≤ l4 then
    some (l2, S)
  else
    if l3 = 0 then
      some (l2, S)
    else
      if l3 = 0 then none else
      zb_let (l2 - l2 / l3 * l3) (fun x1 : Int32 =>
      zb_let (l4 + 1) (fun x2 : Int32 =>
      k7 S l3 x1 x2))
set_option maxHeartbeats 4000000 in
set_option maxRecDepth 100000 in
theorem gX5_commonDivisor_7b {l : Launch} {G : zb_G} (N : Nat) (k7 : zb_S → Int32 → Int32 → Int32 → Option (Int32 × zb_S)) (hk7 : ∀ (S : zb_S) (l2 : Int32) (l3 : Int32) (l4 : Int32), zb_Go zb_eI l G 0 RX5 cX5_commonDivisor 6 (some .int) 7 [(2, .int l2), (3, .int l3), (4, .int l4)] [] S (k7 S l2 l3 l4)) (S : zb_S) (l2 : Int32) (l3 : Int32) (l4 : Int32) : zb_Go zb_eI l G 0 RX5 cX5_commonDivisor 6 (some .int) 7 [(2, .int l2), (3, .int l3), (4, .int l4)] [] S (fX5_commonDivisor_7b N k7 S l2 l3 l4) := by
  unfold fX5_commonDivisor_7b
  refine zg_iload 2 dX5_commonDivisor_7 rfl ?_
  refine zg_bipush (v := 64) dX5_commonDivisor_9 (by decide) ?_
  refine zg_icmp_ge 34 dX5_commonDivisor_11 (by decide) ?_ ?_
  · refine zg_iload_n 0 dX5_commonDivisor_34 rfl rfl ?_
    exact zg_iret rfl dX5_commonDivisor_35
  · refine zg_iload_n 1 dX5_commonDivisor_14 rfl rfl ?_
    refine zg_if_eq 34 dX5_commonDivisor_15 (by decide) ?_ ?_
    · refine zg_iload_n 0 dX5_commonDivisor_34 rfl rfl ?_
      exact zg_iret rfl dX5_commonDivisor_35
    · refine zg_iload_n 0 dX5_commonDivisor_18 rfl rfl ?_
      refine zg_iload_n 1 dX5_commonDivisor_19 rfl rfl ?_
      refine zg_irem dX5_commonDivisor_20 (fun _ => ?_)
      refine zg_istoreL (fun x1 => [(5, .int x1), (2, .int l2), (3, .int l3), (4, .int l4)]) dX5_commonDivisor_21 (by decide) (fun _ => rfl) (fun x1 => ?_)
      refine zg_iload_n 2 dX5_commonDivisor_23 rfl rfl ?_
      refine zg_istore_n (lv' := [(2, .int l3), (5, .int x1), (3, .int l3), (4, .int l4)]) dX5_commonDivisor_24 rfl (by decide) rfl ?_
      refine zg_iload 1 dX5_commonDivisor_25 rfl ?_
      refine zg_istore_n (lv' := [(3, .int x1), (2, .int l3), (5, .int x1), (4, .int l4)]) dX5_commonDivisor_27 rfl (by decide) rfl ?_
      refine zg_iincL (fun x2 => [(4, .int x2), (3, .int x1), (2, .int l3), (5, .int x1)]) 3 dX5_commonDivisor_28 rfl rfl (by decide) (fun _ => rfl) (fun x2 => ?_)
      refine zg_goto (tgt := 7) dX5_commonDivisor_31 (by decide) ?_
      refine zg_sub [2, 1, 0] rfl ?_
      exact hk7 S l3 x1 x2
def fX5_commonDivisor_7 (N : Nat) : Nat → zb_S → Int32 → Int32 → Int32 → Option (Int32 × zb_S)
  | 0, _, _, _, _ => none
  | n + 1, S, l2, l3, l4 => fX5_commonDivisor_7b N (fX5_commonDivisor_7 N n) S l2 l3 l4
set_option maxHeartbeats 4000000 in
set_option maxRecDepth 100000 in
theorem gX5_commonDivisor_7 {l : Launch} {G : zb_G} (N : Nat) : ∀ (n : Nat) (S : zb_S) (l2 : Int32) (l3 : Int32) (l4 : Int32), zb_Go zb_eI l G 0 RX5 cX5_commonDivisor 6 (some .int) 7 [(2, .int l2), (3, .int l3), (4, .int l4)] [] S (fX5_commonDivisor_7 N n S l2 l3 l4) := by
  intro n
  induction n with
  | zero => intros; exact zg_none
  | succ n ih =>
    intro S l2 l3 l4
    exact gX5_commonDivisor_7b N (fX5_commonDivisor_7 N n) ih S l2 l3 l4
def fX5_commonDivisor_0 (N : Nat) (S : zb_S) (a0 : Int32) (a1 : Int32) : Option (Int32 × zb_S) :=
  fX5_commonDivisor_7 N N S a0 a1 0
set_option maxHeartbeats 4000000 in
set_option maxRecDepth 100000 in
theorem gX5_commonDivisor_0 {l : Launch} {G : zb_G} (N : Nat) (S : zb_S) (a0 : Int32) (a1 : Int32) : zb_Go zb_eI l G 0 RX5 cX5_commonDivisor 6 (some .int) 0 [(0, .int a0), (1, .int a1)] [] S (fX5_commonDivisor_0 N S a0 a1) := by
  unfold fX5_commonDivisor_0
  refine zg_iload_n 0 dX5_commonDivisor_0 rfl rfl ?_
  refine zg_istore_n (lv' := [(2, .int a0), (0, .int a0), (1, .int a1)]) dX5_commonDivisor_1 rfl (by decide) rfl ?_
  refine zg_iload_n 2 dX5_commonDivisor_2 rfl rfl ?_
  refine zg_istore_n (lv' := [(3, .int a1), (2, .int a0), (0, .int a0), (1, .int a1)]) dX5_commonDivisor_3 rfl (by decide) rfl ?_
  refine zg_iconst (v := 0) dX5_commonDivisor_4 (by decide) ?_
  refine zg_istore (lv' := [(4, .int 0), (3, .int a1), (2, .int a0), (0, .int a0), (1, .int a1)]) dX5_commonDivisor_5 (by decide) rfl ?_
  refine zg_sub [2, 1, 0] rfl ?_
  exact gX5_commonDivisor_7 N N S a0 a1 0
def fX5_commonDivisor (N : Nat) (S : zb_S) (a0 : Int32) (a1 : Int32) : Option (Int32 × zb_S) := fX5_commonDivisor_0 N S a0 a1
theorem zcX5_commonDivisor {l : Launch} {G : zb_G} (N : Nat) (S : zb_S) (a0 : Int32) (a1 : Int32) : zb_C zb_eI l G 0 yX5_commonDivisor cX5_commonDivisor 6 (some .int) [.int a0, .int a1] S (fX5_commonDivisor N S a0 a1) :=
  zb_C.of (by decide +kernel) rfl (Nat.le_of_ble_eq_true rfl) rfl (gX5_commonDivisor_0 N S a0 a1)
-- X5_fraction
def fX5_fraction_0 (N : Nat) (S : zb_S) (a0 : Int32) (a1 : Int32) (a2 : Int32) : Option (Int32 × zb_S) :=
  zb_bind (fX5_commonDivisor N S (if 0 ≤ a0 then a0 else 0 - a0) a1) (fun r2 S1 =>
  if 1 ≤ r2 then
    if a2 = 0 then
      if r2 = 0 then none else
      some (a1 / r2, S1)
    else
      if r2 = 0 then none else
      some (a0 / r2, S1)
  else
    some (0, S1))
set_option maxHeartbeats 4000000 in
set_option maxRecDepth 100000 in
theorem gX5_fraction_0 {l : Launch} {G : zb_G} (N : Nat) (S : zb_S) (a0 : Int32) (a1 : Int32) (a2 : Int32) : zb_Go zb_eI l G 1 RX5 cX5_fraction 4 (some .int) 0 [(0, .int a0), (1, .int a1), (2, .int a2)] [] S (fX5_fraction_0 N S a0 a1 a2) := by
  unfold fX5_fraction_0
  refine zg_iload_n 0 dX5_fraction_0 rfl rfl ?_
  refine zg_mabs zw_700 zw_701 zw_71 zw_702 (Nat.le_of_ble_eq_true rfl) dX5_fraction_1 ?_
  refine zg_iload_n 1 dX5_fraction_4 rfl rfl ?_
  refine zg_callSI (As := [.int (if 0 ≤ a0 then a0 else 0 - a0), .int a1]) (rest := []) 2 (zcX5_commonDivisor N S (if 0 ≤ a0 then a0 else 0 - a0) a1) (by decide) (by decide) zw_703 zw_704 zw_2 zw_705 (by decide +kernel) rfl rfl (Nat.le_of_ble_eq_true rfl) dX5_fraction_5 (fun r2 S1 => ?_)
  refine zg_istore_n (lv' := [(3, .int r2), (0, .int a0), (1, .int a1), (2, .int a2)]) dX5_fraction_8 rfl (by decide) rfl ?_
  refine zg_iload_n 0 dX5_fraction_9 rfl rfl ?_
  refine zg_iconst (v := 1) dX5_fraction_10 (by decide) ?_
  refine zg_icmp_ge 16 dX5_fraction_11 (by decide) ?_ ?_
  · refine zg_iload_n 3 dX5_fraction_16 rfl rfl ?_
    refine zg_if_eq 26 dX5_fraction_17 (by decide) ?_ ?_
    · refine zg_iload_n 2 dX5_fraction_26 rfl rfl ?_
      refine zg_iload_n 0 dX5_fraction_27 rfl rfl ?_
      refine zg_idiv dX5_fraction_28 (fun _ => ?_)
      exact zg_iret rfl dX5_fraction_29
    · refine zg_iload_n 1 dX5_fraction_20 rfl rfl ?_
      refine zg_iload_n 0 dX5_fraction_21 rfl rfl ?_
      refine zg_idiv dX5_fraction_22 (fun _ => ?_)
      refine zg_goto (tgt := 29) dX5_fraction_23 (by decide) ?_
      exact zg_iret rfl dX5_fraction_29
  · refine zg_iconst (v := 0) dX5_fraction_14 (by decide) ?_
    exact zg_iret rfl dX5_fraction_15
def fX5_fraction (N : Nat) (S : zb_S) (a0 : Int32) (a1 : Int32) (a2 : Int32) : Option (Int32 × zb_S) := fX5_fraction_0 N S a0 a1 a2
theorem zcX5_fraction {l : Launch} {G : zb_G} (N : Nat) (S : zb_S) (a0 : Int32) (a1 : Int32) (a2 : Int32) : zb_C zb_eI l G 1 yX5_fraction cX5_fraction 4 (some .int) [.int a0, .int a1, .int a2] S (fX5_fraction N S a0 a1 a2) :=
  zb_C.of (by decide +kernel) rfl (Nat.le_of_ble_eq_true rfl) rfl (gX5_fraction_0 N S a0 a1 a2)
-- X5_share
def fX5_share_55b (N : Nat) (k55 : zb_S → Int32 → Int32 → Int32 → Int32 → Option (Int32 × zb_S)) (S : zb_S) (l2 : Int32) (l3 : Int32) (l4 : Int32) (l5 : Int32) : Option (Int32 × zb_S) :=
  if ((1 : Int32) <<< (l3 &&& 31)) ≤ l5 then
    zb_bind (fX5_gainInAllOrders N S l4 l3) (fun r2 S1 =>
    if zb_in l3 7 then
    zb_bind (fX5_fraction N S1 r2 (zb_fac (Int32.toNatClampNeg l3)) l2) (fun r4 S3 =>
    some (r4, S3)) else none)
  else
    zb_bind (fX5_outWith N S l5 l3) (fun r6 S5 =>
    if zb_in l5 (zb_sz 20) then zb_let (zb_pa S5 20 (Int32.toNatClampNeg l5) r6) (fun S7 : zb_S =>
    zb_let (l5 + 1) (fun x8 : Int32 =>
    k55 S7 l2 l3 l4 x8)) else none)
set_option maxHeartbeats 4000000 in
set_option maxRecDepth 100000 in
theorem gX5_share_55b {l : Launch} {G : zb_G} (N : Nat) (k55 : zb_S → Int32 → Int32 → Int32 → Int32 → Option (Int32 × zb_S)) (hk55 : ∀ (S : zb_S) (l2 : Int32) (l3 : Int32) (l4 : Int32) (l5 : Int32), zb_Go zb_eI l G 5 RX5 cX5_share 6 (some .int) 55 [(0, .ref (zb_ad G 0)), (2, .int l2), (3, .int l3), (4, .int l4), (5, .int l5)] [] S (k55 S l2 l3 l4 l5)) (S : zb_S) (l2 : Int32) (l3 : Int32) (l4 : Int32) (l5 : Int32) : zb_Go zb_eI l G 5 RX5 cX5_share 6 (some .int) 55 [(0, .ref (zb_ad G 0)), (2, .int l2), (3, .int l3), (4, .int l4), (5, .int l5)] [] S (fX5_share_55b N k55 S l2 l3 l4 l5) := by
  unfold fX5_share_55b
  refine zg_iload 4 dX5_share_55 rfl ?_
  refine zg_iconst (v := 1) dX5_share_57 (by decide) ?_
  refine zg_iload_n 2 dX5_share_58 rfl rfl ?_
  refine zg_ishl dX5_share_59 ?_
  refine zg_icmp_ge 83 dX5_share_60 (by decide) ?_ ?_
  · refine zg_aload_n 0 dX5_share_83 rfl rfl ?_
    refine zg_iload 3 dX5_share_84 rfl ?_
    refine zg_iload_n 2 dX5_share_86 rfl rfl ?_
    refine zg_callVI (As := [.int l4, .int l3]) (rest := []) 2 (zcX5_gainInAllOrders N S l4 l3) (by decide) (by decide) rfl (by decide) rfl zw_693 zw_694 zw_695 zw_2 zw_696 (by decide +kernel) rfl rfl (Nat.le_of_ble_eq_true rfl) dX5_share_87 (fun r2 S1 => ?_)
    refine zg_getsF rfl zw_680 dX5_share_90 ?_
    refine zg_iload_n 2 dX5_share_93 rfl rfl ?_
    refine zg_tiF dX5_share_94 ?_
    refine zg_iload_n 1 dX5_share_95 rfl rfl ?_
    refine zg_callSI (As := [.int r2, .int (zb_fac (Int32.toNatClampNeg l3)), .int l2]) (rest := []) 3 (zcX5_fraction N S1 r2 (zb_fac (Int32.toNatClampNeg l3)) l2) (by decide) (by decide) zw_697 zw_698 zw_2 zw_699 (by decide +kernel) rfl rfl (Nat.le_of_ble_eq_true rfl) dX5_share_96 (fun r4 S3 => ?_)
    exact zg_iret rfl dX5_share_99
  · refine zg_aload_n 0 dX5_share_63 rfl rfl ?_
    refine zq_X5_10 rfl rfl zw_39 dX5_share_64 ?_
    refine zg_iload 4 dX5_share_67 rfl ?_
    refine zg_aload_n 0 dX5_share_69 rfl rfl ?_
    refine zg_iload 4 dX5_share_70 rfl ?_
    refine zg_iload_n 2 dX5_share_72 rfl rfl ?_
    refine zg_callVI (As := [.int l5, .int l3]) (rest := [.int l5, .ref (zb_ad G 20)]) 2 (zcX5_outWith N S l5 l3) (by decide) (by decide) rfl (by decide) rfl zw_689 zw_690 zw_691 zw_2 zw_692 (by decide +kernel) rfl rfl (Nat.le_of_ble_eq_true rfl) dX5_share_73 (fun r6 S5 => ?_)
    refine zg_iast rfl dX5_share_76 (fun S7 => ?_)
    refine zg_iincL (fun x8 => [(5, .int x8), (0, .ref (zb_ad G 0)), (2, .int l2), (3, .int l3), (4, .int l4)]) 4 dX5_share_77 rfl rfl (by decide) (fun _ => rfl) (fun x8 => ?_)
    refine zg_goto (tgt := 55) dX5_share_80 (by decide) ?_
    refine zg_sub [1, 2, 3, 4, 0] rfl ?_
    exact hk55 S7 l2 l3 l4 x8
def fX5_share_55 (N : Nat) : Nat → zb_S → Int32 → Int32 → Int32 → Int32 → Option (Int32 × zb_S)
  | 0, _, _, _, _, _ => none
  | n + 1, S, l2, l3, l4, l5 => fX5_share_55b N (fX5_share_55 N n) S l2 l3 l4 l5
set_option maxHeartbeats 4000000 in
set_option maxRecDepth 100000 in
theorem gX5_share_55 {l : Launch} {G : zb_G} (N : Nat) : ∀ (n : Nat) (S : zb_S) (l2 : Int32) (l3 : Int32) (l4 : Int32) (l5 : Int32), zb_Go zb_eI l G 5 RX5 cX5_share 6 (some .int) 55 [(0, .ref (zb_ad G 0)), (2, .int l2), (3, .int l3), (4, .int l4), (5, .int l5)] [] S (fX5_share_55 N n S l2 l3 l4 l5) := by
  intro n
  induction n with
  | zero => intros; exact zg_none
  | succ n ih =>
    intro S l2 l3 l4 l5
    exact gX5_share_55b N (fX5_share_55 N n) ih S l2 l3 l4 l5
def fX5_share_0 (N : Nat) (S : zb_S) (a1 : Int32) (a2 : Int32) : Option (Int32 × zb_S) :=
  zb_bind (fX1_hasZone N 3 S a1) (fun r2 S1 =>
  if r2 = 0 then
    some ((-1), S1)
  else
    zb_bind (fX1_countUnsound N 3 S1) (fun r4 S3 =>
    if zb_in (12 + a1) (zb_sz 4) then
    if (zb_a S3 4 (Int32.toNatClampNeg (12 + a1))) = 0 then
      some ((-3), S3)
    else
      if r4 ≤ 6 then
        zb_bind (fX5_listUnsound N S3 a1) (fun r6 S5 =>
        fX5_share_55 N N S5 a2 r4 r6 0)
      else
        some ((-3), S3) else none))
set_option maxHeartbeats 4000000 in
set_option maxRecDepth 100000 in
theorem gX5_share_0 {l : Launch} {G : zb_G} (N : Nat) (S : zb_S) (a1 : Int32) (a2 : Int32) : zb_Go zb_eI l G 5 RX5 cX5_share 6 (some .int) 0 [(0, .ref (zb_ad G 0)), (1, .int a1), (2, .int a2)] [] S (fX5_share_0 N S a1 a2) := by
  unfold fX5_share_0
  refine zg_aload_n 0 dX5_share_0 rfl rfl ?_
  refine zq_X5_1 rfl rfl zw_20 dX5_share_1 ?_
  refine zg_iload_n 1 dX5_share_4 rfl rfl ?_
  refine zg_callVI (As := [.int a1]) (rest := []) 1 (zcX1_hasZone N 3 rfl S a1) (by decide) (by decide) rfl (by decide) rfl zw_228 zw_203 zw_204 zw_19 zw_205 (by decide +kernel) rfl rfl (Nat.le_of_ble_eq_true rfl) dX5_share_5 (fun r2 S1 => ?_)
  refine zg_if_ne 13 dX5_share_8 (by decide) ?_ ?_
  · refine zg_aload_n 0 dX5_share_13 rfl rfl ?_
    refine zq_X5_1 rfl rfl zw_20 dX5_share_14 ?_
    refine zg_callVI (As := []) (rest := []) 0 (zcX1_countUnsound N 3 rfl S1) (by decide) (by decide) rfl (by decide) rfl zw_681 zw_682 zw_683 zw_19 zw_684 (by decide +kernel) rfl rfl (Nat.le_of_ble_eq_true rfl) dX5_share_17 (fun r4 S3 => ?_)
    refine zg_istore_n (lv' := [(3, .int r4), (0, .ref (zb_ad G 0)), (1, .int a1), (2, .int a2)]) dX5_share_20 rfl (by decide) rfl ?_
    refine zg_aload_n 1 dX5_share_21 rfl rfl ?_
    refine zq_X5_1 rfl rfl zw_20 dX5_share_22 ?_
    refine zq_X1_4 rfl rfl zw_232 dX5_share_25 ?_
    refine zg_bipush (v := 12) dX5_share_28 (by decide) ?_
    refine zg_iload_n 2 dX5_share_30 rfl rfl ?_
    refine zg_iadd dX5_share_31 ?_
    refine zg_iald rfl dX5_share_32 ?_
    refine zg_if_eq 42 dX5_share_33 (by decide) ?_ ?_
    · refine zg_bipush (v := (-3)) dX5_share_42 (by decide) ?_
      exact zg_iret rfl dX5_share_44
    · refine zg_iload_n 0 dX5_share_36 rfl rfl ?_
      refine zg_bipush (v := 6) dX5_share_37 (by decide) ?_
      refine zg_icmp_le 45 dX5_share_39 (by decide) ?_ ?_
      · refine zg_aload_n 1 dX5_share_45 rfl rfl ?_
        refine zg_iload_n 2 dX5_share_46 rfl rfl ?_
        refine zg_callVI (As := [.int a1]) (rest := []) 1 (zcX5_listUnsound N S3 a1) (by decide) (by decide) rfl (by decide) rfl zw_685 zw_686 zw_687 zw_2 zw_688 (by decide +kernel) rfl rfl (Nat.le_of_ble_eq_true rfl) dX5_share_47 (fun r6 S5 => ?_)
        refine zg_istore (lv' := [(4, .int r6), (3, .int r4), (0, .ref (zb_ad G 0)), (1, .int a1), (2, .int a2)]) dX5_share_50 (by decide) rfl ?_
        refine zg_iconst (v := 0) dX5_share_52 (by decide) ?_
        refine zg_istore (lv' := [(5, .int 0), (4, .int r6), (3, .int r4), (0, .ref (zb_ad G 0)), (1, .int a1), (2, .int a2)]) dX5_share_53 (by decide) rfl ?_
        refine zg_sub [3, 5, 2, 1, 0] rfl ?_
        exact gX5_share_55 N N S5 a2 r4 r6 0
      · refine zg_bipush (v := (-3)) dX5_share_42 (by decide) ?_
        exact zg_iret rfl dX5_share_44
  · refine zg_iconst (v := (-1)) dX5_share_11 (by decide) ?_
    exact zg_iret rfl dX5_share_12
def fX5_share (N : Nat) (S : zb_S) (a1 : Int32) (a2 : Int32) : Option (Int32 × zb_S) := fX5_share_0 N S a1 a2
theorem zcX5_share {l : Launch} {G : zb_G} (N : Nat) (S : zb_S) (a1 : Int32) (a2 : Int32) : zb_C zb_eI l G 5 yX5_share cX5_share 6 (some .int) [.ref (zb_ad G 0), .int a1, .int a2] S (fX5_share N S a1 a2) :=
  zb_C.of (by decide +kernel) rfl (Nat.le_of_ble_eq_true rfl) rfl (gX5_share_0 N S a1 a2)
-- X5_tenToThe
def fX5_tenToThe_4b (N : Nat) (k4 : zb_S → Int32 → Int32 → Int32 → Option (Int32 × zb_S)) (S : zb_S) (l0 : Int32) (l1 : Int32) (l2 : Int32) : Option (Int32 × zb_S) :=
  if l0 ≤ l2 then
    some (l1, S)
  else
    if 8 ≤ l2 then
      some (l1, S)
    else
      zb_let (l1 * 10) (fun x1 : Int32 =>
      zb_let (l2 + 1) (fun x2 : Int32 =>
      k4 S l0 x1 x2))
set_option maxHeartbeats 4000000 in
set_option maxRecDepth 100000 in
theorem gX5_tenToThe_4b {l : Launch} {G : zb_G} (N : Nat) (k4 : zb_S → Int32 → Int32 → Int32 → Option (Int32 × zb_S)) (hk4 : ∀ (S : zb_S) (l0 : Int32) (l1 : Int32) (l2 : Int32), zb_Go zb_eI l G 0 RX5 cX5_tenToThe 3 (some .int) 4 [(0, .int l0), (1, .int l1), (2, .int l2)] [] S (k4 S l0 l1 l2)) (S : zb_S) (l0 : Int32) (l1 : Int32) (l2 : Int32) : zb_Go zb_eI l G 0 RX5 cX5_tenToThe 3 (some .int) 4 [(0, .int l0), (1, .int l1), (2, .int l2)] [] S (fX5_tenToThe_4b N k4 S l0 l1 l2) := by
  unfold fX5_tenToThe_4b
  refine zg_iload_n 2 dX5_tenToThe_4 rfl rfl ?_
  refine zg_iload_n 0 dX5_tenToThe_5 rfl rfl ?_
  refine zg_icmp_ge 26 dX5_tenToThe_6 (by decide) ?_ ?_
  · refine zg_iload_n 1 dX5_tenToThe_26 rfl rfl ?_
    exact zg_iret rfl dX5_tenToThe_27
  · refine zg_iload_n 2 dX5_tenToThe_9 rfl rfl ?_
    refine zg_bipush (v := 8) dX5_tenToThe_10 (by decide) ?_
    refine zg_icmp_ge 26 dX5_tenToThe_12 (by decide) ?_ ?_
    · refine zg_iload_n 1 dX5_tenToThe_26 rfl rfl ?_
      exact zg_iret rfl dX5_tenToThe_27
    · refine zg_iload_n 1 dX5_tenToThe_15 rfl rfl ?_
      refine zg_bipush (v := 10) dX5_tenToThe_16 (by decide) ?_
      refine zg_imul dX5_tenToThe_18 ?_
      refine zg_istore_nL (fun x1 => [(1, .int x1), (0, .int l0), (2, .int l2)]) dX5_tenToThe_19 rfl (by decide) (fun _ => rfl) (fun x1 => ?_)
      refine zg_iincL (fun x2 => [(2, .int x2), (1, .int x1), (0, .int l0)]) 2 dX5_tenToThe_20 rfl rfl (by decide) (fun _ => rfl) (fun x2 => ?_)
      refine zg_goto (tgt := 4) dX5_tenToThe_23 (by decide) ?_
      refine zg_sub [2, 1, 0] rfl ?_
      exact hk4 S l0 x1 x2
def fX5_tenToThe_4 (N : Nat) : Nat → zb_S → Int32 → Int32 → Int32 → Option (Int32 × zb_S)
  | 0, _, _, _, _ => none
  | n + 1, S, l0, l1, l2 => fX5_tenToThe_4b N (fX5_tenToThe_4 N n) S l0 l1 l2
set_option maxHeartbeats 4000000 in
set_option maxRecDepth 100000 in
theorem gX5_tenToThe_4 {l : Launch} {G : zb_G} (N : Nat) : ∀ (n : Nat) (S : zb_S) (l0 : Int32) (l1 : Int32) (l2 : Int32), zb_Go zb_eI l G 0 RX5 cX5_tenToThe 3 (some .int) 4 [(0, .int l0), (1, .int l1), (2, .int l2)] [] S (fX5_tenToThe_4 N n S l0 l1 l2) := by
  intro n
  induction n with
  | zero => intros; exact zg_none
  | succ n ih =>
    intro S l0 l1 l2
    exact gX5_tenToThe_4b N (fX5_tenToThe_4 N n) ih S l0 l1 l2
def fX5_tenToThe_0 (N : Nat) (S : zb_S) (a0 : Int32) : Option (Int32 × zb_S) :=
  fX5_tenToThe_4 N N S a0 1 0
set_option maxHeartbeats 4000000 in
set_option maxRecDepth 100000 in
theorem gX5_tenToThe_0 {l : Launch} {G : zb_G} (N : Nat) (S : zb_S) (a0 : Int32) : zb_Go zb_eI l G 0 RX5 cX5_tenToThe 3 (some .int) 0 [(0, .int a0)] [] S (fX5_tenToThe_0 N S a0) := by
  unfold fX5_tenToThe_0
  refine zg_iconst (v := 1) dX5_tenToThe_0 (by decide) ?_
  refine zg_istore_n (lv' := [(1, .int 1), (0, .int a0)]) dX5_tenToThe_1 rfl (by decide) rfl ?_
  refine zg_iconst (v := 0) dX5_tenToThe_2 (by decide) ?_
  refine zg_istore_n (lv' := [(2, .int 0), (1, .int 1), (0, .int a0)]) dX5_tenToThe_3 rfl (by decide) rfl ?_
  refine zg_sub [2, 1, 0] rfl ?_
  exact gX5_tenToThe_4 N N S a0 1 0
def fX5_tenToThe (N : Nat) (S : zb_S) (a0 : Int32) : Option (Int32 × zb_S) := fX5_tenToThe_0 N S a0
theorem zcX5_tenToThe {l : Launch} {G : zb_G} (N : Nat) (S : zb_S) (a0 : Int32) : zb_C zb_eI l G 0 yX5_tenToThe cX5_tenToThe 3 (some .int) [.int a0] S (fX5_tenToThe N S a0) :=
  zb_C.of (by decide +kernel) rfl (Nat.le_of_ble_eq_true rfl) rfl (gX5_tenToThe_0 N S a0)
-- X5_waysToEmpty
def fX5_waysToEmpty_99 (N : Nat) (b0 : Nat) (b1 : Nat) (rr : Nat → Nat → zb_S → Int32 → Int32 → Option (Int32 × zb_S)) (k37 : zb_S → Int32 → Int32 → Int32 → Int32 → Option (Int32 × zb_S)) (S : zb_S) (l2 : Int32) (l3 : Int32) (l4 : Int32) (l5 : Int32) : Option (Int32 × zb_S) :=
  zb_let (l5 + 1) (fun x1 : Int32 =>
  k37 S l2 l3 l4 x1)
set_option maxHeartbeats 4000000 in
set_option maxRecDepth 100000 in
theorem gX5_waysToEmpty_99 {l : Launch} {G : zb_G} {dd dd0 : Nat} (hdd : dd0 + 1 ≤ dd) (N : Nat) (b0 : Nat) (h0 : zb_kd b0 = 1) (b1 : Nat) (h1 : zb_kd b1 = 3) (rr : Nat → Nat → zb_S → Int32 → Int32 → Option (Int32 × zb_S)) (hrr : ∀ (b0 : Nat) (_ : zb_kd b0 = 1) (b1 : Nat) (_ : zb_kd b1 = 3) (S : zb_S) (a2 : Int32) (a3 : Int32), zb_C zb_eI l G (dd0 + 4) yX5_waysToEmpty cX5_waysToEmpty 7 (some .int) [.ref (zb_ad G b0), .ref (zb_ad G b1), .int a2, .int a3] S (rr b0 b1 S a2 a3)) (k37 : zb_S → Int32 → Int32 → Int32 → Int32 → Option (Int32 × zb_S)) (hk37 : ∀ (S : zb_S) (l2 : Int32) (l3 : Int32) (l4 : Int32) (l5 : Int32), zb_Go zb_eI l G (dd + 4) RX5 cX5_waysToEmpty 7 (some .int) 37 [(0, .ref (zb_ad G b0)), (1, .ref (zb_ad G b1)), (2, .int l2), (3, .int l3), (4, .int l4), (5, .int l5)] [] S (k37 S l2 l3 l4 l5)) (S : zb_S) (l2 : Int32) (l3 : Int32) (l4 : Int32) (l5 : Int32) : zb_Go zb_eI l G (dd + 4) RX5 cX5_waysToEmpty 7 (some .int) 99 [(0, .ref (zb_ad G b0)), (1, .ref (zb_ad G b1)), (2, .int l2), (3, .int l3), (4, .int l4), (5, .int l5)] [] S (fX5_waysToEmpty_99 N b0 b1 rr k37 S l2 l3 l4 l5) := by
  unfold fX5_waysToEmpty_99
  refine zg_iincL (fun x1 => [(5, .int x1), (0, .ref (zb_ad G b0)), (1, .ref (zb_ad G b1)), (2, .int l2), (3, .int l3), (4, .int l4)]) 5 dX5_waysToEmpty_99 rfl rfl (by decide) (fun _ => rfl) (fun x1 => ?_)
  refine zg_goto (tgt := 37) dX5_waysToEmpty_102 (by decide) ?_
  refine zg_sub [1, 2, 3, 4, 5, 0] rfl ?_
  exact hk37 S l2 l3 l4 x1
def fX5_waysToEmpty_56 (N : Nat) (b0 : Nat) (b1 : Nat) (rr : Nat → Nat → zb_S → Int32 → Int32 → Option (Int32 × zb_S)) (k37 : zb_S → Int32 → Int32 → Int32 → Int32 → Option (Int32 × zb_S)) (S : zb_S) (l2 : Int32) (l3 : Int32) (l4 : Int32) (l5 : Int32) (s0 : Int32) : Option (Int32 × zb_S) :=
  if s0 ≤ 0 then
    fX5_waysToEmpty_99 N b0 b1 rr k37 S l2 l3 l4 l5
  else
    zb_bind (fX3_get N b1 b0 S l2) (fun _ S1 =>
    if zb_in 50 (zb_sz (b0 + 1)) then zb_let (zb_pa S1 (b0 + 1) (Int32.toNatClampNeg 50) l5) (fun S3 : zb_S =>
    zb_bind (fX1_advanceOnce N b0 S3) (fun _ S4 =>
    zb_bind (rr b0 b1 S4 (l2 - 1) l3) (fun r7 S6 =>
    zb_let (l4 + (s0 * r7)) (fun x8 : Int32 =>
    fX5_waysToEmpty_99 N b0 b1 rr k37 S6 l2 l3 x8 l5)))) else none)
set_option maxHeartbeats 4000000 in
set_option maxRecDepth 100000 in
theorem gX5_waysToEmpty_56 {l : Launch} {G : zb_G} {dd dd0 : Nat} (hdd : dd0 + 1 ≤ dd) (N : Nat) (b0 : Nat) (h0 : zb_kd b0 = 1) (b1 : Nat) (h1 : zb_kd b1 = 3) (rr : Nat → Nat → zb_S → Int32 → Int32 → Option (Int32 × zb_S)) (hrr : ∀ (b0 : Nat) (_ : zb_kd b0 = 1) (b1 : Nat) (_ : zb_kd b1 = 3) (S : zb_S) (a2 : Int32) (a3 : Int32), zb_C zb_eI l G (dd0 + 4) yX5_waysToEmpty cX5_waysToEmpty 7 (some .int) [.ref (zb_ad G b0), .ref (zb_ad G b1), .int a2, .int a3] S (rr b0 b1 S a2 a3)) (k37 : zb_S → Int32 → Int32 → Int32 → Int32 → Option (Int32 × zb_S)) (hk37 : ∀ (S : zb_S) (l2 : Int32) (l3 : Int32) (l4 : Int32) (l5 : Int32), zb_Go zb_eI l G (dd + 4) RX5 cX5_waysToEmpty 7 (some .int) 37 [(0, .ref (zb_ad G b0)), (1, .ref (zb_ad G b1)), (2, .int l2), (3, .int l3), (4, .int l4), (5, .int l5)] [] S (k37 S l2 l3 l4 l5)) (S : zb_S) (l2 : Int32) (l3 : Int32) (l4 : Int32) (l5 : Int32) (s0 : Int32) : zb_Go zb_eI l G (dd + 4) RX5 cX5_waysToEmpty 7 (some .int) 56 [(0, .ref (zb_ad G b0)), (1, .ref (zb_ad G b1)), (2, .int l2), (3, .int l3), (4, .int l4), (5, .int l5)] [.int s0] S (fX5_waysToEmpty_56 N b0 b1 rr k37 S l2 l3 l4 l5 s0) := by
  unfold fX5_waysToEmpty_56
  refine zg_istore (lv' := [(6, .int s0), (0, .ref (zb_ad G b0)), (1, .ref (zb_ad G b1)), (2, .int l2), (3, .int l3), (4, .int l4), (5, .int l5)]) dX5_waysToEmpty_56 (by decide) rfl ?_
  refine zg_iload 0 dX5_waysToEmpty_58 rfl ?_
  refine zg_if_le 99 dX5_waysToEmpty_60 (by decide) ?_ ?_
  · refine zg_sub [1, 2, 3, 4, 5, 6] rfl ?_
    exact gX5_waysToEmpty_99 hdd N b0 h0 b1 h1 rr hrr k37 hk37 S l2 l3 l4 l5
  · refine zg_aload_n 2 dX5_waysToEmpty_63 rfl rfl ?_
    refine zg_iload_n 3 dX5_waysToEmpty_64 rfl rfl ?_
    refine zg_aload_n 1 dX5_waysToEmpty_65 rfl rfl ?_
    refine zg_callVV (As := [.int l2, .ref (zb_ad G b0)]) (rest := []) 2 (zcX3_get N b1 h1 b0 h0 S l2) (by omega) (by decide) h1 (by decide) rfl zw_734 zw_522 zw_523 zw_28 zw_524 (by decide +kernel) rfl rfl (Nat.le_of_ble_eq_true rfl) dX5_waysToEmpty_66 (fun S1 => ?_)
    refine zg_aload_n 1 dX5_waysToEmpty_69 rfl rfl ?_
    refine zq_X1_4 h0 (zk_X1_4 h0).1 zw_232 dX5_waysToEmpty_70 ?_
    refine zg_bipush (v := 50) dX5_waysToEmpty_73 (by decide) ?_
    refine zg_iload 6 dX5_waysToEmpty_75 rfl ?_
    refine zg_iast (zk_X1_4 h0).2.1 dX5_waysToEmpty_77 (fun S3 => ?_)
    refine zg_aload_n 1 dX5_waysToEmpty_78 rfl rfl ?_
    refine zg_callVV (As := []) (rest := []) 0 (zcX1_advanceOnce N b0 h0 S3) (by omega) (by decide) h0 (by decide) rfl zw_558 zw_407 zw_408 zw_19 zw_409 (by decide +kernel) rfl rfl (Nat.le_of_ble_eq_true rfl) dX5_waysToEmpty_79 (fun S4 => ?_)
    refine zg_iload 5 dX5_waysToEmpty_82 rfl ?_
    refine zg_iload 0 dX5_waysToEmpty_84 rfl ?_
    refine zg_aload_n 1 dX5_waysToEmpty_86 rfl rfl ?_
    refine zg_aload_n 2 dX5_waysToEmpty_87 rfl rfl ?_
    refine zg_iload_n 3 dX5_waysToEmpty_88 rfl rfl ?_
    refine zg_iconst (v := 1) dX5_waysToEmpty_89 (by decide) ?_
    refine zg_isub dX5_waysToEmpty_90 ?_
    refine zg_iload_n 4 dX5_waysToEmpty_91 rfl rfl ?_
    refine zg_callSI (As := [.ref (zb_ad G b0), .ref (zb_ad G b1), .int (l2 - 1), .int l3]) (rest := [.int s0, .int l4]) 4 (hrr b0 h0 b1 h1 S4 (l2 - 1) l3) (by omega) (by decide) zw_727 zw_728 zw_2 zw_729 (by decide +kernel) rfl rfl (Nat.le_of_ble_eq_true rfl) dX5_waysToEmpty_92 (fun r7 S6 => ?_)
    refine zg_imul dX5_waysToEmpty_95 ?_
    refine zg_iadd dX5_waysToEmpty_96 ?_
    refine zg_istoreL (fun x8 => [(4, .int x8), (6, .int s0), (0, .ref (zb_ad G b0)), (1, .ref (zb_ad G b1)), (2, .int l2), (3, .int l3), (5, .int l5)]) dX5_waysToEmpty_97 (by decide) (fun _ => rfl) (fun x8 => ?_)
    refine zg_sub [2, 3, 4, 5, 0, 6] rfl ?_
    exact gX5_waysToEmpty_99 hdd N b0 h0 b1 h1 rr hrr k37 hk37 S6 l2 l3 x8 l5
def fX5_waysToEmpty_37b (N : Nat) (b0 : Nat) (b1 : Nat) (rr : Nat → Nat → zb_S → Int32 → Int32 → Option (Int32 × zb_S)) (k37 : zb_S → Int32 → Int32 → Int32 → Int32 → Option (Int32 × zb_S)) (S : zb_S) (l2 : Int32) (l3 : Int32) (l4 : Int32) (l5 : Int32) : Option (Int32 × zb_S) :=
  if 1 < l5 then
    some (l4, S)
  else
    if l5 = 0 then
      fX5_waysToEmpty_56 N b0 b1 rr k37 S l2 l3 l4 l5 l3
    else
      fX5_waysToEmpty_56 N b0 b1 rr k37 S l2 l3 l4 l5 (10 - l3)
set_option maxHeartbeats 4000000 in
set_option maxRecDepth 100000 in
theorem gX5_waysToEmpty_37b {l : Launch} {G : zb_G} {dd dd0 : Nat} (hdd : dd0 + 1 ≤ dd) (N : Nat) (b0 : Nat) (h0 : zb_kd b0 = 1) (b1 : Nat) (h1 : zb_kd b1 = 3) (rr : Nat → Nat → zb_S → Int32 → Int32 → Option (Int32 × zb_S)) (hrr : ∀ (b0 : Nat) (_ : zb_kd b0 = 1) (b1 : Nat) (_ : zb_kd b1 = 3) (S : zb_S) (a2 : Int32) (a3 : Int32), zb_C zb_eI l G (dd0 + 4) yX5_waysToEmpty cX5_waysToEmpty 7 (some .int) [.ref (zb_ad G b0), .ref (zb_ad G b1), .int a2, .int a3] S (rr b0 b1 S a2 a3)) (k37 : zb_S → Int32 → Int32 → Int32 → Int32 → Option (Int32 × zb_S)) (hk37 : ∀ (S : zb_S) (l2 : Int32) (l3 : Int32) (l4 : Int32) (l5 : Int32), zb_Go zb_eI l G (dd + 4) RX5 cX5_waysToEmpty 7 (some .int) 37 [(0, .ref (zb_ad G b0)), (1, .ref (zb_ad G b1)), (2, .int l2), (3, .int l3), (4, .int l4), (5, .int l5)] [] S (k37 S l2 l3 l4 l5)) (S : zb_S) (l2 : Int32) (l3 : Int32) (l4 : Int32) (l5 : Int32) : zb_Go zb_eI l G (dd + 4) RX5 cX5_waysToEmpty 7 (some .int) 37 [(0, .ref (zb_ad G b0)), (1, .ref (zb_ad G b1)), (2, .int l2), (3, .int l3), (4, .int l4), (5, .int l5)] [] S (fX5_waysToEmpty_37b N b0 b1 rr k37 S l2 l3 l4 l5) := by
  unfold fX5_waysToEmpty_37b
  refine zg_iload 5 dX5_waysToEmpty_37 rfl ?_
  refine zg_iconst (v := 1) dX5_waysToEmpty_39 (by decide) ?_
  refine zg_icmp_gt 105 dX5_waysToEmpty_40 (by decide) ?_ ?_
  · refine zg_iload 4 dX5_waysToEmpty_105 rfl ?_
    exact zg_iret rfl dX5_waysToEmpty_107
  · refine zg_iload 5 dX5_waysToEmpty_43 rfl ?_
    refine zg_if_ne 52 dX5_waysToEmpty_45 (by decide) ?_ ?_
    · refine zg_bipush (v := 10) dX5_waysToEmpty_52 (by decide) ?_
      refine zg_iload_n 3 dX5_waysToEmpty_54 rfl rfl ?_
      refine zg_isub dX5_waysToEmpty_55 ?_
      exact gX5_waysToEmpty_56 hdd N b0 h0 b1 h1 rr hrr k37 hk37 S l2 l3 l4 l5 (10 - l3)
    · refine zg_iload_n 3 dX5_waysToEmpty_48 rfl rfl ?_
      refine zg_goto (tgt := 56) dX5_waysToEmpty_49 (by decide) ?_
      exact gX5_waysToEmpty_56 hdd N b0 h0 b1 h1 rr hrr k37 hk37 S l2 l3 l4 l5 l3
def fX5_waysToEmpty_37 (N : Nat) (b0 : Nat) (b1 : Nat) (rr : Nat → Nat → zb_S → Int32 → Int32 → Option (Int32 × zb_S)) : Nat → zb_S → Int32 → Int32 → Int32 → Int32 → Option (Int32 × zb_S)
  | 0, _, _, _, _, _ => none
  | n + 1, S, l2, l3, l4, l5 => fX5_waysToEmpty_37b N b0 b1 rr (fX5_waysToEmpty_37 N b0 b1 rr n) S l2 l3 l4 l5
set_option maxHeartbeats 4000000 in
set_option maxRecDepth 100000 in
theorem gX5_waysToEmpty_37 {l : Launch} {G : zb_G} {dd dd0 : Nat} (hdd : dd0 + 1 ≤ dd) (N : Nat) (b0 : Nat) (h0 : zb_kd b0 = 1) (b1 : Nat) (h1 : zb_kd b1 = 3) (rr : Nat → Nat → zb_S → Int32 → Int32 → Option (Int32 × zb_S)) (hrr : ∀ (b0 : Nat) (_ : zb_kd b0 = 1) (b1 : Nat) (_ : zb_kd b1 = 3) (S : zb_S) (a2 : Int32) (a3 : Int32), zb_C zb_eI l G (dd0 + 4) yX5_waysToEmpty cX5_waysToEmpty 7 (some .int) [.ref (zb_ad G b0), .ref (zb_ad G b1), .int a2, .int a3] S (rr b0 b1 S a2 a3)) : ∀ (n : Nat) (S : zb_S) (l2 : Int32) (l3 : Int32) (l4 : Int32) (l5 : Int32), zb_Go zb_eI l G (dd + 4) RX5 cX5_waysToEmpty 7 (some .int) 37 [(0, .ref (zb_ad G b0)), (1, .ref (zb_ad G b1)), (2, .int l2), (3, .int l3), (4, .int l4), (5, .int l5)] [] S (fX5_waysToEmpty_37 N b0 b1 rr n S l2 l3 l4 l5) := by
  intro n
  induction n with
  | zero => intros; exact zg_none
  | succ n ih =>
    intro S l2 l3 l4 l5
    exact gX5_waysToEmpty_37b hdd N b0 h0 b1 h1 rr hrr (fX5_waysToEmpty_37 N b0 b1 rr n) ih S l2 l3 l4 l5
def fX5_waysToEmpty_0 (N : Nat) (b0 : Nat) (b1 : Nat) (rr : Nat → Nat → zb_S → Int32 → Int32 → Option (Int32 × zb_S)) (S : zb_S) (a2 : Int32) (a3 : Int32) : Option (Int32 × zb_S) :=
  zb_bind (fX1_loaded N b0 S) (fun r2 S1 =>
  if r2 = 0 then
    zb_bind (fX5_tenToThe N S1 a2) (fun r6 S5 =>
    some (r6, S5))
  else
    if a2 < 1 then
      some (0, S1)
    else
      if a2 ≤ 8 then
        zb_bind (fX3_put N b1 b0 S1 a2) (fun _ S3 =>
        fX5_waysToEmpty_37 N b0 b1 rr N S3 a2 a3 0 0)
      else
        some (0, S1))
set_option maxHeartbeats 4000000 in
set_option maxRecDepth 100000 in
theorem gX5_waysToEmpty_0 {l : Launch} {G : zb_G} {dd dd0 : Nat} (hdd : dd0 + 1 ≤ dd) (N : Nat) (b0 : Nat) (h0 : zb_kd b0 = 1) (b1 : Nat) (h1 : zb_kd b1 = 3) (rr : Nat → Nat → zb_S → Int32 → Int32 → Option (Int32 × zb_S)) (hrr : ∀ (b0 : Nat) (_ : zb_kd b0 = 1) (b1 : Nat) (_ : zb_kd b1 = 3) (S : zb_S) (a2 : Int32) (a3 : Int32), zb_C zb_eI l G (dd0 + 4) yX5_waysToEmpty cX5_waysToEmpty 7 (some .int) [.ref (zb_ad G b0), .ref (zb_ad G b1), .int a2, .int a3] S (rr b0 b1 S a2 a3)) (S : zb_S) (a2 : Int32) (a3 : Int32) : zb_Go zb_eI l G (dd + 4) RX5 cX5_waysToEmpty 7 (some .int) 0 [(0, .ref (zb_ad G b0)), (1, .ref (zb_ad G b1)), (2, .int a2), (3, .int a3)] [] S (fX5_waysToEmpty_0 N b0 b1 rr S a2 a3) := by
  unfold fX5_waysToEmpty_0
  refine zg_aload_n 0 dX5_waysToEmpty_0 rfl rfl ?_
  refine zg_callVI (As := []) (rest := []) 0 (zcX1_loaded N b0 h0 S) (by omega) (by decide) h0 (by decide) rfl zw_554 zw_555 zw_556 zw_19 zw_557 (by decide +kernel) rfl rfl (Nat.le_of_ble_eq_true rfl) dX5_waysToEmpty_1 (fun r2 S1 => ?_)
  refine zg_if_ne 12 dX5_waysToEmpty_4 (by decide) ?_ ?_
  · refine zg_iload_n 2 dX5_waysToEmpty_12 rfl rfl ?_
    refine zg_iconst (v := 1) dX5_waysToEmpty_13 (by decide) ?_
    refine zg_icmp_lt 23 dX5_waysToEmpty_14 (by decide) ?_ ?_
    · refine zg_iconst (v := 0) dX5_waysToEmpty_23 (by decide) ?_
      exact zg_iret rfl dX5_waysToEmpty_24
    · refine zg_iload_n 2 dX5_waysToEmpty_17 rfl rfl ?_
      refine zg_bipush (v := 8) dX5_waysToEmpty_18 (by decide) ?_
      refine zg_icmp_le 25 dX5_waysToEmpty_20 (by decide) ?_ ?_
      · refine zg_iconst (v := 0) dX5_waysToEmpty_25 (by decide) ?_
        refine zg_istore (lv' := [(4, .int 0), (0, .ref (zb_ad G b0)), (1, .ref (zb_ad G b1)), (2, .int a2), (3, .int a3)]) dX5_waysToEmpty_26 (by decide) rfl ?_
        refine zg_aload_n 2 dX5_waysToEmpty_28 rfl rfl ?_
        refine zg_iload_n 3 dX5_waysToEmpty_29 rfl rfl ?_
        refine zg_aload_n 1 dX5_waysToEmpty_30 rfl rfl ?_
        refine zg_callVV (As := [.int a2, .ref (zb_ad G b0)]) (rest := []) 2 (zcX3_put N b1 h1 b0 h0 S1 a2) (by omega) (by decide) h1 (by decide) rfl zw_733 zw_290 zw_291 zw_28 zw_292 (by decide +kernel) rfl rfl (Nat.le_of_ble_eq_true rfl) dX5_waysToEmpty_31 (fun S3 => ?_)
        refine zg_iconst (v := 0) dX5_waysToEmpty_34 (by decide) ?_
        refine zg_istore (lv' := [(5, .int 0), (4, .int 0), (0, .ref (zb_ad G b0)), (1, .ref (zb_ad G b1)), (2, .int a2), (3, .int a3)]) dX5_waysToEmpty_35 (by decide) rfl ?_
        refine zg_sub [2, 3, 4, 5, 1, 0] rfl ?_
        exact gX5_waysToEmpty_37 hdd N b0 h0 b1 h1 rr hrr N S3 a2 a3 0 0
      · refine zg_iconst (v := 0) dX5_waysToEmpty_23 (by decide) ?_
        exact zg_iret rfl dX5_waysToEmpty_24
  · refine zg_iload_n 2 dX5_waysToEmpty_7 rfl rfl ?_
    refine zg_callSI (As := [.int a2]) (rest := []) 1 (zcX5_tenToThe N S1 a2) (by omega) (by decide) zw_730 zw_731 zw_2 zw_732 (by decide +kernel) rfl rfl (Nat.le_of_ble_eq_true rfl) dX5_waysToEmpty_8 (fun r6 S5 => ?_)
    exact zg_iret rfl dX5_waysToEmpty_11
def fX5_waysToEmpty (N : Nat) : Nat → Nat → Nat → zb_S → Int32 → Int32 → Option (Int32 × zb_S)
  | 0, _, _, _, _, _ => none
  | n + 1, b0, b1, S, a2, a3 => fX5_waysToEmpty_0 N b0 b1 (fX5_waysToEmpty N n) S a2 a3
theorem zcX5_waysToEmpty {l : Launch} {G : zb_G} (N : Nat) : ∀ (n : Nat) (b0 : Nat) (h0 : zb_kd b0 = 1) (b1 : Nat) (h1 : zb_kd b1 = 3) (S : zb_S) (a2 : Int32) (a3 : Int32), zb_C zb_eI l G (n + 4) yX5_waysToEmpty cX5_waysToEmpty 7 (some .int) [.ref (zb_ad G b0), .ref (zb_ad G b1), .int a2, .int a3] S (fX5_waysToEmpty N n b0 b1 S a2 a3) := by
  intro n
  induction n with
  | zero => intros; exact fun _ _ h => by cases h
  | succ n ih =>
    intro b0 h0 b1 h1 S a2 a3
    exact zb_C.of (by decide +kernel) rfl (Nat.le_of_ble_eq_true rfl) rfl (gX5_waysToEmpty_0 (dd0 := n) (Nat.le_refl _) N b0 h0 b1 h1 (fX5_waysToEmpty N n) ih S a2 a3)
-- X5_shut
def fX5_shut_0 (N : Nat) (S : zb_S) (a1 : Int32) (a2 : Int32) (a3 : Int32) : Option (Int32 × zb_S) :=
  if a1 < 1 then
    some ((-2), S)
  else
    if 8 < a1 then
      some ((-2), S)
    else
      if a2 < 0 then
        some ((-2), S)
      else
        if a2 ≤ 10 then
          zb_bind (fX1_copy N 5 3 S) (fun _ S1 =>
          zb_bind (fX5_waysToEmpty N 12 5 12 S1 a1 a2) (fun r4 S3 =>
          zb_bind (fX5_tenToThe N S3 a1) (fun r6 S5 =>
          zb_bind (fX5_fraction N S5 r4 r6 a3) (fun r8 S7 =>
          some (r8, S7)))))
        else
          some ((-2), S)
set_option maxHeartbeats 4000000 in
set_option maxRecDepth 100000 in
theorem gX5_shut_0 {l : Launch} {G : zb_G} (N : Nat) (S : zb_S) (a1 : Int32) (a2 : Int32) (a3 : Int32) : zb_Go zb_eI l G 17 RX5 cX5_shut 4 (some .int) 0 [(0, .ref (zb_ad G 0)), (1, .int a1), (2, .int a2), (3, .int a3)] [] S (fX5_shut_0 N S a1 a2 a3) := by
  unfold fX5_shut_0
  refine zg_iload_n 1 dX5_shut_0 rfl rfl ?_
  refine zg_iconst (v := 1) dX5_shut_1 (by decide) ?_
  refine zg_icmp_lt 21 dX5_shut_2 (by decide) ?_ ?_
  · refine zg_bipush (v := (-2)) dX5_shut_21 (by decide) ?_
    exact zg_iret rfl dX5_shut_23
  · refine zg_iload_n 1 dX5_shut_5 rfl rfl ?_
    refine zg_bipush (v := 8) dX5_shut_6 (by decide) ?_
    refine zg_icmp_gt 21 dX5_shut_8 (by decide) ?_ ?_
    · refine zg_bipush (v := (-2)) dX5_shut_21 (by decide) ?_
      exact zg_iret rfl dX5_shut_23
    · refine zg_iload_n 2 dX5_shut_11 rfl rfl ?_
      refine zg_if_lt 21 dX5_shut_12 (by decide) ?_ ?_
      · refine zg_bipush (v := (-2)) dX5_shut_21 (by decide) ?_
        exact zg_iret rfl dX5_shut_23
      · refine zg_iload_n 2 dX5_shut_15 rfl rfl ?_
        refine zg_bipush (v := 10) dX5_shut_16 (by decide) ?_
        refine zg_icmp_le 24 dX5_shut_18 (by decide) ?_ ?_
        · refine zg_aload_n 0 dX5_shut_24 rfl rfl ?_
          refine zq_X5_2 rfl rfl zw_21 dX5_shut_25 ?_
          refine zg_aload_n 0 dX5_shut_28 rfl rfl ?_
          refine zq_X5_1 rfl rfl zw_20 dX5_shut_29 ?_
          refine zg_callVV (As := [.ref (zb_ad G 3)]) (rest := []) 1 (zcX1_copy N 5 rfl 3 rfl S) (by decide) (by decide) rfl (by decide) rfl zw_533 zw_534 zw_535 zw_19 zw_536 (by decide +kernel) rfl rfl (Nat.le_of_ble_eq_true rfl) dX5_shut_32 (fun S1 => ?_)
          refine zg_aload_n 0 dX5_shut_35 rfl rfl ?_
          refine zq_X5_2 rfl rfl zw_21 dX5_shut_36 ?_
          refine zg_aload_n 0 dX5_shut_39 rfl rfl ?_
          refine zq_X5_6 rfl rfl zw_31 dX5_shut_40 ?_
          refine zg_iload_n 1 dX5_shut_43 rfl rfl ?_
          refine zg_iload_n 2 dX5_shut_44 rfl rfl ?_
          refine zg_callSI (As := [.ref (zb_ad G 5), .ref (zb_ad G 12), .int a1, .int a2]) (rest := []) 4 (zcX5_waysToEmpty N 12 5 rfl 12 rfl S1 a1 a2) (by omega) (by decide) zw_727 zw_728 zw_2 zw_729 (by decide +kernel) rfl rfl (Nat.le_of_ble_eq_true rfl) dX5_shut_45 (fun r4 S3 => ?_)
          refine zg_iload_n 1 dX5_shut_48 rfl rfl ?_
          refine zg_callSI (As := [.int a1]) (rest := [.int r4]) 1 (zcX5_tenToThe N S3 a1) (by decide) (by decide) zw_730 zw_731 zw_2 zw_732 (by decide +kernel) rfl rfl (Nat.le_of_ble_eq_true rfl) dX5_shut_49 (fun r6 S5 => ?_)
          refine zg_iload_n 3 dX5_shut_52 rfl rfl ?_
          refine zg_callSI (As := [.int r4, .int r6, .int a3]) (rest := []) 3 (zcX5_fraction N S5 r4 r6 a3) (by decide) (by decide) zw_697 zw_698 zw_2 zw_699 (by decide +kernel) rfl rfl (Nat.le_of_ble_eq_true rfl) dX5_shut_53 (fun r8 S7 => ?_)
          exact zg_iret rfl dX5_shut_56
        · refine zg_bipush (v := (-2)) dX5_shut_21 (by decide) ?_
          exact zg_iret rfl dX5_shut_23
def fX5_shut (N : Nat) (S : zb_S) (a1 : Int32) (a2 : Int32) (a3 : Int32) : Option (Int32 × zb_S) := fX5_shut_0 N S a1 a2 a3
theorem zcX5_shut {l : Launch} {G : zb_G} (N : Nat) (S : zb_S) (a1 : Int32) (a2 : Int32) (a3 : Int32) : zb_C zb_eI l G 17 yX5_shut cX5_shut 4 (some .int) [.ref (zb_ad G 0), .int a1, .int a2, .int a3] S (fX5_shut N S a1 a2 a3) :=
  zb_C.of (by decide +kernel) rfl (Nat.le_of_ble_eq_true rfl) rfl (gX5_shut_0 N S a1 a2 a3)
-- X5_seed
def fX5_seed_0 (N : Nat) (S : zb_S) (a1 : Int64) : Option (Int64 × zb_S) :=
  zb_let (zb_l S 0 11) (fun x1 : Int64 =>
  zb_let (zb_pl S 0 11 a1) (fun S2 : zb_S =>
  some (x1, S2)))
set_option maxHeartbeats 4000000 in
set_option maxRecDepth 100000 in
theorem gX5_seed_0 {l : Launch} {G : zb_G} (N : Nat) (S : zb_S) (a1 : Int64) : zb_Go zb_eL l G 0 RX5 cX5_seed 5 (some .long) 0 [(0, .ref (zb_ad G 0)), (1, .long a1)] [] S (fX5_seed_0 N S a1) := by
  unfold fX5_seed_0
  refine zg_aload_n 0 dX5_seed_0 rfl rfl ?_
  refine zq_X5_11 rfl zw_40 dX5_seed_1 ?_
  refine zg_lstore_nL (fun x1 => [(3, .long x1), (0, .ref (zb_ad G 0)), (1, .long a1)]) dX5_seed_4 rfl (by decide) (fun _ => rfl) (fun x1 => ?_)
  refine zg_aload_n 1 dX5_seed_5 rfl rfl ?_
  refine zg_lload_n 2 dX5_seed_6 rfl rfl ?_
  refine zp_X5_11 rfl zw_40 dX5_seed_7 (fun S2 => ?_)
  refine zg_lload_n 0 dX5_seed_10 rfl rfl ?_
  exact zg_lret rfl dX5_seed_11
def fX5_seed (N : Nat) (S : zb_S) (a1 : Int64) : Option (Int64 × zb_S) := fX5_seed_0 N S a1
theorem zcX5_seed {l : Launch} {G : zb_G} (N : Nat) (S : zb_S) (a1 : Int64) : zb_C zb_eL l G 0 yX5_seed cX5_seed 5 (some .long) [.ref (zb_ad G 0), .long a1] S (fX5_seed N S a1) :=
  zb_C.of (by decide +kernel) rfl (Nat.le_of_ble_eq_true rfl) rfl (gX5_seed_0 N S a1)
-- X5_drawn
def fX5_drawn_86 (N : Nat) (k27 : zb_S → Int32 → Int32 → Option (Int32 × zb_S)) (S : zb_S) (l1 : Int32) (l2 : Int32) : Option (Int32 × zb_S) :=
  zb_bind (fX1_advanceOnce N 5 S) (fun _ S1 =>
  zb_let (l2 + 1) (fun x3 : Int32 =>
  k27 S1 l1 x3))
set_option maxHeartbeats 4000000 in
set_option maxRecDepth 100000 in
theorem gX5_drawn_86 {l : Launch} {G : zb_G} (N : Nat) (k27 : zb_S → Int32 → Int32 → Option (Int32 × zb_S)) (hk27 : ∀ (S : zb_S) (l1 : Int32) (l2 : Int32), zb_Go zb_eI l G 4 RX5 cX5_drawn 4 (some .int) 27 [(0, .ref (zb_ad G 0)), (1, .int l1), (2, .int l2)] [] S (k27 S l1 l2)) (S : zb_S) (l1 : Int32) (l2 : Int32) : zb_Go zb_eI l G 4 RX5 cX5_drawn 4 (some .int) 86 [(0, .ref (zb_ad G 0)), (1, .int l1), (2, .int l2)] [] S (fX5_drawn_86 N k27 S l1 l2) := by
  unfold fX5_drawn_86
  refine zg_aload_n 0 dX5_drawn_86 rfl rfl ?_
  refine zq_X5_2 rfl rfl zw_21 dX5_drawn_87 ?_
  refine zg_callVV (As := []) (rest := []) 0 (zcX1_advanceOnce N 5 rfl S) (by decide) (by decide) rfl (by decide) rfl zw_558 zw_407 zw_408 zw_19 zw_409 (by decide +kernel) rfl rfl (Nat.le_of_ble_eq_true rfl) dX5_drawn_90 (fun S1 => ?_)
  refine zg_iincL (fun x3 => [(2, .int x3), (0, .ref (zb_ad G 0)), (1, .int l1)]) 2 dX5_drawn_93 rfl rfl (by decide) (fun _ => rfl) (fun x3 => ?_)
  refine zg_goto (tgt := 27) dX5_drawn_96 (by decide) ?_
  refine zg_sub [1, 2, 0] rfl ?_
  exact hk27 S1 l1 x3
def fX5_drawn_27b (N : Nat) (k27 : zb_S → Int32 → Int32 → Option (Int32 × zb_S)) (S : zb_S) (l1 : Int32) (l2 : Int32) : Option (Int32 × zb_S) :=
  if l1 ≤ l2 then
    if zb_in 55 (zb_sz 6) then
    if zb_in 55 (zb_sz 4) then
    some ((zb_a S 6 (Int32.toNatClampNeg 55)) - (zb_a S 4 (Int32.toNatClampNeg 55)), S) else none else none
  else
    zb_let (zb_pl S 0 11 (((zb_l S 0 11) * 6364136223846793005) + 1442695040888963407)) (fun S1 : zb_S =>
    if 3 = 0 then none else
    zb_let ((Int64.toInt32 ((Int64.toUInt64 (zb_l S1 0 11) >>> ((Int32.toInt64 33).toUInt64 &&& Int64.toUInt64 63)).toInt64)) - (Int64.toInt32 ((Int64.toUInt64 (zb_l S1 0 11) >>> ((Int32.toInt64 33).toUInt64 &&& Int64.toUInt64 63)).toInt64)) / 3 * 3) (fun x2 : Int32 =>
    zb_bind (fX1_canFeed N 5 S1 x2) (fun r4 S3 =>
    if r4 = 0 then
      fX5_drawn_86 N k27 S3 l1 l2
    else
      zb_bind (fX1_entryOf N 5 S3 x2) (fun r6 S5 =>
      zb_bind (fX1_putNext N 5 S5 r6) (fun r8 S7 =>
      fX5_drawn_86 N k27 S7 l1 l2)))))
set_option maxHeartbeats 4000000 in
set_option maxRecDepth 100000 in
theorem gX5_drawn_27b {l : Launch} {G : zb_G} (N : Nat) (k27 : zb_S → Int32 → Int32 → Option (Int32 × zb_S)) (hk27 : ∀ (S : zb_S) (l1 : Int32) (l2 : Int32), zb_Go zb_eI l G 4 RX5 cX5_drawn 4 (some .int) 27 [(0, .ref (zb_ad G 0)), (1, .int l1), (2, .int l2)] [] S (k27 S l1 l2)) (S : zb_S) (l1 : Int32) (l2 : Int32) : zb_Go zb_eI l G 4 RX5 cX5_drawn 4 (some .int) 27 [(0, .ref (zb_ad G 0)), (1, .int l1), (2, .int l2)] [] S (fX5_drawn_27b N k27 S l1 l2) := by
  unfold fX5_drawn_27b
  refine zg_iload_n 2 dX5_drawn_27 rfl rfl ?_
  refine zg_iload_n 1 dX5_drawn_28 rfl rfl ?_
  refine zg_icmp_ge 99 dX5_drawn_29 (by decide) ?_ ?_
  · refine zg_aload_n 0 dX5_drawn_99 rfl rfl ?_
    refine zq_X5_2 rfl rfl zw_21 dX5_drawn_100 ?_
    refine zq_X1_4 rfl rfl zw_232 dX5_drawn_103 ?_
    refine zg_bipush (v := 55) dX5_drawn_106 (by decide) ?_
    refine zg_iald rfl dX5_drawn_108 ?_
    refine zg_aload_n 0 dX5_drawn_109 rfl rfl ?_
    refine zq_X5_1 rfl rfl zw_20 dX5_drawn_110 ?_
    refine zq_X1_4 rfl rfl zw_232 dX5_drawn_113 ?_
    refine zg_bipush (v := 55) dX5_drawn_116 (by decide) ?_
    refine zg_iald rfl dX5_drawn_118 ?_
    refine zg_isub dX5_drawn_119 ?_
    exact zg_iret rfl dX5_drawn_120
  · refine zg_aload_n 0 dX5_drawn_32 rfl rfl ?_
    refine zg_aload_n 0 dX5_drawn_33 rfl rfl ?_
    refine zq_X5_11 rfl zw_40 dX5_drawn_34 ?_
    refine zg_ldc2 zw_757 dX5_drawn_37 ?_
    refine zg_lmul dX5_drawn_40 ?_
    refine zg_ldc2 zw_758 dX5_drawn_41 ?_
    refine zg_ladd dX5_drawn_44 ?_
    refine zp_X5_11 rfl zw_40 dX5_drawn_45 (fun S1 => ?_)
    refine zg_aload_n 0 dX5_drawn_48 rfl rfl ?_
    refine zq_X5_11 rfl zw_40 dX5_drawn_49 ?_
    refine zg_bipush (v := 33) dX5_drawn_52 (by decide) ?_
    refine zg_lushr dX5_drawn_54 ?_
    refine zg_l2i dX5_drawn_55 ?_
    refine zg_iconst (v := 3) dX5_drawn_56 (by decide) ?_
    refine zg_irem dX5_drawn_57 (fun _ => ?_)
    refine zg_istore_nL (fun x2 => [(3, .int x2), (0, .ref (zb_ad G 0)), (1, .int l1), (2, .int l2)]) dX5_drawn_58 rfl (by decide) (fun _ => rfl) (fun x2 => ?_)
    refine zg_aload_n 1 dX5_drawn_59 rfl rfl ?_
    refine zq_X5_2 rfl rfl zw_21 dX5_drawn_60 ?_
    refine zg_iload_n 0 dX5_drawn_63 rfl rfl ?_
    refine zg_callVI (As := [.int x2]) (rest := []) 1 (zcX1_canFeed N 5 rfl S1 x2) (by decide) (by decide) rfl (by decide) rfl zw_276 zw_277 zw_278 zw_19 zw_279 (by decide +kernel) rfl rfl (Nat.le_of_ble_eq_true rfl) dX5_drawn_64 (fun r4 S3 => ?_)
    refine zg_if_eq 86 dX5_drawn_67 (by decide) ?_ ?_
    · refine zg_sub [1, 2, 3] rfl ?_
      exact gX5_drawn_86 N k27 hk27 S3 l1 l2
    · refine zg_aload_n 1 dX5_drawn_70 rfl rfl ?_
      refine zq_X5_2 rfl rfl zw_21 dX5_drawn_71 ?_
      refine zg_aload_n 1 dX5_drawn_74 rfl rfl ?_
      refine zq_X5_2 rfl rfl zw_21 dX5_drawn_75 ?_
      refine zg_iload_n 0 dX5_drawn_78 rfl rfl ?_
      refine zg_callVI (As := [.int x2]) (rest := [.ref (zb_ad G 5)]) 1 (zcX1_entryOf N 5 rfl S3 x2) (by decide) (by decide) rfl (by decide) rfl zw_272 zw_273 zw_274 zw_19 zw_275 (by decide +kernel) rfl rfl (Nat.le_of_ble_eq_true rfl) dX5_drawn_79 (fun r6 S5 => ?_)
      refine zg_callVI (As := [.int r6]) (rest := []) 1 (zcX1_putNext N 5 rfl S5 r6) (by decide) (by decide) rfl (by decide) rfl zw_298 zw_207 zw_208 zw_19 zw_209 (by decide +kernel) rfl rfl (Nat.le_of_ble_eq_true rfl) dX5_drawn_82 (fun r8 S7 => ?_)
      refine zg_pop dX5_drawn_85 rfl ?_
      refine zg_sub [1, 2, 3] rfl ?_
      exact gX5_drawn_86 N k27 hk27 S7 l1 l2
def fX5_drawn_27 (N : Nat) : Nat → zb_S → Int32 → Int32 → Option (Int32 × zb_S)
  | 0, _, _, _ => none
  | n + 1, S, l1, l2 => fX5_drawn_27b N (fX5_drawn_27 N n) S l1 l2
set_option maxHeartbeats 4000000 in
set_option maxRecDepth 100000 in
theorem gX5_drawn_27 {l : Launch} {G : zb_G} (N : Nat) : ∀ (n : Nat) (S : zb_S) (l1 : Int32) (l2 : Int32), zb_Go zb_eI l G 4 RX5 cX5_drawn 4 (some .int) 27 [(0, .ref (zb_ad G 0)), (1, .int l1), (2, .int l2)] [] S (fX5_drawn_27 N n S l1 l2) := by
  intro n
  induction n with
  | zero => intros; exact zg_none
  | succ n ih =>
    intro S l1 l2
    exact gX5_drawn_27b N (fX5_drawn_27 N n) ih S l1 l2
def fX5_drawn_0 (N : Nat) (S : zb_S) (a1 : Int32) : Option (Int32 × zb_S) :=
  if a1 < 1 then
    some ((-2), S)
  else
    if a1 ≤ 40 then
      zb_bind (fX1_copy N 5 3 S) (fun _ S1 =>
      fX5_drawn_27 N N S1 a1 0)
    else
      some ((-2), S)
set_option maxHeartbeats 4000000 in
set_option maxRecDepth 100000 in
theorem gX5_drawn_0 {l : Launch} {G : zb_G} (N : Nat) (S : zb_S) (a1 : Int32) : zb_Go zb_eI l G 4 RX5 cX5_drawn 4 (some .int) 0 [(0, .ref (zb_ad G 0)), (1, .int a1)] [] S (fX5_drawn_0 N S a1) := by
  unfold fX5_drawn_0
  refine zg_iload_n 1 dX5_drawn_0 rfl rfl ?_
  refine zg_iconst (v := 1) dX5_drawn_1 (by decide) ?_
  refine zg_icmp_lt 11 dX5_drawn_2 (by decide) ?_ ?_
  · refine zg_bipush (v := (-2)) dX5_drawn_11 (by decide) ?_
    exact zg_iret rfl dX5_drawn_13
  · refine zg_iload_n 1 dX5_drawn_5 rfl rfl ?_
    refine zg_bipush (v := 40) dX5_drawn_6 (by decide) ?_
    refine zg_icmp_le 14 dX5_drawn_8 (by decide) ?_ ?_
    · refine zg_aload_n 0 dX5_drawn_14 rfl rfl ?_
      refine zq_X5_2 rfl rfl zw_21 dX5_drawn_15 ?_
      refine zg_aload_n 0 dX5_drawn_18 rfl rfl ?_
      refine zq_X5_1 rfl rfl zw_20 dX5_drawn_19 ?_
      refine zg_callVV (As := [.ref (zb_ad G 3)]) (rest := []) 1 (zcX1_copy N 5 rfl 3 rfl S) (by decide) (by decide) rfl (by decide) rfl zw_533 zw_534 zw_535 zw_19 zw_536 (by decide +kernel) rfl rfl (Nat.le_of_ble_eq_true rfl) dX5_drawn_22 (fun S1 => ?_)
      refine zg_iconst (v := 0) dX5_drawn_25 (by decide) ?_
      refine zg_istore_n (lv' := [(2, .int 0), (0, .ref (zb_ad G 0)), (1, .int a1)]) dX5_drawn_26 rfl (by decide) rfl ?_
      refine zg_sub [1, 2, 0] rfl ?_
      exact gX5_drawn_27 N N S1 a1 0
    · refine zg_bipush (v := (-2)) dX5_drawn_11 (by decide) ?_
      exact zg_iret rfl dX5_drawn_13
def fX5_drawn (N : Nat) (S : zb_S) (a1 : Int32) : Option (Int32 × zb_S) := fX5_drawn_0 N S a1
theorem zcX5_drawn {l : Launch} {G : zb_G} (N : Nat) (S : zb_S) (a1 : Int32) : zb_C zb_eI l G 4 yX5_drawn cX5_drawn 4 (some .int) [.ref (zb_ad G 0), .int a1] S (fX5_drawn N S a1) :=
  zb_C.of (by decide +kernel) rfl (Nat.le_of_ble_eq_true rfl) rfl (gX5_drawn_0 N S a1)
-- X5_keep
def fX5_keep_0 (N : Nat) (S : zb_S) (a1 : Int32) : Option (Int32 × zb_S) :=
  if a1 < 0 then
    some ((-1), S)
  else
    if a1 < 2 then
      zb_bind (fX3_put N 10 3 S a1) (fun _ S1 =>
      zb_let (zb_pi S1 0 5 ((zb_i S1 0 5) ||| ((1 : Int32) <<< (a1 &&& 31)))) (fun S3 : zb_S =>
      if zb_in 56 (zb_sz 4) then
      some (zb_a S3 4 (Int32.toNatClampNeg 56), S3) else none))
    else
      some ((-1), S)
set_option maxHeartbeats 4000000 in
set_option maxRecDepth 100000 in
theorem gX5_keep_0 {l : Launch} {G : zb_G} (N : Nat) (S : zb_S) (a1 : Int32) : zb_Go zb_eI l G 1 RX5 cX5_keep 2 (some .int) 0 [(0, .ref (zb_ad G 0)), (1, .int a1)] [] S (fX5_keep_0 N S a1) := by
  unfold fX5_keep_0
  refine zg_iload_n 1 dX5_keep_0 rfl rfl ?_
  refine zg_if_lt 9 dX5_keep_1 (by decide) ?_ ?_
  · refine zg_iconst (v := (-1)) dX5_keep_9 (by decide) ?_
    exact zg_iret rfl dX5_keep_10
  · refine zg_iload_n 1 dX5_keep_4 rfl rfl ?_
    refine zg_iconst (v := 2) dX5_keep_5 (by decide) ?_
    refine zg_icmp_lt 11 dX5_keep_6 (by decide) ?_ ?_
    · refine zg_aload_n 0 dX5_keep_11 rfl rfl ?_
      refine zq_X5_4 rfl rfl zw_29 dX5_keep_12 ?_
      refine zg_iload_n 1 dX5_keep_15 rfl rfl ?_
      refine zg_aload_n 0 dX5_keep_16 rfl rfl ?_
      refine zq_X5_1 rfl rfl zw_20 dX5_keep_17 ?_
      refine zg_callVV (As := [.int a1, .ref (zb_ad G 3)]) (rest := []) 2 (zcX3_put N 10 rfl 3 rfl S a1) (by decide) (by decide) rfl (by decide) rfl zw_733 zw_290 zw_291 zw_28 zw_292 (by decide +kernel) rfl rfl (Nat.le_of_ble_eq_true rfl) dX5_keep_20 (fun S1 => ?_)
      refine zg_aload_n 0 dX5_keep_23 rfl rfl ?_
      refine zg_dup dX5_keep_24 rfl ?_
      refine zq_X5_5 rfl zw_30 dX5_keep_25 ?_
      refine zg_iconst (v := 1) dX5_keep_28 (by decide) ?_
      refine zg_iload_n 1 dX5_keep_29 rfl rfl ?_
      refine zg_ishl dX5_keep_30 ?_
      refine zg_ior dX5_keep_31 ?_
      refine zp_X5_5 rfl zw_30 dX5_keep_32 (fun S3 => ?_)
      refine zg_aload_n 0 dX5_keep_35 rfl rfl ?_
      refine zq_X5_1 rfl rfl zw_20 dX5_keep_36 ?_
      refine zq_X1_4 rfl rfl zw_232 dX5_keep_39 ?_
      refine zg_bipush (v := 56) dX5_keep_42 (by decide) ?_
      refine zg_iald rfl dX5_keep_44 ?_
      exact zg_iret rfl dX5_keep_45
    · refine zg_iconst (v := (-1)) dX5_keep_9 (by decide) ?_
      exact zg_iret rfl dX5_keep_10
def fX5_keep (N : Nat) (S : zb_S) (a1 : Int32) : Option (Int32 × zb_S) := fX5_keep_0 N S a1
theorem zcX5_keep {l : Launch} {G : zb_G} (N : Nat) (S : zb_S) (a1 : Int32) : zb_C zb_eI l G 1 yX5_keep cX5_keep 2 (some .int) [.ref (zb_ad G 0), .int a1] S (fX5_keep N S a1) :=
  zb_C.of (by decide +kernel) rfl (Nat.le_of_ble_eq_true rfl) rfl (gX5_keep_0 N S a1)
-- X5_again
def fX5_again_0 (N : Nat) (S : zb_S) (a1 : Int32) : Option (Int32 × zb_S) :=
  if a1 < 0 then
    some ((-1), S)
  else
    if a1 < 2 then
      zb_bind (fX1_in N S (zb_i S 0 5) a1) (fun r2 S1 =>
      if r2 = 0 then
        some ((-3), S1)
      else
        zb_bind (fX3_get N 10 3 S1 a1) (fun _ S3 =>
        zb_bind (fX0_forgetAll N S3) (fun _ S5 =>
        if zb_in 56 (zb_sz 4) then
        some (zb_a S5 4 (Int32.toNatClampNeg 56), S5) else none)))
    else
      some ((-1), S)
set_option maxHeartbeats 4000000 in
set_option maxRecDepth 100000 in
theorem gX5_again_0 {l : Launch} {G : zb_G} (N : Nat) (S : zb_S) (a1 : Int32) : zb_Go zb_eI l G 1 RX5 cX5_again 2 (some .int) 0 [(0, .ref (zb_ad G 0)), (1, .int a1)] [] S (fX5_again_0 N S a1) := by
  unfold fX5_again_0
  refine zg_iload_n 1 dX5_again_0 rfl rfl ?_
  refine zg_if_lt 9 dX5_again_1 (by decide) ?_ ?_
  · refine zg_iconst (v := (-1)) dX5_again_9 (by decide) ?_
    exact zg_iret rfl dX5_again_10
  · refine zg_iload_n 1 dX5_again_4 rfl rfl ?_
    refine zg_iconst (v := 2) dX5_again_5 (by decide) ?_
    refine zg_icmp_lt 11 dX5_again_6 (by decide) ?_ ?_
    · refine zg_aload_n 0 dX5_again_11 rfl rfl ?_
      refine zq_X5_5 rfl zw_30 dX5_again_12 ?_
      refine zg_iload_n 1 dX5_again_15 rfl rfl ?_
      refine zg_callSI (As := [.int (zb_i S 0 5), .int a1]) (rest := []) 2 (zcX1_in N S (zb_i S 0 5) a1) (by decide) (by decide) zw_242 zw_157 zw_19 zw_158 (by decide +kernel) rfl rfl (Nat.le_of_ble_eq_true rfl) dX5_again_16 (fun r2 S1 => ?_)
      refine zg_if_ne 25 dX5_again_19 (by decide) ?_ ?_
      · refine zg_aload_n 0 dX5_again_25 rfl rfl ?_
        refine zq_X5_4 rfl rfl zw_29 dX5_again_26 ?_
        refine zg_iload_n 1 dX5_again_29 rfl rfl ?_
        refine zg_aload_n 0 dX5_again_30 rfl rfl ?_
        refine zq_X5_1 rfl rfl zw_20 dX5_again_31 ?_
        refine zg_callVV (As := [.int a1, .ref (zb_ad G 3)]) (rest := []) 2 (zcX3_get N 10 rfl 3 rfl S1 a1) (by decide) (by decide) rfl (by decide) rfl zw_734 zw_522 zw_523 zw_28 zw_524 (by decide +kernel) rfl rfl (Nat.le_of_ble_eq_true rfl) dX5_again_34 (fun S3 => ?_)
        refine zg_aload_n 0 dX5_again_37 rfl rfl ?_
        refine zq_X5_3 rfl rfl zw_25 dX5_again_38 ?_
        refine zg_callVV (As := []) (rest := []) 0 (zcX0_forgetAll N S3) (by decide) (by decide) rfl (by decide) rfl zw_210 zw_211 zw_212 zw_24 zw_213 (by decide +kernel) rfl rfl (Nat.le_of_ble_eq_true rfl) dX5_again_41 (fun S5 => ?_)
        refine zg_aload_n 0 dX5_again_44 rfl rfl ?_
        refine zq_X5_1 rfl rfl zw_20 dX5_again_45 ?_
        refine zq_X1_4 rfl rfl zw_232 dX5_again_48 ?_
        refine zg_bipush (v := 56) dX5_again_51 (by decide) ?_
        refine zg_iald rfl dX5_again_53 ?_
        exact zg_iret rfl dX5_again_54
      · refine zg_bipush (v := (-3)) dX5_again_22 (by decide) ?_
        exact zg_iret rfl dX5_again_24
    · refine zg_iconst (v := (-1)) dX5_again_9 (by decide) ?_
      exact zg_iret rfl dX5_again_10
def fX5_again (N : Nat) (S : zb_S) (a1 : Int32) : Option (Int32 × zb_S) := fX5_again_0 N S a1
theorem zcX5_again {l : Launch} {G : zb_G} (N : Nat) (S : zb_S) (a1 : Int32) : zb_C zb_eI l G 1 yX5_again cX5_again 2 (some .int) [.ref (zb_ad G 0), .int a1] S (fX5_again N S a1) :=
  zb_C.of (by decide +kernel) rfl (Nat.le_of_ble_eq_true rfl) rfl (gX5_again_0 N S a1)
-- X5_count
def fX5_count_0 (N : Nat) (S : zb_S) (a1 : Int32) : Option (Int32 × zb_S) :=
  if a1 = 0 then
    some (zb_i S 1 1, S)
  else if a1 = 1 then
    some (zb_i S 3 0, S)
  else if a1 = 2 then
    some (zb_i S 3 1, S)
  else if a1 = 3 then
    some (zb_i S 3 3, S)
  else if a1 = 4 then
    if zb_in 51 (zb_sz 4) then
    some (zb_a S 4 (Int32.toNatClampNeg 51), S) else none
  else if a1 = 5 then
    if zb_in 52 (zb_sz 4) then
    some (zb_a S 4 (Int32.toNatClampNeg 52), S) else none
  else if a1 = 6 then
    if zb_in 50 (zb_sz 4) then
    some (zb_a S 4 (Int32.toNatClampNeg 50), S) else none
  else if a1 = 7 then
    if zb_in 56 (zb_sz 4) then
    some (zb_a S 4 (Int32.toNatClampNeg 56), S) else none
  else if a1 = 8 then
    if zb_in 54 (zb_sz 4) then
    some (zb_a S 4 (Int32.toNatClampNeg 54), S) else none
  else if a1 = 9 then
    if zb_in 55 (zb_sz 4) then
    some (zb_a S 4 (Int32.toNatClampNeg 55), S) else none
  else if a1 = 10 then
    zb_bind (fX1_loaded N 3 S) (fun r12 S11 =>
    some (r12, S11))
  else if a1 = 11 then
    if zb_in 48 (zb_sz 4) then
    some (zb_a S 4 (Int32.toNatClampNeg 48), S) else none
  else if a1 = 12 then
    if zb_in 49 (zb_sz 4) then
    some (zb_a S 4 (Int32.toNatClampNeg 49), S) else none
  else if a1 = 13 then
    some (zb_i S 7 2, S)
  else if a1 = 14 then
    some (zb_i S 14 3, S)
  else 
    some ((-2), S)
set_option maxHeartbeats 4000000 in
set_option maxRecDepth 100000 in
theorem gX5_count_0 {l : Launch} {G : zb_G} (N : Nat) (S : zb_S) (a1 : Int32) : zb_Go zb_eI l G 2 RX5 cX5_count 2 (some .int) 0 [(0, .ref (zb_ad G 0)), (1, .int a1)] [] S (fX5_count_0 N S a1) := by
  unfold fX5_count_0
  refine zg_iload_n 1 dX5_count_0 rfl rfl ?_
  refine zg_if (fun q1 => ?_) (fun q1 => ?_)
  · refine zg_tableIn dX5_count_1 (by rw [q1]; decide) (by rw [q1]; decide) (by rw [q1]; rfl) (by decide : (1 : Int) + 75 = (76 : Nat)) ?_
    refine zg_aload_n 0 dX5_count_76 rfl rfl ?_
    refine zq_X5_0 rfl rfl zw_16 dX5_count_77 ?_
    refine zq_X4_1 rfl zw_105 dX5_count_80 ?_
    exact zg_iret rfl dX5_count_83
  · refine zg_if (fun q2 => ?_) (fun q2 => ?_)
    · refine zg_tableIn dX5_count_1 (by rw [q2]; decide) (by rw [q2]; decide) (by rw [q2]; rfl) (by decide : (1 : Int) + 83 = (84 : Nat)) ?_
      refine zg_aload_n 0 dX5_count_84 rfl rfl ?_
      refine zq_X5_1 rfl rfl zw_20 dX5_count_85 ?_
      refine zq_X1_0 rfl zw_786 dX5_count_88 ?_
      exact zg_iret rfl dX5_count_91
    · refine zg_if (fun q3 => ?_) (fun q3 => ?_)
      · refine zg_tableIn dX5_count_1 (by rw [q3]; decide) (by rw [q3]; decide) (by rw [q3]; rfl) (by decide : (1 : Int) + 91 = (92 : Nat)) ?_
        refine zg_aload_n 0 dX5_count_92 rfl rfl ?_
        refine zq_X5_1 rfl rfl zw_20 dX5_count_93 ?_
        refine zq_X1_1 rfl zw_787 dX5_count_96 ?_
        exact zg_iret rfl dX5_count_99
      · refine zg_if (fun q4 => ?_) (fun q4 => ?_)
        · refine zg_tableIn dX5_count_1 (by rw [q4]; decide) (by rw [q4]; decide) (by rw [q4]; rfl) (by decide : (1 : Int) + 99 = (100 : Nat)) ?_
          refine zg_aload_n 0 dX5_count_100 rfl rfl ?_
          refine zq_X5_1 rfl rfl zw_20 dX5_count_101 ?_
          refine zq_X1_3 rfl zw_788 dX5_count_104 ?_
          exact zg_iret rfl dX5_count_107
        · refine zg_if (fun q5 => ?_) (fun q5 => ?_)
          · refine zg_tableIn dX5_count_1 (by rw [q5]; decide) (by rw [q5]; decide) (by rw [q5]; rfl) (by decide : (1 : Int) + 107 = (108 : Nat)) ?_
            refine zg_aload_n 0 dX5_count_108 rfl rfl ?_
            refine zq_X5_1 rfl rfl zw_20 dX5_count_109 ?_
            refine zq_X1_4 rfl rfl zw_232 dX5_count_112 ?_
            refine zg_bipush (v := 51) dX5_count_115 (by decide) ?_
            refine zg_iald rfl dX5_count_117 ?_
            exact zg_iret rfl dX5_count_118
          · refine zg_if (fun q6 => ?_) (fun q6 => ?_)
            · refine zg_tableIn dX5_count_1 (by rw [q6]; decide) (by rw [q6]; decide) (by rw [q6]; rfl) (by decide : (1 : Int) + 118 = (119 : Nat)) ?_
              refine zg_aload_n 0 dX5_count_119 rfl rfl ?_
              refine zq_X5_1 rfl rfl zw_20 dX5_count_120 ?_
              refine zq_X1_4 rfl rfl zw_232 dX5_count_123 ?_
              refine zg_bipush (v := 52) dX5_count_126 (by decide) ?_
              refine zg_iald rfl dX5_count_128 ?_
              exact zg_iret rfl dX5_count_129
            · refine zg_if (fun q7 => ?_) (fun q7 => ?_)
              · refine zg_tableIn dX5_count_1 (by rw [q7]; decide) (by rw [q7]; decide) (by rw [q7]; rfl) (by decide : (1 : Int) + 129 = (130 : Nat)) ?_
                refine zg_aload_n 0 dX5_count_130 rfl rfl ?_
                refine zq_X5_1 rfl rfl zw_20 dX5_count_131 ?_
                refine zq_X1_4 rfl rfl zw_232 dX5_count_134 ?_
                refine zg_bipush (v := 50) dX5_count_137 (by decide) ?_
                refine zg_iald rfl dX5_count_139 ?_
                exact zg_iret rfl dX5_count_140
              · refine zg_if (fun q8 => ?_) (fun q8 => ?_)
                · refine zg_tableIn dX5_count_1 (by rw [q8]; decide) (by rw [q8]; decide) (by rw [q8]; rfl) (by decide : (1 : Int) + 140 = (141 : Nat)) ?_
                  refine zg_aload_n 0 dX5_count_141 rfl rfl ?_
                  refine zq_X5_1 rfl rfl zw_20 dX5_count_142 ?_
                  refine zq_X1_4 rfl rfl zw_232 dX5_count_145 ?_
                  refine zg_bipush (v := 56) dX5_count_148 (by decide) ?_
                  refine zg_iald rfl dX5_count_150 ?_
                  exact zg_iret rfl dX5_count_151
                · refine zg_if (fun q9 => ?_) (fun q9 => ?_)
                  · refine zg_tableIn dX5_count_1 (by rw [q9]; decide) (by rw [q9]; decide) (by rw [q9]; rfl) (by decide : (1 : Int) + 151 = (152 : Nat)) ?_
                    refine zg_aload_n 0 dX5_count_152 rfl rfl ?_
                    refine zq_X5_1 rfl rfl zw_20 dX5_count_153 ?_
                    refine zq_X1_4 rfl rfl zw_232 dX5_count_156 ?_
                    refine zg_bipush (v := 54) dX5_count_159 (by decide) ?_
                    refine zg_iald rfl dX5_count_161 ?_
                    exact zg_iret rfl dX5_count_162
                  · refine zg_if (fun q10 => ?_) (fun q10 => ?_)
                    · refine zg_tableIn dX5_count_1 (by rw [q10]; decide) (by rw [q10]; decide) (by rw [q10]; rfl) (by decide : (1 : Int) + 162 = (163 : Nat)) ?_
                      refine zg_aload_n 0 dX5_count_163 rfl rfl ?_
                      refine zq_X5_1 rfl rfl zw_20 dX5_count_164 ?_
                      refine zq_X1_4 rfl rfl zw_232 dX5_count_167 ?_
                      refine zg_bipush (v := 55) dX5_count_170 (by decide) ?_
                      refine zg_iald rfl dX5_count_172 ?_
                      exact zg_iret rfl dX5_count_173
                    · refine zg_if (fun q13 => ?_) (fun q13 => ?_)
                      · refine zg_tableIn dX5_count_1 (by rw [q13]; decide) (by rw [q13]; decide) (by rw [q13]; rfl) (by decide : (1 : Int) + 173 = (174 : Nat)) ?_
                        refine zg_aload_n 0 dX5_count_174 rfl rfl ?_
                        refine zq_X5_1 rfl rfl zw_20 dX5_count_175 ?_
                        refine zg_callVI (As := []) (rest := []) 0 (zcX1_loaded N 3 rfl S) (by decide) (by decide) rfl (by decide) rfl zw_554 zw_555 zw_556 zw_19 zw_557 (by decide +kernel) rfl rfl (Nat.le_of_ble_eq_true rfl) dX5_count_178 (fun r12 S11 => ?_)
                        exact zg_iret rfl dX5_count_181
                      · refine zg_if (fun q14 => ?_) (fun q14 => ?_)
                        · refine zg_tableIn dX5_count_1 (by rw [q14]; decide) (by rw [q14]; decide) (by rw [q14]; rfl) (by decide : (1 : Int) + 181 = (182 : Nat)) ?_
                          refine zg_aload_n 0 dX5_count_182 rfl rfl ?_
                          refine zq_X5_1 rfl rfl zw_20 dX5_count_183 ?_
                          refine zq_X1_4 rfl rfl zw_232 dX5_count_186 ?_
                          refine zg_bipush (v := 48) dX5_count_189 (by decide) ?_
                          refine zg_iald rfl dX5_count_191 ?_
                          exact zg_iret rfl dX5_count_192
                        · refine zg_if (fun q15 => ?_) (fun q15 => ?_)
                          · refine zg_tableIn dX5_count_1 (by rw [q15]; decide) (by rw [q15]; decide) (by rw [q15]; rfl) (by decide : (1 : Int) + 192 = (193 : Nat)) ?_
                            refine zg_aload_n 0 dX5_count_193 rfl rfl ?_
                            refine zq_X5_1 rfl rfl zw_20 dX5_count_194 ?_
                            refine zq_X1_4 rfl rfl zw_232 dX5_count_197 ?_
                            refine zg_bipush (v := 49) dX5_count_200 (by decide) ?_
                            refine zg_iald rfl dX5_count_202 ?_
                            exact zg_iret rfl dX5_count_203
                          · refine zg_if (fun q16 => ?_) (fun q16 => ?_)
                            · refine zg_tableIn dX5_count_1 (by rw [q16]; decide) (by rw [q16]; decide) (by rw [q16]; rfl) (by decide : (1 : Int) + 203 = (204 : Nat)) ?_
                              refine zg_aload_n 0 dX5_count_204 rfl rfl ?_
                              refine zq_X5_3 rfl rfl zw_25 dX5_count_205 ?_
                              refine zq_X0_2 rfl zw_516 dX5_count_208 ?_
                              exact zg_iret rfl dX5_count_211
                            · refine zg_if (fun q17 => ?_) (fun q17 => ?_)
                              · refine zg_tableIn dX5_count_1 (by rw [q17]; decide) (by rw [q17]; decide) (by rw [q17]; rfl) (by decide : (1 : Int) + 211 = (212 : Nat)) ?_
                                refine zg_aload_n 0 dX5_count_212 rfl rfl ?_
                                refine zq_X5_7 rfl rfl zw_35 dX5_count_213 ?_
                                refine zq_X2_3 rfl zw_630 dX5_count_216 ?_
                                exact zg_iret rfl dX5_count_219
                              · refine zg_tableOut dX5_count_1 (by have q1 := lv_neT q1 (show (0 : Int32).toInt = 0 from by decide); have q2 := lv_neT q2 (show (1 : Int32).toInt = 1 from by decide); have q3 := lv_neT q3 (show (2 : Int32).toInt = 2 from by decide); have q4 := lv_neT q4 (show (3 : Int32).toInt = 3 from by decide); have q5 := lv_neT q5 (show (4 : Int32).toInt = 4 from by decide); have q6 := lv_neT q6 (show (5 : Int32).toInt = 5 from by decide); have q7 := lv_neT q7 (show (6 : Int32).toInt = 6 from by decide); have q8 := lv_neT q8 (show (7 : Int32).toInt = 7 from by decide); have q9 := lv_neT q9 (show (8 : Int32).toInt = 8 from by decide); have q10 := lv_neT q10 (show (9 : Int32).toInt = 9 from by decide); have q13 := lv_neT q13 (show (10 : Int32).toInt = 10 from by decide); have q14 := lv_neT q14 (show (11 : Int32).toInt = 11 from by decide); have q15 := lv_neT q15 (show (12 : Int32).toInt = 12 from by decide); have q16 := lv_neT q16 (show (13 : Int32).toInt = 13 from by decide); have q17 := lv_neT q17 (show (14 : Int32).toInt = 14 from by decide); omega) (by decide : (1 : Int) + 219 = (220 : Nat)) ?_
                                refine zg_bipush (v := (-2)) dX5_count_220 (by decide) ?_
                                exact zg_iret rfl dX5_count_222
def fX5_count (N : Nat) (S : zb_S) (a1 : Int32) : Option (Int32 × zb_S) := fX5_count_0 N S a1
theorem zcX5_count {l : Launch} {G : zb_G} (N : Nat) (S : zb_S) (a1 : Int32) : zb_C zb_eI l G 2 yX5_count cX5_count 2 (some .int) [.ref (zb_ad G 0), .int a1] S (fX5_count N S a1) :=
  zb_C.of (by decide +kernel) rfl (Nat.le_of_ble_eq_true rfl) rfl (gX5_count_0 N S a1)
