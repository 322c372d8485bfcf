-- X3_put
def fX3_put_0 (N : Nat) (b0 : Nat) (b2 : Nat) (S : zb_S) (a1 : Int32) : Option (Unit × zb_S) :=
  if a1 < 0 then
    some ((), S)
  else
    if (zb_i S b0 0) ≤ a1 then
      some ((), S)
    else
      if zb_cpok 0 (a1 * 57) 57 (zb_sz (b2 + 1)) (zb_sz (b0 + 1)) then zb_let (zb_cp S (b2 + 1) (Int32.toNatClampNeg 0) (b0 + 1) (Int32.toNatClampNeg (a1 * 57)) (Int32.toNatClampNeg 57)) (fun S1 : zb_S =>
      some ((), S1)) else none
set_option maxHeartbeats 4000000 in
set_option maxRecDepth 100000 in
theorem gX3_put_0 {l : Launch} {G : zb_G} (N : Nat) (b0 : Nat) (h0 : zb_kd b0 = 3) (b2 : Nat) (h2 : zb_kd b2 = 1) (S : zb_S) (a1 : Int32) : zb_Go zb_eV l G 0 RX3 cX3_put 3 none 0 [(0, .ref (zb_ad G b0)), (1, .int a1), (2, .ref (zb_ad G b2))] [] S (fX3_put_0 N b0 b2 S a1) := by
  unfold fX3_put_0
  refine zg_iload_n 1 dX3_put_0 rfl rfl ?_
  refine zg_if_lt 30 dX3_put_1 (by decide) ?_ ?_
  · exact zg_vret rfl dX3_put_30
  · refine zg_iload_n 1 dX3_put_4 rfl rfl ?_
    refine zg_aload_n 0 dX3_put_5 rfl rfl ?_
    refine zq_X3_0 h0 zw_73 dX3_put_6 ?_
    refine zg_icmp_ge 30 dX3_put_9 (by decide) ?_ ?_
    · exact zg_vret rfl dX3_put_30
    · refine zg_aload_n 2 dX3_put_12 rfl rfl ?_
      refine zq_X1_4 h2 (zk_X1_4 h2).1 zw_293 dX3_put_13 ?_
      refine zg_iconst (v := 0) dX3_put_16 (by decide) ?_
      refine zg_aload_n 0 dX3_put_17 rfl rfl ?_
      refine zq_X3_1 h0 (zk_X3_1 h0).1 zw_74 dX3_put_18 ?_
      refine zg_iload_n 1 dX3_put_21 rfl rfl ?_
      refine zg_bipush (v := 57) dX3_put_22 (by decide) ?_
      refine zg_imul dX3_put_24 ?_
      refine zg_bipush (v := 57) dX3_put_25 (by decide) ?_
      refine zg_copy (zk_X1_4 h2).2.1 (zk_X3_1 h0).2.1 zw_294 zw_295 zw_296 zw_297 (Nat.le_of_ble_eq_true rfl) dX3_put_27 (fun S1 => ?_)
      exact zg_vret rfl dX3_put_30
def fX3_put (N : Nat) (b0 : Nat) (b2 : Nat) (S : zb_S) (a1 : Int32) : Option (Unit × zb_S) := fX3_put_0 N b0 b2 S a1
theorem zcX3_put {l : Launch} {G : zb_G} (N : Nat) (b0 : Nat) (h0 : zb_kd b0 = 3) (b2 : Nat) (h2 : zb_kd b2 = 1) (S : zb_S) (a1 : Int32) : zb_C zb_eV l G 0 yX3_put cX3_put 3 none [.ref (zb_ad G b0), .int a1, .ref (zb_ad G b2)] S (fX3_put N b0 b2 S a1) :=
  zb_C.of (by decide +kernel) rfl (Nat.le_of_ble_eq_true rfl) rfl (gX3_put_0 N b0 h0 b2 h2 S a1)
-- X0_remember
def fX0_remember_0 (N : Nat) (b1 : Nat) (S : zb_S) : Option (Unit × zb_S) :=
  zb_bind (fX3_put N 8 b1 S (zb_i S 7 1)) (fun _ S1 =>
  if 14 = 0 then none else
  zb_let (zb_pi S1 7 1 (((zb_i S1 7 1) + 1) - ((zb_i S1 7 1) + 1) / 14 * 14)) (fun S3 : zb_S =>
  zb_let (zb_pi S3 7 2 (if 14 < ((zb_i S3 7 2) + 1) then 14 else ((zb_i S3 7 2) + 1))) (fun S4 : zb_S =>
  some ((), S4))))
set_option maxHeartbeats 4000000 in
set_option maxRecDepth 100000 in
theorem gX0_remember_0 {l : Launch} {G : zb_G} (N : Nat) (b1 : Nat) (h1 : zb_kd b1 = 1) (S : zb_S) : zb_Go zb_eV l G 1 RX0 cX0_remember 2 none 0 [(0, .ref (zb_ad G 7)), (1, .ref (zb_ad G b1))] [] S (fX0_remember_0 N b1 S) := by
  unfold fX0_remember_0
  refine zg_aload_n 0 dX0_remember_0 rfl rfl ?_
  refine zq_X0_0 rfl rfl zw_62 dX0_remember_1 ?_
  refine zg_aload_n 0 dX0_remember_4 rfl rfl ?_
  refine zq_X0_1 rfl zw_63 dX0_remember_5 ?_
  refine zg_aload_n 1 dX0_remember_8 rfl rfl ?_
  refine zg_callVV (As := [.int (zb_i S 7 1), .ref (zb_ad G b1)]) (rest := []) 2 (zcX3_put N 8 rfl b1 h1 S (zb_i S 7 1)) (by decide) (by decide) rfl (by decide) rfl zw_289 zw_290 zw_291 zw_28 zw_292 (by decide +kernel) rfl rfl (Nat.le_of_ble_eq_true rfl) dX0_remember_9 (fun S1 => ?_)
  refine zg_aload_n 0 dX0_remember_12 rfl rfl ?_
  refine zg_aload_n 0 dX0_remember_13 rfl rfl ?_
  refine zq_X0_1 rfl zw_63 dX0_remember_14 ?_
  refine zg_iconst (v := 1) dX0_remember_17 (by decide) ?_
  refine zg_iadd dX0_remember_18 ?_
  refine zg_bipush (v := 14) dX0_remember_19 (by decide) ?_
  refine zg_irem dX0_remember_21 (fun _ => ?_)
  refine zp_X0_1 rfl zw_63 dX0_remember_22 (fun S3 => ?_)
  refine zg_aload_n 0 dX0_remember_25 rfl rfl ?_
  refine zg_aload_n 0 dX0_remember_26 rfl rfl ?_
  refine zq_X0_2 rfl zw_64 dX0_remember_27 ?_
  refine zg_iconst (v := 1) dX0_remember_30 (by decide) ?_
  refine zg_iadd dX0_remember_31 ?_
  refine zg_bipush (v := 14) dX0_remember_32 (by decide) ?_
  refine zg_mmin zw_286 zw_287 zw_71 zw_288 (Nat.le_of_ble_eq_true rfl) dX0_remember_34 ?_
  refine zp_X0_2 rfl zw_64 dX0_remember_37 (fun S4 => ?_)
  exact zg_vret rfl dX0_remember_40
def fX0_remember (N : Nat) (b1 : Nat) (S : zb_S) : Option (Unit × zb_S) := fX0_remember_0 N b1 S
theorem zcX0_remember {l : Launch} {G : zb_G} (N : Nat) (b1 : Nat) (h1 : zb_kd b1 = 1) (S : zb_S) : zb_C zb_eV l G 1 yX0_remember cX0_remember 2 none [.ref (zb_ad G 7), .ref (zb_ad G b1)] S (fX0_remember N b1 S) :=
  zb_C.of (by decide +kernel) rfl (Nat.le_of_ble_eq_true rfl) rfl (gX0_remember_0 N b1 h1 S)
-- X3_get
def fX3_get_0 (N : Nat) (b0 : Nat) (b2 : Nat) (S : zb_S) (a1 : Int32) : Option (Unit × zb_S) :=
  if a1 < 0 then
    some ((), S)
  else
    if (zb_i S b0 0) ≤ a1 then
      some ((), S)
    else
      if zb_cpok (a1 * 57) 0 57 (zb_sz (b0 + 1)) (zb_sz (b2 + 1)) then zb_let (zb_cp S (b0 + 1) (Int32.toNatClampNeg (a1 * 57)) (b2 + 1) (Int32.toNatClampNeg 0) (Int32.toNatClampNeg 57)) (fun S1 : zb_S =>
      some ((), S1)) else none
set_option maxHeartbeats 4000000 in
set_option maxRecDepth 100000 in
theorem gX3_get_0 {l : Launch} {G : zb_G} (N : Nat) (b0 : Nat) (h0 : zb_kd b0 = 3) (b2 : Nat) (h2 : zb_kd b2 = 1) (S : zb_S) (a1 : Int32) : zb_Go zb_eV l G 0 RX3 cX3_get 3 none 0 [(0, .ref (zb_ad G b0)), (1, .int a1), (2, .ref (zb_ad G b2))] [] S (fX3_get_0 N b0 b2 S a1) := by
  unfold fX3_get_0
  refine zg_iload_n 1 dX3_get_0 rfl rfl ?_
  refine zg_if_lt 30 dX3_get_1 (by decide) ?_ ?_
  · exact zg_vret rfl dX3_get_30
  · refine zg_iload_n 1 dX3_get_4 rfl rfl ?_
    refine zg_aload_n 0 dX3_get_5 rfl rfl ?_
    refine zq_X3_0 h0 zw_73 dX3_get_6 ?_
    refine zg_icmp_ge 30 dX3_get_9 (by decide) ?_ ?_
    · exact zg_vret rfl dX3_get_30
    · refine zg_aload_n 0 dX3_get_12 rfl rfl ?_
      refine zq_X3_1 h0 (zk_X3_1 h0).1 zw_74 dX3_get_13 ?_
      refine zg_iload_n 1 dX3_get_16 rfl rfl ?_
      refine zg_bipush (v := 57) dX3_get_17 (by decide) ?_
      refine zg_imul dX3_get_19 ?_
      refine zg_aload_n 2 dX3_get_20 rfl rfl ?_
      refine zq_X1_4 h2 (zk_X1_4 h2).1 zw_293 dX3_get_21 ?_
      refine zg_iconst (v := 0) dX3_get_24 (by decide) ?_
      refine zg_bipush (v := 57) dX3_get_25 (by decide) ?_
      refine zg_copy (zk_X3_1 h0).2.1 (zk_X1_4 h2).2.1 zw_294 zw_295 zw_296 zw_297 (Nat.le_of_ble_eq_true rfl) dX3_get_27 (fun S1 => ?_)
      exact zg_vret rfl dX3_get_30
def fX3_get (N : Nat) (b0 : Nat) (b2 : Nat) (S : zb_S) (a1 : Int32) : Option (Unit × zb_S) := fX3_get_0 N b0 b2 S a1
theorem zcX3_get {l : Launch} {G : zb_G} (N : Nat) (b0 : Nat) (h0 : zb_kd b0 = 3) (b2 : Nat) (h2 : zb_kd b2 = 1) (S : zb_S) (a1 : Int32) : zb_C zb_eV l G 0 yX3_get cX3_get 3 none [.ref (zb_ad G b0), .int a1, .ref (zb_ad G b2)] S (fX3_get N b0 b2 S a1) :=
  zb_C.of (by decide +kernel) rfl (Nat.le_of_ble_eq_true rfl) rfl (gX3_get_0 N b0 h0 b2 h2 S a1)
-- X0_takeBack
def fX0_takeBack_0 (N : Nat) (b1 : Nat) (S : zb_S) : Option (Int32 × zb_S) :=
  if (zb_i S 7 2) = 0 then
    if (0 : Int32) = 0 ∨ (0 : Int32) = 1 then some (0, S) else none
  else
    if 14 = 0 then none else
    zb_let (zb_pi S 7 1 ((((zb_i S 7 1) + 14) - 1) - (((zb_i S 7 1) + 14) - 1) / 14 * 14)) (fun S1 : zb_S =>
    zb_let (zb_pi S1 7 2 ((zb_i S1 7 2) - 1)) (fun S2 : zb_S =>
    zb_bind (fX3_get N 8 b1 S2 (zb_i S2 7 1)) (fun _ S3 =>
    if (1 : Int32) = 0 ∨ (1 : Int32) = 1 then some (1, S3) else none)))
set_option maxHeartbeats 4000000 in
set_option maxRecDepth 100000 in
theorem gX0_takeBack_0 {l : Launch} {G : zb_G} (N : Nat) (b1 : Nat) (h1 : zb_kd b1 = 1) (S : zb_S) : zb_Go zb_eI l G 1 RX0 cX0_takeBack 2 (some .boolean) 0 [(0, .ref (zb_ad G 7)), (1, .ref (zb_ad G b1))] [] S (fX0_takeBack_0 N b1 S) := by
  unfold fX0_takeBack_0
  refine zg_aload_n 0 dX0_takeBack_0 rfl rfl ?_
  refine zq_X0_2 rfl zw_64 dX0_takeBack_1 ?_
  refine zg_if_ne 9 dX0_takeBack_4 (by decide) ?_ ?_
  · refine zg_aload_n 0 dX0_takeBack_9 rfl rfl ?_
    refine zg_aload_n 0 dX0_takeBack_10 rfl rfl ?_
    refine zq_X0_1 rfl zw_63 dX0_takeBack_11 ?_
    refine zg_bipush (v := 14) dX0_takeBack_14 (by decide) ?_
    refine zg_iadd dX0_takeBack_16 ?_
    refine zg_iconst (v := 1) dX0_takeBack_17 (by decide) ?_
    refine zg_isub dX0_takeBack_18 ?_
    refine zg_bipush (v := 14) dX0_takeBack_19 (by decide) ?_
    refine zg_irem dX0_takeBack_21 (fun _ => ?_)
    refine zp_X0_1 rfl zw_63 dX0_takeBack_22 (fun S1 => ?_)
    refine zg_aload_n 0 dX0_takeBack_25 rfl rfl ?_
    refine zg_dup dX0_takeBack_26 rfl ?_
    refine zq_X0_2 rfl zw_64 dX0_takeBack_27 ?_
    refine zg_iconst (v := 1) dX0_takeBack_30 (by decide) ?_
    refine zg_isub dX0_takeBack_31 ?_
    refine zp_X0_2 rfl zw_64 dX0_takeBack_32 (fun S2 => ?_)
    refine zg_aload_n 0 dX0_takeBack_35 rfl rfl ?_
    refine zq_X0_0 rfl rfl zw_62 dX0_takeBack_36 ?_
    refine zg_aload_n 0 dX0_takeBack_39 rfl rfl ?_
    refine zq_X0_1 rfl zw_63 dX0_takeBack_40 ?_
    refine zg_aload_n 1 dX0_takeBack_43 rfl rfl ?_
    refine zg_callVV (As := [.int (zb_i S2 7 1), .ref (zb_ad G b1)]) (rest := []) 2 (zcX3_get N 8 rfl b1 h1 S2 (zb_i S2 7 1)) (by decide) (by decide) rfl (by decide) rfl zw_521 zw_522 zw_523 zw_28 zw_524 (by decide +kernel) rfl rfl (Nat.le_of_ble_eq_true rfl) dX0_takeBack_44 (fun S3 => ?_)
    refine zg_iconst (v := 1) dX0_takeBack_47 (by decide) ?_
    exact zg_zret rfl dX0_takeBack_48
  · refine zg_iconst (v := 0) dX0_takeBack_7 (by decide) ?_
    exact zg_zret rfl dX0_takeBack_8
def fX0_takeBack (N : Nat) (b1 : Nat) (S : zb_S) : Option (Int32 × zb_S) := fX0_takeBack_0 N b1 S
theorem zcX0_takeBack {l : Launch} {G : zb_G} (N : Nat) (b1 : Nat) (h1 : zb_kd b1 = 1) (S : zb_S) : zb_C zb_eI l G 1 yX0_takeBack cX0_takeBack 2 (some .boolean) [.ref (zb_ad G 7), .ref (zb_ad G b1)] S (fX0_takeBack N b1 S) :=
  zb_C.of (by decide +kernel) rfl (Nat.le_of_ble_eq_true rfl) rfl (gX0_takeBack_0 N b1 h1 S)
-- X0_forgetAll
def fX0_forgetAll_0 (N : Nat) (S : zb_S) : Option (Unit × zb_S) :=
  zb_let (zb_pi S 7 2 0) (fun S1 : zb_S =>
  some ((), S1))
set_option maxHeartbeats 4000000 in
set_option maxRecDepth 100000 in
theorem gX0_forgetAll_0 {l : Launch} {G : zb_G} (N : Nat) (S : zb_S) : zb_Go zb_eV l G 0 RX0 cX0_forgetAll 1 none 0 [(0, .ref (zb_ad G 7))] [] S (fX0_forgetAll_0 N S) := by
  unfold fX0_forgetAll_0
  refine zg_aload_n 0 dX0_forgetAll_0 rfl rfl ?_
  refine zg_iconst (v := 0) dX0_forgetAll_1 (by decide) ?_
  refine zp_X0_2 rfl zw_64 dX0_forgetAll_2 (fun S1 => ?_)
  exact zg_vret rfl dX0_forgetAll_5
def fX0_forgetAll (N : Nat) (S : zb_S) : Option (Unit × zb_S) := fX0_forgetAll_0 N S
theorem zcX0_forgetAll {l : Launch} {G : zb_G} (N : Nat) (S : zb_S) : zb_C zb_eV l G 0 yX0_forgetAll cX0_forgetAll 1 none [.ref (zb_ad G 7)] S (fX0_forgetAll N S) :=
  zb_C.of (by decide +kernel) rfl (Nat.le_of_ble_eq_true rfl) rfl (gX0_forgetAll_0 N S)
-- X2_append
def fX2_append_0 (N : Nat) (S : zb_S) (a1 : Int32) (a2 : Int32) (a3 : Int32) : Option (Int32 × zb_S) :=
  if (zb_i S 14 3) < 6 then
    if zb_in (zb_i S 14 3) (zb_sz 15) then zb_let (zb_pa S 15 (Int32.toNatClampNeg (zb_i S 14 3)) a1) (fun S1 : zb_S =>
    if zb_in (zb_i S1 14 3) (zb_sz 16) then zb_let (zb_pa S1 16 (Int32.toNatClampNeg (zb_i S1 14 3)) a2) (fun S2 : zb_S =>
    if zb_in (zb_i S2 14 3) (zb_sz 17) then zb_let (zb_pa S2 17 (Int32.toNatClampNeg (zb_i S2 14 3)) a3) (fun S3 : zb_S =>
    zb_let (zb_pi S3 14 3 ((zb_i S3 14 3) + 1)) (fun S4 : zb_S =>
    if (1 : Int32) = 0 ∨ (1 : Int32) = 1 then some (1, S4) else none)) else none) else none) else none
  else
    if (0 : Int32) = 0 ∨ (0 : Int32) = 1 then some (0, S) else none
set_option maxHeartbeats 4000000 in
set_option maxRecDepth 100000 in
theorem gX2_append_0 {l : Launch} {G : zb_G} (N : Nat) (S : zb_S) (a1 : Int32) (a2 : Int32) (a3 : Int32) : zb_Go zb_eI l G 0 RX2 cX2_append 4 (some .boolean) 0 [(0, .ref (zb_ad G 14)), (1, .int a1), (2, .int a2), (3, .int a3)] [] S (fX2_append_0 N S a1 a2 a3) := by
  unfold fX2_append_0
  refine zg_aload_n 0 dX2_append_0 rfl rfl ?_
  refine zq_X2_3 rfl zw_83 dX2_append_1 ?_
  refine zg_bipush (v := 6) dX2_append_4 (by decide) ?_
  refine zg_icmp_lt 11 dX2_append_6 (by decide) ?_ ?_
  · refine zg_aload_n 0 dX2_append_11 rfl rfl ?_
    refine zq_X2_0 rfl rfl zw_80 dX2_append_12 ?_
    refine zg_aload_n 0 dX2_append_15 rfl rfl ?_
    refine zq_X2_3 rfl zw_83 dX2_append_16 ?_
    refine zg_iload_n 1 dX2_append_19 rfl rfl ?_
    refine zg_iast rfl dX2_append_20 (fun S1 => ?_)
    refine zg_aload_n 0 dX2_append_21 rfl rfl ?_
    refine zq_X2_1 rfl rfl zw_81 dX2_append_22 ?_
    refine zg_aload_n 0 dX2_append_25 rfl rfl ?_
    refine zq_X2_3 rfl zw_83 dX2_append_26 ?_
    refine zg_iload_n 2 dX2_append_29 rfl rfl ?_
    refine zg_iast rfl dX2_append_30 (fun S2 => ?_)
    refine zg_aload_n 0 dX2_append_31 rfl rfl ?_
    refine zq_X2_2 rfl rfl zw_82 dX2_append_32 ?_
    refine zg_aload_n 0 dX2_append_35 rfl rfl ?_
    refine zq_X2_3 rfl zw_83 dX2_append_36 ?_
    refine zg_iload_n 3 dX2_append_39 rfl rfl ?_
    refine zg_iast rfl dX2_append_40 (fun S3 => ?_)
    refine zg_aload_n 0 dX2_append_41 rfl rfl ?_
    refine zg_dup dX2_append_42 rfl ?_
    refine zq_X2_3 rfl zw_83 dX2_append_43 ?_
    refine zg_iconst (v := 1) dX2_append_46 (by decide) ?_
    refine zg_iadd dX2_append_47 ?_
    refine zp_X2_3 rfl zw_83 dX2_append_48 (fun S4 => ?_)
    refine zg_iconst (v := 1) dX2_append_51 (by decide) ?_
    exact zg_zret rfl dX2_append_52
  · refine zg_iconst (v := 0) dX2_append_9 (by decide) ?_
    exact zg_zret rfl dX2_append_10
def fX2_append (N : Nat) (S : zb_S) (a1 : Int32) (a2 : Int32) (a3 : Int32) : Option (Int32 × zb_S) := fX2_append_0 N S a1 a2 a3
theorem zcX2_append {l : Launch} {G : zb_G} (N : Nat) (S : zb_S) (a1 : Int32) (a2 : Int32) (a3 : Int32) : zb_C zb_eI l G 0 yX2_append cX2_append 4 (some .boolean) [.ref (zb_ad G 14), .int a1, .int a2, .int a3] S (fX2_append N S a1 a2 a3) :=
  zb_C.of (by decide +kernel) rfl (Nat.le_of_ble_eq_true rfl) rfl (gX2_append_0 N S a1 a2 a3)
-- X2_latest
def fX2_latest_4b (N : Nat) (k4 : zb_S → Int32 → Int32 → Option (Int32 × zb_S)) (S : zb_S) (l1 : Int32) (l2 : Int32) : Option (Int32 × zb_S) :=
  if (zb_i S 14 3) ≤ l2 then
    some (l1, S)
  else
    if zb_in l2 (zb_sz 15) then
    zb_let (if l1 < (zb_a S 15 (Int32.toNatClampNeg l2)) then (zb_a S 15 (Int32.toNatClampNeg l2)) else l1) (fun x1 : Int32 =>
    zb_let (l2 + 1) (fun x2 : Int32 =>
    k4 S x1 x2)) else none
set_option maxHeartbeats 4000000 in
set_option maxRecDepth 100000 in
theorem gX2_latest_4b {l : Launch} {G : zb_G} (N : Nat) (k4 : zb_S → Int32 → Int32 → Option (Int32 × zb_S)) (hk4 : ∀ (S : zb_S) (l1 : Int32) (l2 : Int32), zb_Go zb_eI l G 0 RX2 cX2_latest 3 (some .int) 4 [(0, .ref (zb_ad G 14)), (1, .int l1), (2, .int l2)] [] S (k4 S l1 l2)) (S : zb_S) (l1 : Int32) (l2 : Int32) : zb_Go zb_eI l G 0 RX2 cX2_latest 3 (some .int) 4 [(0, .ref (zb_ad G 14)), (1, .int l1), (2, .int l2)] [] S (fX2_latest_4b N k4 S l1 l2) := by
  unfold fX2_latest_4b
  refine zg_iload_n 2 dX2_latest_4 rfl rfl ?_
  refine zg_aload_n 0 dX2_latest_5 rfl rfl ?_
  refine zq_X2_3 rfl zw_83 dX2_latest_6 ?_
  refine zg_icmp_ge 29 dX2_latest_9 (by decide) ?_ ?_
  · refine zg_iload_n 1 dX2_latest_29 rfl rfl ?_
    exact zg_iret rfl dX2_latest_30
  · refine zg_iload_n 1 dX2_latest_12 rfl rfl ?_
    refine zg_aload_n 0 dX2_latest_13 rfl rfl ?_
    refine zq_X2_0 rfl rfl zw_80 dX2_latest_14 ?_
    refine zg_iload_n 2 dX2_latest_17 rfl rfl ?_
    refine zg_iald rfl dX2_latest_18 ?_
    refine zg_mmax zw_662 zw_70 zw_71 zw_72 (Nat.le_of_ble_eq_true rfl) dX2_latest_19 ?_
    refine zg_istore_nL (fun x1 => [(1, .int x1), (0, .ref (zb_ad G 14)), (2, .int l2)]) dX2_latest_22 rfl (by decide) (fun _ => rfl) (fun x1 => ?_)
    refine zg_iincL (fun x2 => [(2, .int x2), (1, .int x1), (0, .ref (zb_ad G 14))]) 2 dX2_latest_23 rfl rfl (by decide) (fun _ => rfl) (fun x2 => ?_)
    refine zg_goto (tgt := 4) dX2_latest_26 (by decide) ?_
    refine zg_sub [2, 1, 0] rfl ?_
    exact hk4 S x1 x2
def fX2_latest_4 (N : Nat) : Nat → zb_S → Int32 → Int32 → Option (Int32 × zb_S)
  | 0, _, _, _ => none
  | n + 1, S, l1, l2 => fX2_latest_4b N (fX2_latest_4 N n) S l1 l2
set_option maxHeartbeats 4000000 in
set_option maxRecDepth 100000 in
theorem gX2_latest_4 {l : Launch} {G : zb_G} (N : Nat) : ∀ (n : Nat) (S : zb_S) (l1 : Int32) (l2 : Int32), zb_Go zb_eI l G 0 RX2 cX2_latest 3 (some .int) 4 [(0, .ref (zb_ad G 14)), (1, .int l1), (2, .int l2)] [] S (fX2_latest_4 N n S l1 l2) := by
  intro n
  induction n with
  | zero => intros; exact zg_none
  | succ n ih =>
    intro S l1 l2
    exact gX2_latest_4b N (fX2_latest_4 N n) ih S l1 l2
def fX2_latest_0 (N : Nat) (S : zb_S) : Option (Int32 × zb_S) :=
  fX2_latest_4 N N S (-1) 0
set_option maxHeartbeats 4000000 in
set_option maxRecDepth 100000 in
theorem gX2_latest_0 {l : Launch} {G : zb_G} (N : Nat) (S : zb_S) : zb_Go zb_eI l G 0 RX2 cX2_latest 3 (some .int) 0 [(0, .ref (zb_ad G 14))] [] S (fX2_latest_0 N S) := by
  unfold fX2_latest_0
  refine zg_iconst (v := (-1)) dX2_latest_0 (by decide) ?_
  refine zg_istore_n (lv' := [(1, .int (-1)), (0, .ref (zb_ad G 14))]) dX2_latest_1 rfl (by decide) rfl ?_
  refine zg_iconst (v := 0) dX2_latest_2 (by decide) ?_
  refine zg_istore_n (lv' := [(2, .int 0), (1, .int (-1)), (0, .ref (zb_ad G 14))]) dX2_latest_3 rfl (by decide) rfl ?_
  refine zg_sub [2, 1, 0] rfl ?_
  exact gX2_latest_4 N N S (-1) 0
def fX2_latest (N : Nat) (S : zb_S) : Option (Int32 × zb_S) := fX2_latest_0 N S
theorem zcX2_latest {l : Launch} {G : zb_G} (N : Nat) (S : zb_S) : zb_C zb_eI l G 0 yX2_latest cX2_latest 3 (some .int) [.ref (zb_ad G 14)] S (fX2_latest N S) :=
  zb_C.of (by decide +kernel) rfl (Nat.le_of_ble_eq_true rfl) rfl (gX2_latest_0 N S)
-- X2_soBehind
def fX2_soBehind_46 (N : Nat) (k2 : zb_S → Int32 → Int32 → Int32 → Option (Int32 × zb_S)) (S : zb_S) (l1 : Int32) (l2 : Int32) (l3 : Int32) : Option (Int32 × zb_S) :=
  zb_let (l3 + 1) (fun x1 : Int32 =>
  k2 S l1 l2 x1)
set_option maxHeartbeats 4000000 in
set_option maxRecDepth 100000 in
theorem gX2_soBehind_46 {l : Launch} {G : zb_G} (N : Nat) (k2 : zb_S → Int32 → Int32 → Int32 → Option (Int32 × zb_S)) (hk2 : ∀ (S : zb_S) (l1 : Int32) (l2 : Int32) (l3 : Int32), zb_Go zb_eI l G 0 RX2 cX2_soBehind 4 (some .boolean) 2 [(0, .ref (zb_ad G 14)), (1, .int l1), (2, .int l2), (3, .int l3)] [] S (k2 S l1 l2 l3)) (S : zb_S) (l1 : Int32) (l2 : Int32) (l3 : Int32) : zb_Go zb_eI l G 0 RX2 cX2_soBehind 4 (some .boolean) 46 [(0, .ref (zb_ad G 14)), (1, .int l1), (2, .int l2), (3, .int l3)] [] S (fX2_soBehind_46 N k2 S l1 l2 l3) := by
  unfold fX2_soBehind_46
  refine zg_iincL (fun x1 => [(3, .int x1), (0, .ref (zb_ad G 14)), (1, .int l1), (2, .int l2)]) 3 dX2_soBehind_46 rfl rfl (by decide) (fun _ => rfl) (fun x1 => ?_)
  refine zg_goto (tgt := 2) dX2_soBehind_49 (by decide) ?_
  refine zg_sub [1, 2, 3, 0] rfl ?_
  exact hk2 S l1 l2 x1
def fX2_soBehind_35 (N : Nat) (k2 : zb_S → Int32 → Int32 → Int32 → Option (Int32 × zb_S)) (S : zb_S) (l1 : Int32) (l2 : Int32) (l3 : Int32) (s0 : Int32) : Option (Int32 × zb_S) :=
  if zb_in l3 (zb_sz 17) then
  if s0 = (zb_a S 17 (Int32.toNatClampNeg l3)) then
    fX2_soBehind_46 N k2 S l1 l2 l3
  else
    if (0 : Int32) = 0 ∨ (0 : Int32) = 1 then some (0, S) else none else none
set_option maxHeartbeats 4000000 in
set_option maxRecDepth 100000 in
theorem gX2_soBehind_35 {l : Launch} {G : zb_G} (N : Nat) (k2 : zb_S → Int32 → Int32 → Int32 → Option (Int32 × zb_S)) (hk2 : ∀ (S : zb_S) (l1 : Int32) (l2 : Int32) (l3 : Int32), zb_Go zb_eI l G 0 RX2 cX2_soBehind 4 (some .boolean) 2 [(0, .ref (zb_ad G 14)), (1, .int l1), (2, .int l2), (3, .int l3)] [] S (k2 S l1 l2 l3)) (S : zb_S) (l1 : Int32) (l2 : Int32) (l3 : Int32) (s0 : Int32) : zb_Go zb_eI l G 0 RX2 cX2_soBehind 4 (some .boolean) 35 [(0, .ref (zb_ad G 14)), (1, .int l1), (2, .int l2), (3, .int l3)] [.int s0] S (fX2_soBehind_35 N k2 S l1 l2 l3 s0) := by
  unfold fX2_soBehind_35
  refine zg_aload_n 0 dX2_soBehind_35 rfl rfl ?_
  refine zq_X2_2 rfl rfl zw_82 dX2_soBehind_36 ?_
  refine zg_iload_n 3 dX2_soBehind_39 rfl rfl ?_
  refine zg_iald rfl dX2_soBehind_40 ?_
  refine zg_icmp_eq 46 dX2_soBehind_41 (by decide) ?_ ?_
  · exact gX2_soBehind_46 N k2 hk2 S l1 l2 l3
  · refine zg_iconst (v := 0) dX2_soBehind_44 (by decide) ?_
    exact zg_zret rfl dX2_soBehind_45
def fX2_soBehind_2b (N : Nat) (k2 : zb_S → Int32 → Int32 → Int32 → Option (Int32 × zb_S)) (S : zb_S) (l1 : Int32) (l2 : Int32) (l3 : Int32) : Option (Int32 × zb_S) :=
  if (zb_i S 14 3) ≤ l3 then
    if (1 : Int32) = 0 ∨ (1 : Int32) = 1 then some (1, S) else none
  else
    if zb_in l3 (zb_sz 15) then
    if (zb_a S 15 (Int32.toNatClampNeg l3)) = l1 then
      if zb_in l3 (zb_sz 16) then
      if (zb_a S 16 (Int32.toNatClampNeg l3)) = l2 then
        fX2_soBehind_35 N k2 S l1 l2 l3 1
      else
        fX2_soBehind_35 N k2 S l1 l2 l3 0 else none
    else
      fX2_soBehind_46 N k2 S l1 l2 l3 else none
set_option maxHeartbeats 4000000 in
set_option maxRecDepth 100000 in
theorem gX2_soBehind_2b {l : Launch} {G : zb_G} (N : Nat) (k2 : zb_S → Int32 → Int32 → Int32 → Option (Int32 × zb_S)) (hk2 : ∀ (S : zb_S) (l1 : Int32) (l2 : Int32) (l3 : Int32), zb_Go zb_eI l G 0 RX2 cX2_soBehind 4 (some .boolean) 2 [(0, .ref (zb_ad G 14)), (1, .int l1), (2, .int l2), (3, .int l3)] [] S (k2 S l1 l2 l3)) (S : zb_S) (l1 : Int32) (l2 : Int32) (l3 : Int32) : zb_Go zb_eI l G 0 RX2 cX2_soBehind 4 (some .boolean) 2 [(0, .ref (zb_ad G 14)), (1, .int l1), (2, .int l2), (3, .int l3)] [] S (fX2_soBehind_2b N k2 S l1 l2 l3) := by
  unfold fX2_soBehind_2b
  refine zg_iload_n 3 dX2_soBehind_2 rfl rfl ?_
  refine zg_aload_n 0 dX2_soBehind_3 rfl rfl ?_
  refine zq_X2_3 rfl zw_83 dX2_soBehind_4 ?_
  refine zg_icmp_ge 52 dX2_soBehind_7 (by decide) ?_ ?_
  · refine zg_iconst (v := 1) dX2_soBehind_52 (by decide) ?_
    exact zg_zret rfl dX2_soBehind_53
  · refine zg_aload_n 0 dX2_soBehind_10 rfl rfl ?_
    refine zq_X2_0 rfl rfl zw_80 dX2_soBehind_11 ?_
    refine zg_iload_n 3 dX2_soBehind_14 rfl rfl ?_
    refine zg_iald rfl dX2_soBehind_15 ?_
    refine zg_iload_n 1 dX2_soBehind_16 rfl rfl ?_
    refine zg_icmp_ne 46 dX2_soBehind_17 (by decide) ?_ ?_
    · exact gX2_soBehind_46 N k2 hk2 S l1 l2 l3
    · refine zg_aload_n 0 dX2_soBehind_20 rfl rfl ?_
      refine zq_X2_1 rfl rfl zw_81 dX2_soBehind_21 ?_
      refine zg_iload_n 3 dX2_soBehind_24 rfl rfl ?_
      refine zg_iald rfl dX2_soBehind_25 ?_
      refine zg_iload_n 2 dX2_soBehind_26 rfl rfl ?_
      refine zg_icmp_ne 34 dX2_soBehind_27 (by decide) ?_ ?_
      · refine zg_iconst (v := 0) dX2_soBehind_34 (by decide) ?_
        exact gX2_soBehind_35 N k2 hk2 S l1 l2 l3 0
      · refine zg_iconst (v := 1) dX2_soBehind_30 (by decide) ?_
        refine zg_goto (tgt := 35) dX2_soBehind_31 (by decide) ?_
        exact gX2_soBehind_35 N k2 hk2 S l1 l2 l3 1
def fX2_soBehind_2 (N : Nat) : Nat → zb_S → Int32 → Int32 → Int32 → Option (Int32 × zb_S)
  | 0, _, _, _, _ => none
  | n + 1, S, l1, l2, l3 => fX2_soBehind_2b N (fX2_soBehind_2 N n) S l1 l2 l3
set_option maxHeartbeats 4000000 in
set_option maxRecDepth 100000 in
theorem gX2_soBehind_2 {l : Launch} {G : zb_G} (N : Nat) : ∀ (n : Nat) (S : zb_S) (l1 : Int32) (l2 : Int32) (l3 : Int32), zb_Go zb_eI l G 0 RX2 cX2_soBehind 4 (some .boolean) 2 [(0, .ref (zb_ad G 14)), (1, .int l1), (2, .int l2), (3, .int l3)] [] S (fX2_soBehind_2 N n S l1 l2 l3) := by
  intro n
  induction n with
  | zero => intros; exact zg_none
  | succ n ih =>
    intro S l1 l2 l3
    exact gX2_soBehind_2b N (fX2_soBehind_2 N n) ih S l1 l2 l3
def fX2_soBehind_0 (N : Nat) (S : zb_S) (a1 : Int32) (a2 : Int32) : Option (Int32 × zb_S) :=
  fX2_soBehind_2 N N S a1 a2 0
set_option maxHeartbeats 4000000 in
set_option maxRecDepth 100000 in
theorem gX2_soBehind_0 {l : Launch} {G : zb_G} (N : Nat) (S : zb_S) (a1 : Int32) (a2 : Int32) : zb_Go zb_eI l G 0 RX2 cX2_soBehind 4 (some .boolean) 0 [(0, .ref (zb_ad G 14)), (1, .int a1), (2, .int a2)] [] S (fX2_soBehind_0 N S a1 a2) := by
  unfold fX2_soBehind_0
  refine zg_iconst (v := 0) dX2_soBehind_0 (by decide) ?_
  refine zg_istore_n (lv' := [(3, .int 0), (0, .ref (zb_ad G 14)), (1, .int a1), (2, .int a2)]) dX2_soBehind_1 rfl (by decide) rfl ?_
  refine zg_sub [1, 2, 3, 0] rfl ?_
  exact gX2_soBehind_2 N N S a1 a2 0
def fX2_soBehind (N : Nat) (S : zb_S) (a1 : Int32) (a2 : Int32) : Option (Int32 × zb_S) := fX2_soBehind_0 N S a1 a2
theorem zcX2_soBehind {l : Launch} {G : zb_G} (N : Nat) (S : zb_S) (a1 : Int32) (a2 : Int32) : zb_C zb_eI l G 0 yX2_soBehind cX2_soBehind 4 (some .boolean) [.ref (zb_ad G 14), .int a1, .int a2] S (fX2_soBehind N S a1 a2) :=
  zb_C.of (by decide +kernel) rfl (Nat.le_of_ble_eq_true rfl) rfl (gX2_soBehind_0 N S a1 a2)
-- X2_allSo
def fX2_allSo_7b (N : Nat) (b1 : Nat) (k7 : zb_S → Int32 → Int32 → Option (Int32 × zb_S)) (S : zb_S) (l2 : Int32) (l3 : Int32) : Option (Int32 × zb_S) :=
  if l2 < l3 then
    if (1 : Int32) = 0 ∨ (1 : Int32) = 1 then some (1, S) else none
  else
    if zb_in 55 (zb_sz (b1 + 1)) then
    zb_bind (fX2_soBehind N S l3 (zb_a S (b1 + 1) (Int32.toNatClampNeg 55))) (fun r2 S1 =>
    if r2 = 0 then
      if (0 : Int32) = 0 ∨ (0 : Int32) = 1 then some (0, S1) else none
    else
      zb_bind (fX1_advanceOnce N b1 S1) (fun _ S3 =>
      zb_let (l3 + 1) (fun x5 : Int32 =>
      k7 S3 l2 x5))) else none
set_option maxHeartbeats 4000000 in
set_option maxRecDepth 100000 in
theorem gX2_allSo_7b {l : Launch} {G : zb_G} (N : Nat) (b1 : Nat) (h1 : zb_kd b1 = 1) (k7 : zb_S → Int32 → Int32 → Option (Int32 × zb_S)) (hk7 : ∀ (S : zb_S) (l2 : Int32) (l3 : Int32), zb_Go zb_eI l G 4 RX2 cX2_allSo 4 (some .boolean) 7 [(0, .ref (zb_ad G 14)), (1, .ref (zb_ad G b1)), (2, .int l2), (3, .int l3)] [] S (k7 S l2 l3)) (S : zb_S) (l2 : Int32) (l3 : Int32) : zb_Go zb_eI l G 4 RX2 cX2_allSo 4 (some .boolean) 7 [(0, .ref (zb_ad G 14)), (1, .ref (zb_ad G b1)), (2, .int l2), (3, .int l3)] [] S (fX2_allSo_7b N b1 k7 S l2 l3) := by
  unfold fX2_allSo_7b
  refine zg_iload_n 3 dX2_allSo_7 rfl rfl ?_
  refine zg_iload_n 2 dX2_allSo_8 rfl rfl ?_
  refine zg_icmp_gt 39 dX2_allSo_9 (by decide) ?_ ?_
  · refine zg_iconst (v := 1) dX2_allSo_39 (by decide) ?_
    exact zg_zret rfl dX2_allSo_40
  · refine zg_aload_n 0 dX2_allSo_12 rfl rfl ?_
    refine zg_iload_n 3 dX2_allSo_13 rfl rfl ?_
    refine zg_aload_n 1 dX2_allSo_14 rfl rfl ?_
    refine zq_X1_4 h1 (zk_X1_4 h1).1 zw_657 dX2_allSo_15 ?_
    refine zg_bipush (v := 55) dX2_allSo_18 (by decide) ?_
    refine zg_iald (zk_X1_4 h1).2.1 dX2_allSo_20 ?_
    refine zg_callVI (As := [.int l3, .int (zb_a S (b1 + 1) (Int32.toNatClampNeg 55))]) (rest := []) 2 (zcX2_soBehind N S l3 (zb_a S (b1 + 1) (Int32.toNatClampNeg 55))) (by decide) (by decide) rfl (by decide) rfl zw_663 zw_664 zw_665 zw_34 zw_666 (by decide +kernel) rfl rfl (Nat.le_of_ble_eq_true rfl) dX2_allSo_21 (fun r2 S1 => ?_)
    refine zg_if_ne 29 dX2_allSo_24 (by decide) ?_ ?_
    · refine zg_aload_n 1 dX2_allSo_29 rfl rfl ?_
      refine zg_callVV (As := []) (rest := []) 0 (zcX1_advanceOnce N b1 h1 S1) (by decide) (by decide) h1 (by decide) rfl zw_667 zw_407 zw_408 zw_19 zw_409 (by decide +kernel) rfl rfl (Nat.le_of_ble_eq_true rfl) dX2_allSo_30 (fun S3 => ?_)
      refine zg_iincL (fun x5 => [(3, .int x5), (0, .ref (zb_ad G 14)), (1, .ref (zb_ad G b1)), (2, .int l2)]) 3 dX2_allSo_33 rfl rfl (by decide) (fun _ => rfl) (fun x5 => ?_)
      refine zg_goto (tgt := 7) dX2_allSo_36 (by decide) ?_
      refine zg_sub [1, 2, 3, 0] rfl ?_
      exact hk7 S3 l2 x5
    · refine zg_iconst (v := 0) dX2_allSo_27 (by decide) ?_
      exact zg_zret rfl dX2_allSo_28
def fX2_allSo_7 (N : Nat) (b1 : Nat) : Nat → zb_S → Int32 → Int32 → Option (Int32 × zb_S)
  | 0, _, _, _ => none
  | n + 1, S, l2, l3 => fX2_allSo_7b N b1 (fX2_allSo_7 N b1 n) S l2 l3
set_option maxHeartbeats 4000000 in
set_option maxRecDepth 100000 in
theorem gX2_allSo_7 {l : Launch} {G : zb_G} (N : Nat) (b1 : Nat) (h1 : zb_kd b1 = 1) : ∀ (n : Nat) (S : zb_S) (l2 : Int32) (l3 : Int32), zb_Go zb_eI l G 4 RX2 cX2_allSo 4 (some .boolean) 7 [(0, .ref (zb_ad G 14)), (1, .ref (zb_ad G b1)), (2, .int l2), (3, .int l3)] [] S (fX2_allSo_7 N b1 n S l2 l3) := by
  intro n
  induction n with
  | zero => intros; exact zg_none
  | succ n ih =>
    intro S l2 l3
    exact gX2_allSo_7b N b1 h1 (fX2_allSo_7 N b1 n) ih S l2 l3
def fX2_allSo_0 (N : Nat) (b1 : Nat) (S : zb_S) : Option (Int32 × zb_S) :=
  zb_bind (fX2_latest N S) (fun r2 S1 =>
  fX2_allSo_7 N b1 N S1 r2 0)
set_option maxHeartbeats 4000000 in
set_option maxRecDepth 100000 in
theorem gX2_allSo_0 {l : Launch} {G : zb_G} (N : Nat) (b1 : Nat) (h1 : zb_kd b1 = 1) (S : zb_S) : zb_Go zb_eI l G 4 RX2 cX2_allSo 4 (some .boolean) 0 [(0, .ref (zb_ad G 14)), (1, .ref (zb_ad G b1))] [] S (fX2_allSo_0 N b1 S) := by
  unfold fX2_allSo_0
  refine zg_aload_n 0 dX2_allSo_0 rfl rfl ?_
  refine zg_callVI (As := []) (rest := []) 0 (zcX2_latest N S) (by decide) (by decide) rfl (by decide) rfl zw_658 zw_659 zw_660 zw_34 zw_661 (by decide +kernel) rfl rfl (Nat.le_of_ble_eq_true rfl) dX2_allSo_1 (fun r2 S1 => ?_)
  refine zg_istore_n (lv' := [(2, .int r2), (0, .ref (zb_ad G 14)), (1, .ref (zb_ad G b1))]) dX2_allSo_4 rfl (by decide) rfl ?_
  refine zg_iconst (v := 0) dX2_allSo_5 (by decide) ?_
  refine zg_istore_n (lv' := [(3, .int 0), (2, .int r2), (0, .ref (zb_ad G 14)), (1, .ref (zb_ad G b1))]) dX2_allSo_6 rfl (by decide) rfl ?_
  refine zg_sub [2, 3, 1, 0] rfl ?_
  exact gX2_allSo_7 N b1 h1 N S1 r2 0
def fX2_allSo (N : Nat) (b1 : Nat) (S : zb_S) : Option (Int32 × zb_S) := fX2_allSo_0 N b1 S
theorem zcX2_allSo {l : Launch} {G : zb_G} (N : Nat) (b1 : Nat) (h1 : zb_kd b1 = 1) (S : zb_S) : zb_C zb_eI l G 4 yX2_allSo cX2_allSo 4 (some .boolean) [.ref (zb_ad G 14), .ref (zb_ad G b1)] S (fX2_allSo N b1 S) :=
  zb_C.of (by decide +kernel) rfl (Nat.le_of_ble_eq_true rfl) rfl (gX2_allSo_0 N b1 h1 S)
-- X4_append
def fX4_append_0 (N : Nat) (S : zb_S) (a1 : Int32) : Option (Int32 × zb_S) :=
  if (zb_i S 1 1) < 40 then
    if zb_in (zb_i S 1 1) (zb_sz 2) then zb_let (zb_pa S 2 (Int32.toNatClampNeg (zb_i S 1 1)) a1) (fun S1 : zb_S =>
    zb_let (zb_pi S1 1 1 ((zb_i S1 1 1) + 1)) (fun S2 : zb_S =>
    if (1 : Int32) = 0 ∨ (1 : Int32) = 1 then some (1, S2) else none)) else none
  else
    if (0 : Int32) = 0 ∨ (0 : Int32) = 1 then some (0, S) else none
set_option maxHeartbeats 4000000 in
set_option maxRecDepth 100000 in
theorem gX4_append_0 {l : Launch} {G : zb_G} (N : Nat) (S : zb_S) (a1 : Int32) : zb_Go zb_eI l G 0 RX4 cX4_append 2 (some .boolean) 0 [(0, .ref (zb_ad G 1)), (1, .int a1)] [] S (fX4_append_0 N S a1) := by
  unfold fX4_append_0
  refine zg_aload_n 0 dX4_append_0 rfl rfl ?_
  refine zq_X4_1 rfl zw_46 dX4_append_1 ?_
  refine zg_bipush (v := 40) dX4_append_4 (by decide) ?_
  refine zg_icmp_lt 11 dX4_append_6 (by decide) ?_ ?_
  · refine zg_aload_n 0 dX4_append_11 rfl rfl ?_
    refine zq_X4_0 rfl rfl zw_45 dX4_append_12 ?_
    refine zg_aload_n 0 dX4_append_15 rfl rfl ?_
    refine zq_X4_1 rfl zw_46 dX4_append_16 ?_
    refine zg_iload_n 1 dX4_append_19 rfl rfl ?_
    refine zg_iast rfl dX4_append_20 (fun S1 => ?_)
    refine zg_aload_n 0 dX4_append_21 rfl rfl ?_
    refine zg_dup dX4_append_22 rfl ?_
    refine zq_X4_1 rfl zw_46 dX4_append_23 ?_
    refine zg_iconst (v := 1) dX4_append_26 (by decide) ?_
    refine zg_iadd dX4_append_27 ?_
    refine zp_X4_1 rfl zw_46 dX4_append_28 (fun S2 => ?_)
    refine zg_iconst (v := 1) dX4_append_31 (by decide) ?_
    exact zg_zret rfl dX4_append_32
  · refine zg_iconst (v := 0) dX4_append_9 (by decide) ?_
    exact zg_zret rfl dX4_append_10
def fX4_append (N : Nat) (S : zb_S) (a1 : Int32) : Option (Int32 × zb_S) := fX4_append_0 N S a1
theorem zcX4_append {l : Launch} {G : zb_G} (N : Nat) (S : zb_S) (a1 : Int32) : zb_C zb_eI l G 0 yX4_append cX4_append 2 (some .boolean) [.ref (zb_ad G 1), .int a1] S (fX4_append N S a1) :=
  zb_C.of (by decide +kernel) rfl (Nat.le_of_ble_eq_true rfl) rfl (gX4_append_0 N S a1)
-- X4_figure
def fX4_figure_0 (N : Nat) (S : zb_S) (a1 : Int32) : Option (Int32 × zb_S) :=
  if zb_in a1 (zb_sz 2) then
  some ((zb_a S 2 (Int32.toNatClampNeg a1)) - 48, S) else none
set_option maxHeartbeats 4000000 in
set_option maxRecDepth 100000 in
theorem gX4_figure_0 {l : Launch} {G : zb_G} (N : Nat) (S : zb_S) (a1 : Int32) : zb_Go zb_eI l G 0 RX4 cX4_figure 2 (some .int) 0 [(0, .ref (zb_ad G 1)), (1, .int a1)] [] S (fX4_figure_0 N S a1) := by
  unfold fX4_figure_0
  refine zg_aload_n 0 dX4_figure_0 rfl rfl ?_
  refine zq_X4_0 rfl rfl zw_45 dX4_figure_1 ?_
  refine zg_iload_n 1 dX4_figure_4 rfl rfl ?_
  refine zg_iald rfl dX4_figure_5 ?_
  refine zg_bipush (v := 48) dX4_figure_6 (by decide) ?_
  refine zg_isub dX4_figure_8 ?_
  exact zg_iret rfl dX4_figure_9
def fX4_figure (N : Nat) (S : zb_S) (a1 : Int32) : Option (Int32 × zb_S) := fX4_figure_0 N S a1
theorem zcX4_figure {l : Launch} {G : zb_G} (N : Nat) (S : zb_S) (a1 : Int32) : zb_C zb_eI l G 0 yX4_figure cX4_figure 2 (some .int) [.ref (zb_ad G 1), .int a1] S (fX4_figure N S a1) :=
  zb_C.of (by decide +kernel) rfl (Nat.le_of_ble_eq_true rfl) rfl (gX4_figure_0 N S a1)
-- X4_isFigure
def fX4_isFigure_0 (N : Nat) (S : zb_S) (a1 : Int32) (a2 : Int32) (a3 : Int32) : Option (Int32 × zb_S) :=
  zb_bind (fX4_figure N S a1) (fun r2 S1 =>
  if r2 < a2 then
    if (0 : Int32) = 0 ∨ (0 : Int32) = 1 then some (0, S1) else none
  else
    zb_bind (fX4_figure N S1 a1) (fun r4 S3 =>
    if a3 < r4 then
      if (0 : Int32) = 0 ∨ (0 : Int32) = 1 then some (0, S3) else none
    else
      if (1 : Int32) = 0 ∨ (1 : Int32) = 1 then some (1, S3) else none))
set_option maxHeartbeats 4000000 in
set_option maxRecDepth 100000 in
theorem gX4_isFigure_0 {l : Launch} {G : zb_G} (N : Nat) (S : zb_S) (a1 : Int32) (a2 : Int32) (a3 : Int32) : zb_Go zb_eI l G 1 RX4 cX4_isFigure 4 (some .boolean) 0 [(0, .ref (zb_ad G 1)), (1, .int a1), (2, .int a2), (3, .int a3)] [] S (fX4_isFigure_0 N S a1 a2 a3) := by
  unfold fX4_isFigure_0
  refine zg_aload_n 0 dX4_isFigure_0 rfl rfl ?_
  refine zg_iload_n 1 dX4_isFigure_1 rfl rfl ?_
  refine zg_callVI (As := [.int a1]) (rest := []) 1 (zcX4_figure N S a1) (by decide) (by decide) rfl (by decide) rfl zw_144 zw_145 zw_146 zw_15 zw_147 (by decide +kernel) rfl rfl (Nat.le_of_ble_eq_true rfl) dX4_isFigure_2 (fun r2 S1 => ?_)
  refine zg_iload_n 2 dX4_isFigure_5 rfl rfl ?_
  refine zg_icmp_lt 22 dX4_isFigure_6 (by decide) ?_ ?_
  · refine zg_iconst (v := 0) dX4_isFigure_22 (by decide) ?_
    exact zg_zret rfl dX4_isFigure_23
  · refine zg_aload_n 0 dX4_isFigure_9 rfl rfl ?_
    refine zg_iload_n 1 dX4_isFigure_10 rfl rfl ?_
    refine zg_callVI (As := [.int a1]) (rest := []) 1 (zcX4_figure N S1 a1) (by decide) (by decide) rfl (by decide) rfl zw_144 zw_145 zw_146 zw_15 zw_147 (by decide +kernel) rfl rfl (Nat.le_of_ble_eq_true rfl) dX4_isFigure_11 (fun r4 S3 => ?_)
    refine zg_iload_n 3 dX4_isFigure_14 rfl rfl ?_
    refine zg_icmp_gt 22 dX4_isFigure_15 (by decide) ?_ ?_
    · refine zg_iconst (v := 0) dX4_isFigure_22 (by decide) ?_
      exact zg_zret rfl dX4_isFigure_23
    · refine zg_iconst (v := 1) dX4_isFigure_18 (by decide) ?_
      refine zg_goto (tgt := 23) dX4_isFigure_19 (by decide) ?_
      exact zg_zret rfl dX4_isFigure_23
def fX4_isFigure (N : Nat) (S : zb_S) (a1 : Int32) (a2 : Int32) (a3 : Int32) : Option (Int32 × zb_S) := fX4_isFigure_0 N S a1 a2 a3
theorem zcX4_isFigure {l : Launch} {G : zb_G} (N : Nat) (S : zb_S) (a1 : Int32) (a2 : Int32) (a3 : Int32) : zb_C zb_eI l G 1 yX4_isFigure cX4_isFigure 4 (some .boolean) [.ref (zb_ad G 1), .int a1, .int a2, .int a3] S (fX4_isFigure N S a1 a2 a3) :=
  zb_C.of (by decide +kernel) rfl (Nat.le_of_ble_eq_true rfl) rfl (gX4_isFigure_0 N S a1 a2 a3)
-- X4_zoneEndingAt
def fX4_zoneEndingAt_0 (N : Nat) (S : zb_S) (a1 : Int32) : Option (Int32 × zb_S) :=
  zb_bind (fX4_figure N S (a1 - 1)) (fun r2 S1 =>
  zb_bind (fX4_figure N S1 a1) (fun r4 S3 =>
  some ((r2 * 10) + r4, S3)))
set_option maxHeartbeats 4000000 in
set_option maxRecDepth 100000 in
theorem gX4_zoneEndingAt_0 {l : Launch} {G : zb_G} (N : Nat) (S : zb_S) (a1 : Int32) : zb_Go zb_eI l G 1 RX4 cX4_zoneEndingAt 2 (some .int) 0 [(0, .ref (zb_ad G 1)), (1, .int a1)] [] S (fX4_zoneEndingAt_0 N S a1) := by
  unfold fX4_zoneEndingAt_0
  refine zg_aload_n 0 dX4_zoneEndingAt_0 rfl rfl ?_
  refine zg_iload_n 1 dX4_zoneEndingAt_1 rfl rfl ?_
  refine zg_iconst (v := 1) dX4_zoneEndingAt_2 (by decide) ?_
  refine zg_isub dX4_zoneEndingAt_3 ?_
  refine zg_callVI (As := [.int (a1 - 1)]) (rest := []) 1 (zcX4_figure N S (a1 - 1)) (by decide) (by decide) rfl (by decide) rfl zw_144 zw_145 zw_146 zw_15 zw_147 (by decide +kernel) rfl rfl (Nat.le_of_ble_eq_true rfl) dX4_zoneEndingAt_4 (fun r2 S1 => ?_)
  refine zg_bipush (v := 10) dX4_zoneEndingAt_7 (by decide) ?_
  refine zg_imul dX4_zoneEndingAt_9 ?_
  refine zg_aload_n 0 dX4_zoneEndingAt_10 rfl rfl ?_
  refine zg_iload_n 1 dX4_zoneEndingAt_11 rfl rfl ?_
  refine zg_callVI (As := [.int a1]) (rest := [.int (r2 * 10)]) 1 (zcX4_figure N S1 a1) (by decide) (by decide) rfl (by decide) rfl zw_144 zw_145 zw_146 zw_15 zw_147 (by decide +kernel) rfl rfl (Nat.le_of_ble_eq_true rfl) dX4_zoneEndingAt_12 (fun r4 S3 => ?_)
  refine zg_iadd dX4_zoneEndingAt_15 ?_
  exact zg_iret rfl dX4_zoneEndingAt_16
def fX4_zoneEndingAt (N : Nat) (S : zb_S) (a1 : Int32) : Option (Int32 × zb_S) := fX4_zoneEndingAt_0 N S a1
theorem zcX4_zoneEndingAt {l : Launch} {G : zb_G} (N : Nat) (S : zb_S) (a1 : Int32) : zb_C zb_eI l G 1 yX4_zoneEndingAt cX4_zoneEndingAt 2 (some .int) [.ref (zb_ad G 1), .int a1] S (fX4_zoneEndingAt N S a1) :=
  zb_C.of (by decide +kernel) rfl (Nat.le_of_ble_eq_true rfl) rfl (gX4_zoneEndingAt_0 N S a1)
-- X4_fitsCarton
def fX4_fitsCarton_0 (N : Nat) (S : zb_S) (a1 : Int32) (a2 : Int32) : Option (Int32 × zb_S) :=
  if 3 = 0 then none else
  if (a1 - a1 / 3 * 3) = 0 then
    if zb_in a1 (zb_sz 2) then
    if (zb_a S 2 (Int32.toNatClampNeg a1)) = 99 then
      if a2 = 0 then
        if (0 : Int32) = 0 ∨ (0 : Int32) = 1 then some (0, S) else none
      else
        if (1 : Int32) = 0 ∨ (1 : Int32) = 1 then some (1, S) else none
    else
      if (0 : Int32) = 0 ∨ (0 : Int32) = 1 then some (0, S) else none else none
  else if (a1 - a1 / 3 * 3) = 1 then
    zb_bind (fX4_isFigure N S a1 0 1) (fun r3 S2 =>
    if r3 = 0 then
      if (0 : Int32) = 0 ∨ (0 : Int32) = 1 then some (0, S2) else none
    else
      zb_bind (fX4_figure N S2 a1) (fun r5 S4 =>
      if ((a2 >>> ((r5 * 10) &&& 31)) &&& (1023 : Int32)) = 0 then
        if (0 : Int32) = 0 ∨ (0 : Int32) = 1 then some (0, S4) else none
      else
        if (1 : Int32) = 0 ∨ (1 : Int32) = 1 then some (1, S4) else none))
  else 
    zb_bind (fX4_isFigure N S a1 0 9) (fun r8 S7 =>
    if r8 = 0 then
      if (0 : Int32) = 0 ∨ (0 : Int32) = 1 then some (0, S7) else none
    else
      zb_bind (fX4_zoneEndingAt N S7 a1) (fun r10 S9 =>
      zb_bind (fX1_in N S9 a2 r10) (fun r12 S11 =>
      if r12 = 0 then
        if (0 : Int32) = 0 ∨ (0 : Int32) = 1 then some (0, S11) else none
      else
        if (1 : Int32) = 0 ∨ (1 : Int32) = 1 then some (1, S11) else none)))
set_option maxHeartbeats 4000000 in
set_option maxRecDepth 100000 in
theorem gX4_fitsCarton_0 {l : Launch} {G : zb_G} (N : Nat) (S : zb_S) (a1 : Int32) (a2 : Int32) : zb_Go zb_eI l G 2 RX4 cX4_fitsCarton 3 (some .boolean) 0 [(0, .ref (zb_ad G 1)), (1, .int a1), (2, .int a2)] [] S (fX4_fitsCarton_0 N S a1 a2) := by
  unfold fX4_fitsCarton_0
  refine zg_iload_n 1 dX4_fitsCarton_0 rfl rfl ?_
  refine zg_iconst (v := 3) dX4_fitsCarton_1 (by decide) ?_
  refine zg_irem dX4_fitsCarton_2 (fun _ => ?_)
  refine zg_if (fun q1 => ?_) (fun q1 => ?_)
  · refine zg_lookup dX4_fitsCarton_3 (by decide) (by rw [q1]; rfl) (by decide : (3 : Int) + 25 = (28 : Nat)) ?_
    refine zg_aload_n 0 dX4_fitsCarton_28 rfl rfl ?_
    refine zq_X4_0 rfl rfl zw_45 dX4_fitsCarton_29 ?_
    refine zg_iload_n 1 dX4_fitsCarton_32 rfl rfl ?_
    refine zg_iald rfl dX4_fitsCarton_33 ?_
    refine zg_bipush (v := 99) dX4_fitsCarton_34 (by decide) ?_
    refine zg_icmp_ne 47 dX4_fitsCarton_36 (by decide) ?_ ?_
    · refine zg_iconst (v := 0) dX4_fitsCarton_47 (by decide) ?_
      exact zg_zret rfl dX4_fitsCarton_48
    · refine zg_iload_n 2 dX4_fitsCarton_39 rfl rfl ?_
      refine zg_if_eq 47 dX4_fitsCarton_40 (by decide) ?_ ?_
      · refine zg_iconst (v := 0) dX4_fitsCarton_47 (by decide) ?_
        exact zg_zret rfl dX4_fitsCarton_48
      · refine zg_iconst (v := 1) dX4_fitsCarton_43 (by decide) ?_
        refine zg_goto (tgt := 48) dX4_fitsCarton_44 (by decide) ?_
        exact zg_zret rfl dX4_fitsCarton_48
  · refine zg_if (fun q6 => ?_) (fun q6 => ?_)
    · refine zg_lookup dX4_fitsCarton_3 (by decide) (by rw [q6]; rfl) (by decide : (3 : Int) + 46 = (49 : Nat)) ?_
      refine zg_aload_n 0 dX4_fitsCarton_49 rfl rfl ?_
      refine zg_iload_n 1 dX4_fitsCarton_50 rfl rfl ?_
      refine zg_iconst (v := 0) dX4_fitsCarton_51 (by decide) ?_
      refine zg_iconst (v := 1) dX4_fitsCarton_52 (by decide) ?_
      refine zg_callVI (As := [.int a1, .int 0, .int 1]) (rest := []) 3 (zcX4_isFigure N S a1 0 1) (by decide) (by decide) rfl (by decide) rfl zw_140 zw_141 zw_142 zw_15 zw_143 (by decide +kernel) rfl rfl (Nat.le_of_ble_eq_true rfl) dX4_fitsCarton_53 (fun r3 S2 => ?_)
      refine zg_if_eq 80 dX4_fitsCarton_56 (by decide) ?_ ?_
      · refine zg_iconst (v := 0) dX4_fitsCarton_80 (by decide) ?_
        exact zg_zret rfl dX4_fitsCarton_81
      · refine zg_iload_n 2 dX4_fitsCarton_59 rfl rfl ?_
        refine zg_aload_n 0 dX4_fitsCarton_60 rfl rfl ?_
        refine zg_iload_n 1 dX4_fitsCarton_61 rfl rfl ?_
        refine zg_callVI (As := [.int a1]) (rest := [.int a2]) 1 (zcX4_figure N S2 a1) (by decide) (by decide) rfl (by decide) rfl zw_144 zw_145 zw_146 zw_15 zw_147 (by decide +kernel) rfl rfl (Nat.le_of_ble_eq_true rfl) dX4_fitsCarton_62 (fun r5 S4 => ?_)
        refine zg_bipush (v := 10) dX4_fitsCarton_65 (by decide) ?_
        refine zg_imul dX4_fitsCarton_67 ?_
        refine zg_ishr dX4_fitsCarton_68 ?_
        refine zg_sipush (v := 1023) dX4_fitsCarton_69 (by decide) ?_
        refine zg_iand dX4_fitsCarton_72 ?_
        refine zg_if_eq 80 dX4_fitsCarton_73 (by decide) ?_ ?_
        · refine zg_iconst (v := 0) dX4_fitsCarton_80 (by decide) ?_
          exact zg_zret rfl dX4_fitsCarton_81
        · refine zg_iconst (v := 1) dX4_fitsCarton_76 (by decide) ?_
          refine zg_goto (tgt := 81) dX4_fitsCarton_77 (by decide) ?_
          exact zg_zret rfl dX4_fitsCarton_81
    · refine zg_lookup (off := 79) dX4_fitsCarton_3 (by decide) (by show Op.lookupswitch.offset [(0, 25), (1, 46)] 79 _ = 79; rw [lv_osw q1 (show (0 : Int32).toInt = 0 from by decide)]; rw [lv_osw q6 (show (1 : Int32).toInt = 1 from by decide)]; rfl) (by decide : (3 : Int) + 79 = (82 : Nat)) ?_
      refine zg_aload_n 0 dX4_fitsCarton_82 rfl rfl ?_
      refine zg_iload_n 1 dX4_fitsCarton_83 rfl rfl ?_
      refine zg_iconst (v := 0) dX4_fitsCarton_84 (by decide) ?_
      refine zg_bipush (v := 9) dX4_fitsCarton_85 (by decide) ?_
      refine zg_callVI (As := [.int a1, .int 0, .int 9]) (rest := []) 3 (zcX4_isFigure N S a1 0 9) (by decide) (by decide) rfl (by decide) rfl zw_140 zw_141 zw_142 zw_15 zw_143 (by decide +kernel) rfl rfl (Nat.le_of_ble_eq_true rfl) dX4_fitsCarton_87 (fun r8 S7 => ?_)
      refine zg_if_eq 109 dX4_fitsCarton_90 (by decide) ?_ ?_
      · refine zg_iconst (v := 0) dX4_fitsCarton_109 (by decide) ?_
        exact zg_zret rfl dX4_fitsCarton_110
      · refine zg_iload_n 2 dX4_fitsCarton_93 rfl rfl ?_
        refine zg_aload_n 0 dX4_fitsCarton_94 rfl rfl ?_
        refine zg_iload_n 1 dX4_fitsCarton_95 rfl rfl ?_
        refine zg_callVI (As := [.int a1]) (rest := [.int a2]) 1 (zcX4_zoneEndingAt N S7 a1) (by decide) (by decide) rfl (by decide) rfl zw_152 zw_153 zw_154 zw_15 zw_155 (by decide +kernel) rfl rfl (Nat.le_of_ble_eq_true rfl) dX4_fitsCarton_96 (fun r10 S9 => ?_)
        refine zg_callSI (As := [.int a2, .int r10]) (rest := []) 2 (zcX1_in N S9 a2 r10) (by decide) (by decide) zw_156 zw_157 zw_19 zw_158 (by decide +kernel) rfl rfl (Nat.le_of_ble_eq_true rfl) dX4_fitsCarton_99 (fun r12 S11 => ?_)
        refine zg_if_eq 109 dX4_fitsCarton_102 (by decide) ?_ ?_
        · refine zg_iconst (v := 0) dX4_fitsCarton_109 (by decide) ?_
          exact zg_zret rfl dX4_fitsCarton_110
        · refine zg_iconst (v := 1) dX4_fitsCarton_105 (by decide) ?_
          refine zg_goto (tgt := 110) dX4_fitsCarton_106 (by decide) ?_
          exact zg_zret rfl dX4_fitsCarton_110
def fX4_fitsCarton (N : Nat) (S : zb_S) (a1 : Int32) (a2 : Int32) : Option (Int32 × zb_S) := fX4_fitsCarton_0 N S a1 a2
theorem zcX4_fitsCarton {l : Launch} {G : zb_G} (N : Nat) (S : zb_S) (a1 : Int32) (a2 : Int32) : zb_C zb_eI l G 2 yX4_fitsCarton cX4_fitsCarton 3 (some .boolean) [.ref (zb_ad G 1), .int a1, .int a2] S (fX4_fitsCarton N S a1 a2) :=
  zb_C.of (by decide +kernel) rfl (Nat.le_of_ble_eq_true rfl) rfl (gX4_fitsCarton_0 N S a1 a2)
-- X4_fits
def fX4_fits_0 (N : Nat) (S : zb_S) (a1 : Int32) (a2 : Int32) : Option (Int32 × zb_S) :=
  if a1 = 0 then
    if zb_in a1 (zb_sz 2) then
    if (zb_a S 2 (Int32.toNatClampNeg a1)) = 90 then
      if (1 : Int32) = 0 ∨ (1 : Int32) = 1 then some (1, S) else none
    else
      if (0 : Int32) = 0 ∨ (0 : Int32) = 1 then some (0, S) else none else none
  else if a1 = 1 then
    zb_bind (fX4_isFigure N S a1 2 8) (fun r3 S2 =>
    if (r3 : Int32) = 0 ∨ (r3 : Int32) = 1 then some (r3, S2) else none)
  else if a1 = 2 then
    zb_bind (fX4_isFigure N S a1 0 4) (fun r6 S5 =>
    if (r6 : Int32) = 0 ∨ (r6 : Int32) = 1 then some (r6, S5) else none)
  else if a1 = 3 then
    zb_bind (fX4_figure N S 1) (fun r9 S8 =>
    zb_bind (fX4_isFigure N S8 a1 1 (r9 - 1)) (fun r11 S10 =>
    if (r11 : Int32) = 0 ∨ (r11 : Int32) = 1 then some (r11, S10) else none))
  else if a1 = 4 then
    zb_bind (fX4_isFigure N S a1 0 1) (fun r14 S13 =>
    if (r14 : Int32) = 0 ∨ (r14 : Int32) = 1 then some (r14, S13) else none)
  else if a1 = 5 then
    zb_bind (fX4_isFigure N S a1 0 9) (fun r17 S16 =>
    if (r17 : Int32) = 0 ∨ (r17 : Int32) = 1 then some (r17, S16) else none)
  else 
    zb_bind (fX4_figure N S 1) (fun r20 S19 =>
    zb_bind (fX4_figure N S19 2) (fun r22 S21 =>
    zb_bind (fX4_fitsCarton N S21 a1 ((a2 ^^^ (-1 : Int32)) &&& (((1 : Int32) <<< ((r20 + r22) &&& 31)) - 1))) (fun r24 S23 =>
    if (r24 : Int32) = 0 ∨ (r24 : Int32) = 1 then some (r24, S23) else none)))
set_option maxHeartbeats 4000000 in
set_option maxRecDepth 100000 in
theorem gX4_fits_0 {l : Launch} {G : zb_G} (N : Nat) (S : zb_S) (a1 : Int32) (a2 : Int32) : zb_Go zb_eI l G 3 RX4 cX4_fits 3 (some .boolean) 0 [(0, .ref (zb_ad G 1)), (1, .int a1), (2, .int a2)] [] S (fX4_fits_0 N S a1 a2) := by
  unfold fX4_fits_0
  refine zg_iload_n 1 dX4_fits_0 rfl rfl ?_
  refine zg_if (fun q1 => ?_) (fun q1 => ?_)
  · refine zg_tableIn dX4_fits_1 (by rw [q1]; decide) (by rw [q1]; decide) (by rw [q1]; rfl) (by decide : (1 : Int) + 39 = (40 : Nat)) ?_
    refine zg_aload_n 0 dX4_fits_40 rfl rfl ?_
    refine zq_X4_0 rfl rfl zw_45 dX4_fits_41 ?_
    refine zg_iload_n 1 dX4_fits_44 rfl rfl ?_
    refine zg_iald rfl dX4_fits_45 ?_
    refine zg_bipush (v := 90) dX4_fits_46 (by decide) ?_
    refine zg_icmp_ne 55 dX4_fits_48 (by decide) ?_ ?_
    · refine zg_iconst (v := 0) dX4_fits_55 (by decide) ?_
      exact zg_zret rfl dX4_fits_56
    · refine zg_iconst (v := 1) dX4_fits_51 (by decide) ?_
      refine zg_goto (tgt := 56) dX4_fits_52 (by decide) ?_
      exact zg_zret rfl dX4_fits_56
  · refine zg_if (fun q4 => ?_) (fun q4 => ?_)
    · refine zg_tableIn dX4_fits_1 (by rw [q4]; decide) (by rw [q4]; decide) (by rw [q4]; rfl) (by decide : (1 : Int) + 56 = (57 : Nat)) ?_
      refine zg_aload_n 0 dX4_fits_57 rfl rfl ?_
      refine zg_iload_n 1 dX4_fits_58 rfl rfl ?_
      refine zg_iconst (v := 2) dX4_fits_59 (by decide) ?_
      refine zg_bipush (v := 8) dX4_fits_60 (by decide) ?_
      refine zg_callVI (As := [.int a1, .int 2, .int 8]) (rest := []) 3 (zcX4_isFigure N S a1 2 8) (by decide) (by decide) rfl (by decide) rfl zw_140 zw_141 zw_142 zw_15 zw_143 (by decide +kernel) rfl rfl (Nat.le_of_ble_eq_true rfl) dX4_fits_62 (fun r3 S2 => ?_)
      exact zg_zret rfl dX4_fits_65
    · refine zg_if (fun q7 => ?_) (fun q7 => ?_)
      · refine zg_tableIn dX4_fits_1 (by rw [q7]; decide) (by rw [q7]; decide) (by rw [q7]; rfl) (by decide : (1 : Int) + 65 = (66 : Nat)) ?_
        refine zg_aload_n 0 dX4_fits_66 rfl rfl ?_
        refine zg_iload_n 1 dX4_fits_67 rfl rfl ?_
        refine zg_iconst (v := 0) dX4_fits_68 (by decide) ?_
        refine zg_iconst (v := 4) dX4_fits_69 (by decide) ?_
        refine zg_callVI (As := [.int a1, .int 0, .int 4]) (rest := []) 3 (zcX4_isFigure N S a1 0 4) (by decide) (by decide) rfl (by decide) rfl zw_140 zw_141 zw_142 zw_15 zw_143 (by decide +kernel) rfl rfl (Nat.le_of_ble_eq_true rfl) dX4_fits_70 (fun r6 S5 => ?_)
        exact zg_zret rfl dX4_fits_73
      · refine zg_if (fun q12 => ?_) (fun q12 => ?_)
        · refine zg_tableIn dX4_fits_1 (by rw [q12]; decide) (by rw [q12]; decide) (by rw [q12]; rfl) (by decide : (1 : Int) + 73 = (74 : Nat)) ?_
          refine zg_aload_n 0 dX4_fits_74 rfl rfl ?_
          refine zg_iload_n 1 dX4_fits_75 rfl rfl ?_
          refine zg_iconst (v := 1) dX4_fits_76 (by decide) ?_
          refine zg_aload_n 0 dX4_fits_77 rfl rfl ?_
          refine zg_iconst (v := 1) dX4_fits_78 (by decide) ?_
          refine zg_callVI (As := [.int 1]) (rest := [.int 1, .int a1, .ref (zb_ad G 1)]) 1 (zcX4_figure N S 1) (by decide) (by decide) rfl (by decide) rfl zw_144 zw_145 zw_146 zw_15 zw_147 (by decide +kernel) rfl rfl (Nat.le_of_ble_eq_true rfl) dX4_fits_79 (fun r9 S8 => ?_)
          refine zg_iconst (v := 1) dX4_fits_82 (by decide) ?_
          refine zg_isub dX4_fits_83 ?_
          refine zg_callVI (As := [.int a1, .int 1, .int (r9 - 1)]) (rest := []) 3 (zcX4_isFigure N S8 a1 1 (r9 - 1)) (by decide) (by decide) rfl (by decide) rfl zw_140 zw_141 zw_142 zw_15 zw_143 (by decide +kernel) rfl rfl (Nat.le_of_ble_eq_true rfl) dX4_fits_84 (fun r11 S10 => ?_)
          exact zg_zret rfl dX4_fits_87
        · refine zg_if (fun q15 => ?_) (fun q15 => ?_)
          · refine zg_tableIn dX4_fits_1 (by rw [q15]; decide) (by rw [q15]; decide) (by rw [q15]; rfl) (by decide : (1 : Int) + 87 = (88 : Nat)) ?_
            refine zg_aload_n 0 dX4_fits_88 rfl rfl ?_
            refine zg_iload_n 1 dX4_fits_89 rfl rfl ?_
            refine zg_iconst (v := 0) dX4_fits_90 (by decide) ?_
            refine zg_iconst (v := 1) dX4_fits_91 (by decide) ?_
            refine zg_callVI (As := [.int a1, .int 0, .int 1]) (rest := []) 3 (zcX4_isFigure N S a1 0 1) (by decide) (by decide) rfl (by decide) rfl zw_140 zw_141 zw_142 zw_15 zw_143 (by decide +kernel) rfl rfl (Nat.le_of_ble_eq_true rfl) dX4_fits_92 (fun r14 S13 => ?_)
            exact zg_zret rfl dX4_fits_95
          · refine zg_if (fun q18 => ?_) (fun q18 => ?_)
            · refine zg_tableIn dX4_fits_1 (by rw [q18]; decide) (by rw [q18]; decide) (by rw [q18]; rfl) (by decide : (1 : Int) + 95 = (96 : Nat)) ?_
              refine zg_aload_n 0 dX4_fits_96 rfl rfl ?_
              refine zg_iload_n 1 dX4_fits_97 rfl rfl ?_
              refine zg_iconst (v := 0) dX4_fits_98 (by decide) ?_
              refine zg_bipush (v := 9) dX4_fits_99 (by decide) ?_
              refine zg_callVI (As := [.int a1, .int 0, .int 9]) (rest := []) 3 (zcX4_isFigure N S a1 0 9) (by decide) (by decide) rfl (by decide) rfl zw_140 zw_141 zw_142 zw_15 zw_143 (by decide +kernel) rfl rfl (Nat.le_of_ble_eq_true rfl) dX4_fits_101 (fun r17 S16 => ?_)
              exact zg_zret rfl dX4_fits_104
            · refine zg_tableOut dX4_fits_1 (by have q1 := lv_neT q1 (show (0 : Int32).toInt = 0 from by decide); have q4 := lv_neT q4 (show (1 : Int32).toInt = 1 from by decide); have q7 := lv_neT q7 (show (2 : Int32).toInt = 2 from by decide); have q12 := lv_neT q12 (show (3 : Int32).toInt = 3 from by decide); have q15 := lv_neT q15 (show (4 : Int32).toInt = 4 from by decide); have q18 := lv_neT q18 (show (5 : Int32).toInt = 5 from by decide); omega) (by decide : (1 : Int) + 104 = (105 : Nat)) ?_
              refine zg_aload_n 0 dX4_fits_105 rfl rfl ?_
              refine zg_iload_n 1 dX4_fits_106 rfl rfl ?_
              refine zg_iload_n 2 dX4_fits_107 rfl rfl ?_
              refine zg_iconst (v := (-1)) dX4_fits_108 (by decide) ?_
              refine zg_ixor dX4_fits_109 ?_
              refine zg_iconst (v := 1) dX4_fits_110 (by decide) ?_
              refine zg_aload_n 0 dX4_fits_111 rfl rfl ?_
              refine zg_iconst (v := 1) dX4_fits_112 (by decide) ?_
              refine zg_callVI (As := [.int 1]) (rest := [.int 1, .int (a2 ^^^ (-1 : Int32)), .int a1, .ref (zb_ad G 1)]) 1 (zcX4_figure N S 1) (by decide) (by decide) rfl (by decide) rfl zw_144 zw_145 zw_146 zw_15 zw_147 (by decide +kernel) rfl rfl (Nat.le_of_ble_eq_true rfl) dX4_fits_113 (fun r20 S19 => ?_)
              refine zg_aload_n 0 dX4_fits_116 rfl rfl ?_
              refine zg_iconst (v := 2) dX4_fits_117 (by decide) ?_
              refine zg_callVI (As := [.int 2]) (rest := [.int r20, .int 1, .int (a2 ^^^ (-1 : Int32)), .int a1, .ref (zb_ad G 1)]) 1 (zcX4_figure N S19 2) (by decide) (by decide) rfl (by decide) rfl zw_144 zw_145 zw_146 zw_15 zw_147 (by decide +kernel) rfl rfl (Nat.le_of_ble_eq_true rfl) dX4_fits_118 (fun r22 S21 => ?_)
              refine zg_iadd dX4_fits_121 ?_
              refine zg_ishl dX4_fits_122 ?_
              refine zg_iconst (v := 1) dX4_fits_123 (by decide) ?_
              refine zg_isub dX4_fits_124 ?_
              refine zg_iand dX4_fits_125 ?_
              refine zg_callVI (As := [.int a1, .int ((a2 ^^^ (-1 : Int32)) &&& (((1 : Int32) <<< ((r20 + r22) &&& 31)) - 1))]) (rest := []) 2 (zcX4_fitsCarton N S21 a1 ((a2 ^^^ (-1 : Int32)) &&& (((1 : Int32) <<< ((r20 + r22) &&& 31)) - 1))) (by decide) (by decide) rfl (by decide) rfl zw_148 zw_149 zw_150 zw_15 zw_151 (by decide +kernel) rfl rfl (Nat.le_of_ble_eq_true rfl) dX4_fits_126 (fun r24 S23 => ?_)
              exact zg_zret rfl dX4_fits_129
def fX4_fits (N : Nat) (S : zb_S) (a1 : Int32) (a2 : Int32) : Option (Int32 × zb_S) := fX4_fits_0 N S a1 a2
theorem zcX4_fits {l : Launch} {G : zb_G} (N : Nat) (S : zb_S) (a1 : Int32) (a2 : Int32) : zb_C zb_eI l G 3 yX4_fits cX4_fits 3 (some .boolean) [.ref (zb_ad G 1), .int a1, .int a2] S (fX4_fits N S a1 a2) :=
  zb_C.of (by decide +kernel) rfl (Nat.le_of_ble_eq_true rfl) rfl (gX4_fits_0 N S a1 a2)
-- X4_firstFault
def fX4_firstFault_75 (N : Nat) (S : zb_S) : Option (Int32 × zb_S) :=
  some (zb_i S 1 1, S)
set_option maxHeartbeats 4000000 in
set_option maxRecDepth 100000 in
theorem gX4_firstFault_75 {l : Launch} {G : zb_G} (N : Nat) (S : zb_S) : zb_Go zb_eI l G 4 RX4 cX4_firstFault 3 (some .int) 75 [(0, .ref (zb_ad G 1))] [] S (fX4_firstFault_75 N S) := by
  unfold fX4_firstFault_75
  refine zg_aload_n 0 dX4_firstFault_75 rfl rfl ?_
  refine zq_X4_1 rfl zw_46 dX4_firstFault_76 ?_
  exact zg_iret rfl dX4_firstFault_79
def fX4_firstFault_46 (N : Nat) (k4 : zb_S → Int32 → Int32 → Option (Int32 × zb_S)) (S : zb_S) (l1 : Int32) (l2 : Int32) : Option (Int32 × zb_S) :=
  zb_let (l2 + 1) (fun x1 : Int32 =>
  k4 S l1 x1)
set_option maxHeartbeats 4000000 in
set_option maxRecDepth 100000 in
theorem gX4_firstFault_46 {l : Launch} {G : zb_G} (N : Nat) (k4 : zb_S → Int32 → Int32 → Option (Int32 × zb_S)) (hk4 : ∀ (S : zb_S) (l1 : Int32) (l2 : Int32), zb_Go zb_eI l G 4 RX4 cX4_firstFault 3 (some .int) 4 [(0, .ref (zb_ad G 1)), (1, .int l1), (2, .int l2)] [] S (k4 S l1 l2)) (S : zb_S) (l1 : Int32) (l2 : Int32) : zb_Go zb_eI l G 4 RX4 cX4_firstFault 3 (some .int) 46 [(0, .ref (zb_ad G 1)), (1, .int l1), (2, .int l2)] [] S (fX4_firstFault_46 N k4 S l1 l2) := by
  unfold fX4_firstFault_46
  refine zg_iincL (fun x1 => [(2, .int x1), (0, .ref (zb_ad G 1)), (1, .int l1)]) 2 dX4_firstFault_46 rfl rfl (by decide) (fun _ => rfl) (fun x1 => ?_)
  refine zg_goto (tgt := 4) dX4_firstFault_49 (by decide) ?_
  refine zg_sub [1, 2, 0] rfl ?_
  exact hk4 S l1 x1
def fX4_firstFault_4b (N : Nat) (k4 : zb_S → Int32 → Int32 → Option (Int32 × zb_S)) (S : zb_S) (l1 : Int32) (l2 : Int32) : Option (Int32 × zb_S) :=
  if (zb_i S 1 1) ≤ l2 then
    if (zb_i S 1 1) < 6 then
      fX4_firstFault_75 N S
    else
      if 3 = 0 then none else
      if ((zb_i S 1 1) - (zb_i S 1 1) / 3 * 3) = 0 then
        some ((-9), S)
      else
        fX4_firstFault_75 N S
  else
    zb_bind (fX4_fits N S l2 l1) (fun r2 S1 =>
    if r2 = 0 then
      some (l2, S1)
    else
      if l2 < 6 then
        fX4_firstFault_46 N k4 S1 l1 l2
      else
        if 3 = 0 then none else
        if (l2 - l2 / 3 * 3) = 2 then
          zb_bind (fX4_zoneEndingAt N S1 l2) (fun r4 S3 =>
          zb_let (l1 ||| ((1 : Int32) <<< (r4 &&& 31))) (fun x5 : Int32 =>
          fX4_firstFault_46 N k4 S3 x5 l2))
        else
          fX4_firstFault_46 N k4 S1 l1 l2)
set_option maxHeartbeats 4000000 in
set_option maxRecDepth 100000 in
theorem gX4_firstFault_4b {l : Launch} {G : zb_G} (N : Nat) (k4 : zb_S → Int32 → Int32 → Option (Int32 × zb_S)) (hk4 : ∀ (S : zb_S) (l1 : Int32) (l2 : Int32), zb_Go zb_eI l G 4 RX4 cX4_firstFault 3 (some .int) 4 [(0, .ref (zb_ad G 1)), (1, .int l1), (2, .int l2)] [] S (k4 S l1 l2)) (S : zb_S) (l1 : Int32) (l2 : Int32) : zb_Go zb_eI l G 4 RX4 cX4_firstFault 3 (some .int) 4 [(0, .ref (zb_ad G 1)), (1, .int l1), (2, .int l2)] [] S (fX4_firstFault_4b N k4 S l1 l2) := by
  unfold fX4_firstFault_4b
  refine zg_iload_n 2 dX4_firstFault_4 rfl rfl ?_
  refine zg_aload_n 0 dX4_firstFault_5 rfl rfl ?_
  refine zq_X4_1 rfl zw_46 dX4_firstFault_6 ?_
  refine zg_icmp_ge 52 dX4_firstFault_9 (by decide) ?_ ?_
  · refine zg_aload_n 0 dX4_firstFault_52 rfl rfl ?_
    refine zq_X4_1 rfl zw_46 dX4_firstFault_53 ?_
    refine zg_bipush (v := 6) dX4_firstFault_56 (by decide) ?_
    refine zg_icmp_lt 75 dX4_firstFault_58 (by decide) ?_ ?_
    · refine zg_sub [0] rfl ?_
      exact gX4_firstFault_75 N S
    · refine zg_aload_n 0 dX4_firstFault_61 rfl rfl ?_
      refine zq_X4_1 rfl zw_46 dX4_firstFault_62 ?_
      refine zg_iconst (v := 3) dX4_firstFault_65 (by decide) ?_
      refine zg_irem dX4_firstFault_66 (fun _ => ?_)
      refine zg_if_ne 75 dX4_firstFault_67 (by decide) ?_ ?_
      · refine zg_sub [0] rfl ?_
        exact gX4_firstFault_75 N S
      · refine zg_bipush (v := (-9)) dX4_firstFault_70 (by decide) ?_
        refine zg_goto (tgt := 79) dX4_firstFault_72 (by decide) ?_
        exact zg_iret rfl dX4_firstFault_79
  · refine zg_aload_n 0 dX4_firstFault_12 rfl rfl ?_
    refine zg_iload_n 2 dX4_firstFault_13 rfl rfl ?_
    refine zg_iload_n 1 dX4_firstFault_14 rfl rfl ?_
    refine zg_callVI (As := [.int l2, .int l1]) (rest := []) 2 (zcX4_fits N S l2 l1) (by decide) (by decide) rfl (by decide) rfl zw_136 zw_137 zw_138 zw_15 zw_139 (by decide +kernel) rfl rfl (Nat.le_of_ble_eq_true rfl) dX4_firstFault_15 (fun r2 S1 => ?_)
    refine zg_if_ne 23 dX4_firstFault_18 (by decide) ?_ ?_
    · refine zg_iload_n 2 dX4_firstFault_23 rfl rfl ?_
      refine zg_bipush (v := 6) dX4_firstFault_24 (by decide) ?_
      refine zg_icmp_lt 46 dX4_firstFault_26 (by decide) ?_ ?_
      · exact gX4_firstFault_46 N k4 hk4 S1 l1 l2
      · refine zg_iload_n 2 dX4_firstFault_29 rfl rfl ?_
        refine zg_iconst (v := 3) dX4_firstFault_30 (by decide) ?_
        refine zg_irem dX4_firstFault_31 (fun _ => ?_)
        refine zg_iconst (v := 2) dX4_firstFault_32 (by decide) ?_
        refine zg_icmp_ne 46 dX4_firstFault_33 (by decide) ?_ ?_
        · exact gX4_firstFault_46 N k4 hk4 S1 l1 l2
        · refine zg_iload_n 1 dX4_firstFault_36 rfl rfl ?_
          refine zg_iconst (v := 1) dX4_firstFault_37 (by decide) ?_
          refine zg_aload_n 0 dX4_firstFault_38 rfl rfl ?_
          refine zg_iload_n 2 dX4_firstFault_39 rfl rfl ?_
          refine zg_callVI (As := [.int l2]) (rest := [.int 1, .int l1]) 1 (zcX4_zoneEndingAt N S1 l2) (by decide) (by decide) rfl (by decide) rfl zw_152 zw_153 zw_154 zw_15 zw_155 (by decide +kernel) rfl rfl (Nat.le_of_ble_eq_true rfl) dX4_firstFault_40 (fun r4 S3 => ?_)
          refine zg_ishl dX4_firstFault_43 ?_
          refine zg_ior dX4_firstFault_44 ?_
          refine zg_istore_nL (fun x5 => [(1, .int x5), (0, .ref (zb_ad G 1)), (2, .int l2)]) dX4_firstFault_45 rfl (by decide) (fun _ => rfl) (fun x5 => ?_)
          refine zg_sub [1, 0, 2] rfl ?_
          exact gX4_firstFault_46 N k4 hk4 S3 x5 l2
    · refine zg_iload_n 2 dX4_firstFault_21 rfl rfl ?_
      exact zg_iret rfl dX4_firstFault_22
def fX4_firstFault_4 (N : Nat) : Nat → zb_S → Int32 → Int32 → Option (Int32 × zb_S)
  | 0, _, _, _ => none
  | n + 1, S, l1, l2 => fX4_firstFault_4b N (fX4_firstFault_4 N n) S l1 l2
set_option maxHeartbeats 4000000 in
set_option maxRecDepth 100000 in
theorem gX4_firstFault_4 {l : Launch} {G : zb_G} (N : Nat) : ∀ (n : Nat) (S : zb_S) (l1 : Int32) (l2 : Int32), zb_Go zb_eI l G 4 RX4 cX4_firstFault 3 (some .int) 4 [(0, .ref (zb_ad G 1)), (1, .int l1), (2, .int l2)] [] S (fX4_firstFault_4 N n S l1 l2) := by
  intro n
  induction n with
  | zero => intros; exact zg_none
  | succ n ih =>
    intro S l1 l2
    exact gX4_firstFault_4b N (fX4_firstFault_4 N n) ih S l1 l2
def fX4_firstFault_0 (N : Nat) (S : zb_S) : Option (Int32 × zb_S) :=
  fX4_firstFault_4 N N S 0 0
set_option maxHeartbeats 4000000 in
set_option maxRecDepth 100000 in
theorem gX4_firstFault_0 {l : Launch} {G : zb_G} (N : Nat) (S : zb_S) : zb_Go zb_eI l G 4 RX4 cX4_firstFault 3 (some .int) 0 [(0, .ref (zb_ad G 1))] [] S (fX4_firstFault_0 N S) := by
  unfold fX4_firstFault_0
  refine zg_iconst (v := 0) dX4_firstFault_0 (by decide) ?_
  refine zg_istore_n (lv' := [(1, .int 0), (0, .ref (zb_ad G 1))]) dX4_firstFault_1 rfl (by decide) rfl ?_
  refine zg_iconst (v := 0) dX4_firstFault_2 (by decide) ?_
  refine zg_istore_n (lv' := [(2, .int 0), (1, .int 0), (0, .ref (zb_ad G 1))]) dX4_firstFault_3 rfl (by decide) rfl ?_
  refine zg_sub [2, 1, 0] rfl ?_
  exact gX4_firstFault_4 N N S 0 0
def fX4_firstFault (N : Nat) (S : zb_S) : Option (Int32 × zb_S) := fX4_firstFault_0 N S
theorem zcX4_firstFault {l : Launch} {G : zb_G} (N : Nat) (S : zb_S) : zb_C zb_eI l G 4 yX4_firstFault cX4_firstFault 3 (some .int) [.ref (zb_ad G 1)] S (fX4_firstFault N S) :=
  zb_C.of (by decide +kernel) rfl (Nat.le_of_ble_eq_true rfl) rfl (gX4_firstFault_0 N S)
-- X4_layOut
def fX4_layOut_74 (N : Nat) (b1 : Nat) (k46 : zb_S → Int32 → Option (Unit × zb_S)) (S : zb_S) (l2 : Int32) : Option (Unit × zb_S) :=
  zb_let (l2 + 3) (fun x1 : Int32 =>
  k46 S x1)
set_option maxHeartbeats 4000000 in
set_option maxRecDepth 100000 in
theorem gX4_layOut_74 {l : Launch} {G : zb_G} (N : Nat) (b1 : Nat) (h1 : zb_kd b1 = 1) (k46 : zb_S → Int32 → Option (Unit × zb_S)) (hk46 : ∀ (S : zb_S) (l2 : Int32), zb_Go zb_eV l G 2 RX4 cX4_layOut 4 none 46 [(0, .ref (zb_ad G 1)), (1, .ref (zb_ad G b1)), (2, .int l2)] [] S (k46 S l2)) (S : zb_S) (l2 : Int32) : zb_Go zb_eV l G 2 RX4 cX4_layOut 4 none 74 [(0, .ref (zb_ad G 1)), (1, .ref (zb_ad G b1)), (2, .int l2)] [] S (fX4_layOut_74 N b1 k46 S l2) := by
  unfold fX4_layOut_74
  refine zg_iincL (fun x1 => [(2, .int x1), (0, .ref (zb_ad G 1)), (1, .ref (zb_ad G b1))]) 2 dX4_layOut_74 rfl rfl (by decide) (fun _ => rfl) (fun x1 => ?_)
  refine zg_goto (tgt := 46) dX4_layOut_77 (by decide) ?_
  refine zg_sub [1, 2, 0] rfl ?_
  exact hk46 S x1
def fX4_layOut_46b (N : Nat) (b1 : Nat) (k46 : zb_S → Int32 → Option (Unit × zb_S)) (S : zb_S) (l2 : Int32) : Option (Unit × zb_S) :=
  if (zb_i S 1 1) ≤ l2 then
    some ((), S)
  else
    zb_bind (fX4_zoneEndingAt N S l2) (fun r2 S1 =>
    zb_bind (fX1_hasZone N b1 S1 r2) (fun r4 S3 =>
    if r4 = 0 then
      fX4_layOut_74 N b1 k46 S3 l2
    else
      zb_bind (fX1_putNext N b1 S3 r2) (fun r6 S5 =>
      fX4_layOut_74 N b1 k46 S5 l2)))
set_option maxHeartbeats 4000000 in
set_option maxRecDepth 100000 in
theorem gX4_layOut_46b {l : Launch} {G : zb_G} (N : Nat) (b1 : Nat) (h1 : zb_kd b1 = 1) (k46 : zb_S → Int32 → Option (Unit × zb_S)) (hk46 : ∀ (S : zb_S) (l2 : Int32), zb_Go zb_eV l G 2 RX4 cX4_layOut 4 none 46 [(0, .ref (zb_ad G 1)), (1, .ref (zb_ad G b1)), (2, .int l2)] [] S (k46 S l2)) (S : zb_S) (l2 : Int32) : zb_Go zb_eV l G 2 RX4 cX4_layOut 4 none 46 [(0, .ref (zb_ad G 1)), (1, .ref (zb_ad G b1)), (2, .int l2)] [] S (fX4_layOut_46b N b1 k46 S l2) := by
  unfold fX4_layOut_46b
  refine zg_iload_n 2 dX4_layOut_46 rfl rfl ?_
  refine zg_aload_n 0 dX4_layOut_47 rfl rfl ?_
  refine zq_X4_1 rfl zw_46 dX4_layOut_48 ?_
  refine zg_icmp_ge 80 dX4_layOut_51 (by decide) ?_ ?_
  · exact zg_vret rfl dX4_layOut_80
  · refine zg_aload_n 0 dX4_layOut_54 rfl rfl ?_
    refine zg_iload_n 2 dX4_layOut_55 rfl rfl ?_
    refine zg_callVI (As := [.int l2]) (rest := []) 1 (zcX4_zoneEndingAt N S l2) (by decide) (by decide) rfl (by decide) rfl zw_152 zw_153 zw_154 zw_15 zw_155 (by decide +kernel) rfl rfl (Nat.le_of_ble_eq_true rfl) dX4_layOut_56 (fun r2 S1 => ?_)
    refine zg_istore_n (lv' := [(3, .int r2), (0, .ref (zb_ad G 1)), (1, .ref (zb_ad G b1)), (2, .int l2)]) dX4_layOut_59 rfl (by decide) rfl ?_
    refine zg_aload_n 2 dX4_layOut_60 rfl rfl ?_
    refine zg_iload_n 0 dX4_layOut_61 rfl rfl ?_
    refine zg_callVI (As := [.int r2]) (rest := []) 1 (zcX1_hasZone N b1 h1 S1 r2) (by decide) (by decide) h1 (by decide) rfl zw_202 zw_203 zw_204 zw_19 zw_205 (by decide +kernel) rfl rfl (Nat.le_of_ble_eq_true rfl) dX4_layOut_62 (fun r4 S3 => ?_)
    refine zg_if_eq 74 dX4_layOut_65 (by decide) ?_ ?_
    · refine zg_sub [1, 2, 3] rfl ?_
      exact gX4_layOut_74 N b1 h1 k46 hk46 S3 l2
    · refine zg_aload_n 2 dX4_layOut_68 rfl rfl ?_
      refine zg_iload_n 0 dX4_layOut_69 rfl rfl ?_
      refine zg_callVI (As := [.int r2]) (rest := []) 1 (zcX1_putNext N b1 h1 S3 r2) (by decide) (by decide) h1 (by decide) rfl zw_206 zw_207 zw_208 zw_19 zw_209 (by decide +kernel) rfl rfl (Nat.le_of_ble_eq_true rfl) dX4_layOut_70 (fun r6 S5 => ?_)
      refine zg_pop dX4_layOut_73 rfl ?_
      refine zg_sub [1, 2, 3] rfl ?_
      exact gX4_layOut_74 N b1 h1 k46 hk46 S5 l2
def fX4_layOut_46 (N : Nat) (b1 : Nat) : Nat → zb_S → Int32 → Option (Unit × zb_S)
  | 0, _, _ => none
  | n + 1, S, l2 => fX4_layOut_46b N b1 (fX4_layOut_46 N b1 n) S l2
set_option maxHeartbeats 4000000 in
set_option maxRecDepth 100000 in
theorem gX4_layOut_46 {l : Launch} {G : zb_G} (N : Nat) (b1 : Nat) (h1 : zb_kd b1 = 1) : ∀ (n : Nat) (S : zb_S) (l2 : Int32), zb_Go zb_eV l G 2 RX4 cX4_layOut 4 none 46 [(0, .ref (zb_ad G 1)), (1, .ref (zb_ad G b1)), (2, .int l2)] [] S (fX4_layOut_46 N b1 n S l2) := by
  intro n
  induction n with
  | zero => intros; exact zg_none
  | succ n ih =>
    intro S l2
    exact gX4_layOut_46b N b1 h1 (fX4_layOut_46 N b1 n) ih S l2
def fX4_layOut_0 (N : Nat) (b1 : Nat) (S : zb_S) : Option (Unit × zb_S) :=
  zb_bind (fX4_figure N S 1) (fun r2 S1 =>
  zb_bind (fX4_figure N S1 2) (fun r4 S3 =>
  zb_bind (fX4_figure N S3 3) (fun r6 S5 =>
  zb_bind (fX1_begin N b1 S5 r2 r4 r6) (fun _ S7 =>
  zb_bind (fX4_figure N S7 4) (fun r10 S9 =>
  if zb_in 51 (zb_sz (b1 + 1)) then zb_let (zb_pa S9 (b1 + 1) (Int32.toNatClampNeg 51) r10) (fun S11 : zb_S =>
  zb_bind (fX4_figure N S11 5) (fun r13 S12 =>
  if zb_in 52 (zb_sz (b1 + 1)) then zb_let (zb_pa S12 (b1 + 1) (Int32.toNatClampNeg 52) r13) (fun S14 : zb_S =>
  fX4_layOut_46 N b1 N S14 8) else none)) else none)))))
set_option maxHeartbeats 4000000 in
set_option maxRecDepth 100000 in
theorem gX4_layOut_0 {l : Launch} {G : zb_G} (N : Nat) (b1 : Nat) (h1 : zb_kd b1 = 1) (S : zb_S) : zb_Go zb_eV l G 2 RX4 cX4_layOut 4 none 0 [(0, .ref (zb_ad G 1)), (1, .ref (zb_ad G b1))] [] S (fX4_layOut_0 N b1 S) := by
  unfold fX4_layOut_0
  refine zg_aload_n 1 dX4_layOut_0 rfl rfl ?_
  refine zg_aload_n 0 dX4_layOut_1 rfl rfl ?_
  refine zg_iconst (v := 1) dX4_layOut_2 (by decide) ?_
  refine zg_callVI (As := [.int 1]) (rest := [.ref (zb_ad G b1)]) 1 (zcX4_figure N S 1) (by decide) (by decide) rfl (by decide) rfl zw_144 zw_145 zw_146 zw_15 zw_147 (by decide +kernel) rfl rfl (Nat.le_of_ble_eq_true rfl) dX4_layOut_3 (fun r2 S1 => ?_)
  refine zg_aload_n 0 dX4_layOut_6 rfl rfl ?_
  refine zg_iconst (v := 2) dX4_layOut_7 (by decide) ?_
  refine zg_callVI (As := [.int 2]) (rest := [.int r2, .ref (zb_ad G b1)]) 1 (zcX4_figure N S1 2) (by decide) (by decide) rfl (by decide) rfl zw_144 zw_145 zw_146 zw_15 zw_147 (by decide +kernel) rfl rfl (Nat.le_of_ble_eq_true rfl) dX4_layOut_8 (fun r4 S3 => ?_)
  refine zg_aload_n 0 dX4_layOut_11 rfl rfl ?_
  refine zg_iconst (v := 3) dX4_layOut_12 (by decide) ?_
  refine zg_callVI (As := [.int 3]) (rest := [.int r4, .int r2, .ref (zb_ad G b1)]) 1 (zcX4_figure N S3 3) (by decide) (by decide) rfl (by decide) rfl zw_144 zw_145 zw_146 zw_15 zw_147 (by decide +kernel) rfl rfl (Nat.le_of_ble_eq_true rfl) dX4_layOut_13 (fun r6 S5 => ?_)
  refine zg_callVV (As := [.int r2, .int r4, .int r6]) (rest := []) 3 (zcX1_begin N b1 h1 S5 r2 r4 r6) (by decide) (by decide) h1 (by decide) rfl zw_198 zw_199 zw_200 zw_19 zw_201 (by decide +kernel) rfl rfl (Nat.le_of_ble_eq_true rfl) dX4_layOut_16 (fun S7 => ?_)
  refine zg_aload_n 1 dX4_layOut_19 rfl rfl ?_
  refine zq_X1_4 h1 (zk_X1_4 h1).1 zw_197 dX4_layOut_20 ?_
  refine zg_bipush (v := 51) dX4_layOut_23 (by decide) ?_
  refine zg_aload_n 0 dX4_layOut_25 rfl rfl ?_
  refine zg_iconst (v := 4) dX4_layOut_26 (by decide) ?_
  refine zg_callVI (As := [.int 4]) (rest := [.int 51, .ref (zb_ad G (b1 + 1))]) 1 (zcX4_figure N S7 4) (by decide) (by decide) rfl (by decide) rfl zw_144 zw_145 zw_146 zw_15 zw_147 (by decide +kernel) rfl rfl (Nat.le_of_ble_eq_true rfl) dX4_layOut_27 (fun r10 S9 => ?_)
  refine zg_iast (zk_X1_4 h1).2.1 dX4_layOut_30 (fun S11 => ?_)
  refine zg_aload_n 1 dX4_layOut_31 rfl rfl ?_
  refine zq_X1_4 h1 (zk_X1_4 h1).1 zw_197 dX4_layOut_32 ?_
  refine zg_bipush (v := 52) dX4_layOut_35 (by decide) ?_
  refine zg_aload_n 0 dX4_layOut_37 rfl rfl ?_
  refine zg_iconst (v := 5) dX4_layOut_38 (by decide) ?_
  refine zg_callVI (As := [.int 5]) (rest := [.int 52, .ref (zb_ad G (b1 + 1))]) 1 (zcX4_figure N S11 5) (by decide) (by decide) rfl (by decide) rfl zw_144 zw_145 zw_146 zw_15 zw_147 (by decide +kernel) rfl rfl (Nat.le_of_ble_eq_true rfl) dX4_layOut_39 (fun r13 S12 => ?_)
  refine zg_iast (zk_X1_4 h1).2.1 dX4_layOut_42 (fun S14 => ?_)
  refine zg_bipush (v := 8) dX4_layOut_43 (by decide) ?_
  refine zg_istore_n (lv' := [(2, .int 8), (0, .ref (zb_ad G 1)), (1, .ref (zb_ad G b1))]) dX4_layOut_45 rfl (by decide) rfl ?_
  refine zg_sub [1, 2, 0] rfl ?_
  exact gX4_layOut_46 N b1 h1 N S14 8
def fX4_layOut (N : Nat) (b1 : Nat) (S : zb_S) : Option (Unit × zb_S) := fX4_layOut_0 N b1 S
theorem zcX4_layOut {l : Launch} {G : zb_G} (N : Nat) (b1 : Nat) (h1 : zb_kd b1 = 1) (S : zb_S) : zb_C zb_eV l G 2 yX4_layOut cX4_layOut 4 none [.ref (zb_ad G 1), .ref (zb_ad G b1)] S (fX4_layOut N b1 S) :=
  zb_C.of (by decide +kernel) rfl (Nat.le_of_ble_eq_true rfl) rfl (gX4_layOut_0 N b1 h1 S)
