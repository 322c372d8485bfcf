-- X1_in
def fX1_in_0 (N : Nat) (S : zb_S) (a0 : Int32) (a1 : Int32) : Option (Int32 × zb_S) :=
  if ((a0 >>> (a1 &&& 31)) &&& (1 : Int32)) = 1 then
    if (1 : Int32) = 0 ∨ (1 : Int32) = 1 then some (1, S) else none
  else
    if (0 : Int32) = 0 ∨ (0 : Int32) = 1 then some (0, S) else none
set_option maxHeartbeats 4000000 in
set_option maxRecDepth 100000 in
theorem gX1_in_0 {l : Launch} {G : zb_G} (N : Nat) (S : zb_S) (a0 : Int32) (a1 : Int32) : zb_Go zb_eI l G 0 RX1 cX1_in 2 (some .boolean) 0 [(0, .int a0), (1, .int a1)] [] S (fX1_in_0 N S a0 a1) := by
  unfold fX1_in_0
  refine zg_iload_n 0 dX1_in_0 rfl rfl ?_
  refine zg_iload_n 1 dX1_in_1 rfl rfl ?_
  refine zg_ishr dX1_in_2 ?_
  refine zg_iconst (v := 1) dX1_in_3 (by decide) ?_
  refine zg_iand dX1_in_4 ?_
  refine zg_iconst (v := 1) dX1_in_5 (by decide) ?_
  refine zg_icmp_ne 13 dX1_in_6 (by decide) ?_ ?_
  · refine zg_iconst (v := 0) dX1_in_13 (by decide) ?_
    exact zg_zret rfl dX1_in_14
  · refine zg_iconst (v := 1) dX1_in_9 (by decide) ?_
    refine zg_goto (tgt := 14) dX1_in_10 (by decide) ?_
    exact zg_zret rfl dX1_in_14
def fX1_in (N : Nat) (S : zb_S) (a0 : Int32) (a1 : Int32) : Option (Int32 × zb_S) := fX1_in_0 N S a0 a1
theorem zcX1_in {l : Launch} {G : zb_G} (N : Nat) (S : zb_S) (a0 : Int32) (a1 : Int32) : zb_C zb_eI l G 0 yX1_in cX1_in 2 (some .boolean) [.int a0, .int a1] S (fX1_in N S a0 a1) :=
  zb_C.of (by decide +kernel) rfl (Nat.le_of_ble_eq_true rfl) rfl (gX1_in_0 N S a0 a1)
-- X1_isEye
def fX1_isEye_0 (N : Nat) (S : zb_S) (a0 : Int32) : Option (Int32 × zb_S) :=
  if a0 < 0 then
    if (0 : Int32) = 0 ∨ (0 : Int32) = 1 then some (0, S) else none
  else
    if 2 < a0 then
      if (0 : Int32) = 0 ∨ (0 : Int32) = 1 then some (0, S) else none
    else
      if (1 : Int32) = 0 ∨ (1 : Int32) = 1 then some (1, S) else none
set_option maxHeartbeats 4000000 in
set_option maxRecDepth 100000 in
theorem gX1_isEye_0 {l : Launch} {G : zb_G} (N : Nat) (S : zb_S) (a0 : Int32) : zb_Go zb_eI l G 0 RX1 cX1_isEye 1 (some .boolean) 0 [(0, .int a0)] [] S (fX1_isEye_0 N S a0) := by
  unfold fX1_isEye_0
  refine zg_iload_n 0 dX1_isEye_0 rfl rfl ?_
  refine zg_if_lt 13 dX1_isEye_1 (by decide) ?_ ?_
  · refine zg_iconst (v := 0) dX1_isEye_13 (by decide) ?_
    exact zg_zret rfl dX1_isEye_14
  · refine zg_iload_n 0 dX1_isEye_4 rfl rfl ?_
    refine zg_iconst (v := 2) dX1_isEye_5 (by decide) ?_
    refine zg_icmp_gt 13 dX1_isEye_6 (by decide) ?_ ?_
    · refine zg_iconst (v := 0) dX1_isEye_13 (by decide) ?_
      exact zg_zret rfl dX1_isEye_14
    · refine zg_iconst (v := 1) dX1_isEye_9 (by decide) ?_
      refine zg_goto (tgt := 14) dX1_isEye_10 (by decide) ?_
      exact zg_zret rfl dX1_isEye_14
def fX1_isEye (N : Nat) (S : zb_S) (a0 : Int32) : Option (Int32 × zb_S) := fX1_isEye_0 N S a0
theorem zcX1_isEye {l : Launch} {G : zb_G} (N : Nat) (S : zb_S) (a0 : Int32) : zb_C zb_eI l G 0 yX1_isEye cX1_isEye 1 (some .boolean) [.int a0] S (fX1_isEye N S a0) :=
  zb_C.of (by decide +kernel) rfl (Nat.le_of_ble_eq_true rfl) rfl (gX1_isEye_0 N S a0)
-- X1_begin
def fX1_begin_25b (N : Nat) (b0 : Nat) (k25 : zb_S → Int32 → Option (Unit × zb_S)) (S : zb_S) (l4 : Int32) : Option (Unit × zb_S) :=
  if 57 ≤ l4 then
    if zb_in 50 (zb_sz (b0 + 1)) then zb_let (zb_pa S (b0 + 1) (Int32.toNatClampNeg 50) 1) (fun S1 : zb_S =>
    some ((), S1)) else none
  else
    if zb_in l4 (zb_sz (b0 + 1)) then zb_let (zb_pa S (b0 + 1) (Int32.toNatClampNeg l4) 0) (fun S2 : zb_S =>
    zb_let (l4 + 1) (fun x3 : Int32 =>
    k25 S2 x3)) else none
set_option maxHeartbeats 4000000 in
set_option maxRecDepth 100000 in
theorem gX1_begin_25b {l : Launch} {G : zb_G} (N : Nat) (b0 : Nat) (h0 : zb_kd b0 = 1) (k25 : zb_S → Int32 → Option (Unit × zb_S)) (hk25 : ∀ (S : zb_S) (l4 : Int32), zb_Go zb_eV l G 0 RX1 cX1_begin 5 none 25 [(0, .ref (zb_ad G b0)), (4, .int l4)] [] S (k25 S l4)) (S : zb_S) (l4 : Int32) : zb_Go zb_eV l G 0 RX1 cX1_begin 5 none 25 [(0, .ref (zb_ad G b0)), (4, .int l4)] [] S (fX1_begin_25b N b0 k25 S l4) := by
  unfold fX1_begin_25b
  refine zg_iload 1 dX1_begin_25 rfl ?_
  refine zg_bipush (v := 57) dX1_begin_27 (by decide) ?_
  refine zg_icmp_ge 46 dX1_begin_29 (by decide) ?_ ?_
  · refine zg_aload_n 0 dX1_begin_46 rfl rfl ?_
    refine zq_X1_4 h0 (zk_X1_4 h0).1 zw_55 dX1_begin_47 ?_
    refine zg_bipush (v := 50) dX1_begin_50 (by decide) ?_
    refine zg_iconst (v := 1) dX1_begin_52 (by decide) ?_
    refine zg_iast (zk_X1_4 h0).2.1 dX1_begin_53 (fun S1 => ?_)
    exact zg_vret rfl dX1_begin_54
  · refine zg_aload_n 0 dX1_begin_32 rfl rfl ?_
    refine zq_X1_4 h0 (zk_X1_4 h0).1 zw_55 dX1_begin_33 ?_
    refine zg_iload 1 dX1_begin_36 rfl ?_
    refine zg_iconst (v := 0) dX1_begin_38 (by decide) ?_
    refine zg_iast (zk_X1_4 h0).2.1 dX1_begin_39 (fun S2 => ?_)
    refine zg_iincL (fun x3 => [(4, .int x3), (0, .ref (zb_ad G b0))]) 1 dX1_begin_40 rfl rfl (by decide) (fun _ => rfl) (fun x3 => ?_)
    refine zg_goto (tgt := 25) dX1_begin_43 (by decide) ?_
    refine zg_sub [1, 0] rfl ?_
    exact hk25 S2 x3
def fX1_begin_25 (N : Nat) (b0 : Nat) : Nat → zb_S → Int32 → Option (Unit × zb_S)
  | 0, _, _ => none
  | n + 1, S, l4 => fX1_begin_25b N b0 (fX1_begin_25 N b0 n) S l4
set_option maxHeartbeats 4000000 in
set_option maxRecDepth 100000 in
theorem gX1_begin_25 {l : Launch} {G : zb_G} (N : Nat) (b0 : Nat) (h0 : zb_kd b0 = 1) : ∀ (n : Nat) (S : zb_S) (l4 : Int32), zb_Go zb_eV l G 0 RX1 cX1_begin 5 none 25 [(0, .ref (zb_ad G b0)), (4, .int l4)] [] S (fX1_begin_25 N b0 n S l4) := by
  intro n
  induction n with
  | zero => intros; exact zg_none
  | succ n ih =>
    intro S l4
    exact gX1_begin_25b N b0 h0 (fX1_begin_25 N b0 n) ih S l4
def fX1_begin_0 (N : Nat) (b0 : Nat) (S : zb_S) (a1 : Int32) (a2 : Int32) (a3 : Int32) : Option (Unit × zb_S) :=
  zb_let (zb_pi S b0 0 a1) (fun S1 : zb_S =>
  zb_let (zb_pi S1 b0 1 a2) (fun S2 : zb_S =>
  zb_let (zb_pi S2 b0 2 (a1 + a2)) (fun S3 : zb_S =>
  zb_let (zb_pi S3 b0 3 a3) (fun S4 : zb_S =>
  fX1_begin_25 N b0 N S4 0))))
set_option maxHeartbeats 4000000 in
set_option maxRecDepth 100000 in
theorem gX1_begin_0 {l : Launch} {G : zb_G} (N : Nat) (b0 : Nat) (h0 : zb_kd b0 = 1) (S : zb_S) (a1 : Int32) (a2 : Int32) (a3 : Int32) : zb_Go zb_eV l G 0 RX1 cX1_begin 5 none 0 [(0, .ref (zb_ad G b0)), (1, .int a1), (2, .int a2), (3, .int a3)] [] S (fX1_begin_0 N b0 S a1 a2 a3) := by
  unfold fX1_begin_0
  refine zg_aload_n 0 dX1_begin_0 rfl rfl ?_
  refine zg_iload_n 1 dX1_begin_1 rfl rfl ?_
  refine zp_X1_0 h0 zw_51 dX1_begin_2 (fun S1 => ?_)
  refine zg_aload_n 0 dX1_begin_5 rfl rfl ?_
  refine zg_iload_n 2 dX1_begin_6 rfl rfl ?_
  refine zp_X1_1 h0 zw_52 dX1_begin_7 (fun S2 => ?_)
  refine zg_aload_n 0 dX1_begin_10 rfl rfl ?_
  refine zg_iload_n 1 dX1_begin_11 rfl rfl ?_
  refine zg_iload_n 2 dX1_begin_12 rfl rfl ?_
  refine zg_iadd dX1_begin_13 ?_
  refine zp_X1_2 h0 zw_53 dX1_begin_14 (fun S3 => ?_)
  refine zg_aload_n 0 dX1_begin_17 rfl rfl ?_
  refine zg_iload_n 3 dX1_begin_18 rfl rfl ?_
  refine zp_X1_3 h0 zw_54 dX1_begin_19 (fun S4 => ?_)
  refine zg_iconst (v := 0) dX1_begin_22 (by decide) ?_
  refine zg_istore (lv' := [(4, .int 0), (0, .ref (zb_ad G b0)), (1, .int a1), (2, .int a2), (3, .int a3)]) dX1_begin_23 (by decide) rfl ?_
  refine zg_sub [1, 0] rfl ?_
  exact gX1_begin_25 N b0 h0 N S4 0
def fX1_begin (N : Nat) (b0 : Nat) (S : zb_S) (a1 : Int32) (a2 : Int32) (a3 : Int32) : Option (Unit × zb_S) := fX1_begin_0 N b0 S a1 a2 a3
theorem zcX1_begin {l : Launch} {G : zb_G} (N : Nat) (b0 : Nat) (h0 : zb_kd b0 = 1) (S : zb_S) (a1 : Int32) (a2 : Int32) (a3 : Int32) : zb_C zb_eV l G 0 yX1_begin cX1_begin 5 none [.ref (zb_ad G b0), .int a1, .int a2, .int a3] S (fX1_begin N b0 S a1 a2 a3) :=
  zb_C.of (by decide +kernel) rfl (Nat.le_of_ble_eq_true rfl) rfl (gX1_begin_0 N b0 h0 S a1 a2 a3)
-- X1_copy
def fX1_copy_0 (N : Nat) (b0 : Nat) (b1 : Nat) (S : zb_S) : Option (Unit × zb_S) :=
  zb_let (zb_pi S b0 0 (zb_i S b1 0)) (fun S1 : zb_S =>
  zb_let (zb_pi S1 b0 1 (zb_i S1 b1 1)) (fun S2 : zb_S =>
  zb_let (zb_pi S2 b0 2 (zb_i S2 b1 2)) (fun S3 : zb_S =>
  zb_let (zb_pi S3 b0 3 (zb_i S3 b1 3)) (fun S4 : zb_S =>
  if zb_cpok 0 0 57 (zb_sz (b1 + 1)) (zb_sz (b0 + 1)) then zb_let (zb_cp S4 (b1 + 1) (Int32.toNatClampNeg 0) (b0 + 1) (Int32.toNatClampNeg 0) (Int32.toNatClampNeg 57)) (fun S5 : zb_S =>
  some ((), S5)) else none))))
set_option maxHeartbeats 4000000 in
set_option maxRecDepth 100000 in
theorem gX1_copy_0 {l : Launch} {G : zb_G} (N : Nat) (b0 : Nat) (h0 : zb_kd b0 = 1) (b1 : Nat) (h1 : zb_kd b1 = 1) (S : zb_S) : zb_Go zb_eV l G 0 RX1 cX1_copy 2 none 0 [(0, .ref (zb_ad G b0)), (1, .ref (zb_ad G b1))] [] S (fX1_copy_0 N b0 b1 S) := by
  unfold fX1_copy_0
  refine zg_aload_n 0 dX1_copy_0 rfl rfl ?_
  refine zg_aload_n 1 dX1_copy_1 rfl rfl ?_
  refine zq_X1_0 h1 zw_51 dX1_copy_2 ?_
  refine zp_X1_0 h0 zw_51 dX1_copy_5 (fun S1 => ?_)
  refine zg_aload_n 0 dX1_copy_8 rfl rfl ?_
  refine zg_aload_n 1 dX1_copy_9 rfl rfl ?_
  refine zq_X1_1 h1 zw_52 dX1_copy_10 ?_
  refine zp_X1_1 h0 zw_52 dX1_copy_13 (fun S2 => ?_)
  refine zg_aload_n 0 dX1_copy_16 rfl rfl ?_
  refine zg_aload_n 1 dX1_copy_17 rfl rfl ?_
  refine zq_X1_2 h1 zw_53 dX1_copy_18 ?_
  refine zp_X1_2 h0 zw_53 dX1_copy_21 (fun S3 => ?_)
  refine zg_aload_n 0 dX1_copy_24 rfl rfl ?_
  refine zg_aload_n 1 dX1_copy_25 rfl rfl ?_
  refine zq_X1_3 h1 zw_54 dX1_copy_26 ?_
  refine zp_X1_3 h0 zw_54 dX1_copy_29 (fun S4 => ?_)
  refine zg_aload_n 1 dX1_copy_32 rfl rfl ?_
  refine zq_X1_4 h1 (zk_X1_4 h1).1 zw_55 dX1_copy_33 ?_
  refine zg_iconst (v := 0) dX1_copy_36 (by decide) ?_
  refine zg_aload_n 0 dX1_copy_37 rfl rfl ?_
  refine zq_X1_4 h0 (zk_X1_4 h0).1 zw_55 dX1_copy_38 ?_
  refine zg_iconst (v := 0) dX1_copy_41 (by decide) ?_
  refine zg_bipush (v := 57) dX1_copy_42 (by decide) ?_
  refine zg_copy (zk_X1_4 h1).2.1 (zk_X1_4 h0).2.1 zw_537 zw_295 zw_296 zw_297 (Nat.le_of_ble_eq_true rfl) dX1_copy_44 (fun S5 => ?_)
  exact zg_vret rfl dX1_copy_47
def fX1_copy (N : Nat) (b0 : Nat) (b1 : Nat) (S : zb_S) : Option (Unit × zb_S) := fX1_copy_0 N b0 b1 S
theorem zcX1_copy {l : Launch} {G : zb_G} (N : Nat) (b0 : Nat) (h0 : zb_kd b0 = 1) (b1 : Nat) (h1 : zb_kd b1 = 1) (S : zb_S) : zb_C zb_eV l G 0 yX1_copy cX1_copy 2 none [.ref (zb_ad G b0), .ref (zb_ad G b1)] S (fX1_copy N b0 b1 S) :=
  zb_C.of (by decide +kernel) rfl (Nat.le_of_ble_eq_true rfl) rfl (gX1_copy_0 N b0 h0 b1 h1 S)
-- X1_hasZone
def fX1_hasZone_0 (N : Nat) (b0 : Nat) (S : zb_S) (a1 : Int32) : Option (Int32 × zb_S) :=
  if a1 < 0 then
    if (0 : Int32) = 0 ∨ (0 : Int32) = 1 then some (0, S) else none
  else
    if (zb_i S b0 2) ≤ a1 then
      if (0 : Int32) = 0 ∨ (0 : Int32) = 1 then some (0, S) else none
    else
      if 12 ≤ a1 then
        if (0 : Int32) = 0 ∨ (0 : Int32) = 1 then some (0, S) else none
      else
        if (1 : Int32) = 0 ∨ (1 : Int32) = 1 then some (1, S) else none
set_option maxHeartbeats 4000000 in
set_option maxRecDepth 100000 in
theorem gX1_hasZone_0 {l : Launch} {G : zb_G} (N : Nat) (b0 : Nat) (h0 : zb_kd b0 = 1) (S : zb_S) (a1 : Int32) : zb_Go zb_eI l G 0 RX1 cX1_hasZone 2 (some .boolean) 0 [(0, .ref (zb_ad G b0)), (1, .int a1)] [] S (fX1_hasZone_0 N b0 S a1) := by
  unfold fX1_hasZone_0
  refine zg_iload_n 1 dX1_hasZone_0 rfl rfl ?_
  refine zg_if_lt 22 dX1_hasZone_1 (by decide) ?_ ?_
  · refine zg_iconst (v := 0) dX1_hasZone_22 (by decide) ?_
    exact zg_zret rfl dX1_hasZone_23
  · refine zg_iload_n 1 dX1_hasZone_4 rfl rfl ?_
    refine zg_aload_n 0 dX1_hasZone_5 rfl rfl ?_
    refine zq_X1_2 h0 zw_53 dX1_hasZone_6 ?_
    refine zg_icmp_ge 22 dX1_hasZone_9 (by decide) ?_ ?_
    · refine zg_iconst (v := 0) dX1_hasZone_22 (by decide) ?_
      exact zg_zret rfl dX1_hasZone_23
    · refine zg_iload_n 1 dX1_hasZone_12 rfl rfl ?_
      refine zg_bipush (v := 12) dX1_hasZone_13 (by decide) ?_
      refine zg_icmp_ge 22 dX1_hasZone_15 (by decide) ?_ ?_
      · refine zg_iconst (v := 0) dX1_hasZone_22 (by decide) ?_
        exact zg_zret rfl dX1_hasZone_23
      · refine zg_iconst (v := 1) dX1_hasZone_18 (by decide) ?_
        refine zg_goto (tgt := 23) dX1_hasZone_19 (by decide) ?_
        exact zg_zret rfl dX1_hasZone_23
def fX1_hasZone (N : Nat) (b0 : Nat) (S : zb_S) (a1 : Int32) : Option (Int32 × zb_S) := fX1_hasZone_0 N b0 S a1
theorem zcX1_hasZone {l : Launch} {G : zb_G} (N : Nat) (b0 : Nat) (h0 : zb_kd b0 = 1) (S : zb_S) (a1 : Int32) : zb_C zb_eI l G 0 yX1_hasZone cX1_hasZone 2 (some .boolean) [.ref (zb_ad G b0), .int a1] S (fX1_hasZone N b0 S a1) :=
  zb_C.of (by decide +kernel) rfl (Nat.le_of_ble_eq_true rfl) rfl (gX1_hasZone_0 N b0 h0 S a1)
-- X1_hasLine
def fX1_hasLine_16 (N : Nat) (b0 : Nat) (S : zb_S) : Option (Int32 × zb_S) :=
  if (1 : Int32) = 0 ∨ (1 : Int32) = 1 then some (1, S) else none
set_option maxHeartbeats 4000000 in
set_option maxRecDepth 100000 in
theorem gX1_hasLine_16 {l : Launch} {G : zb_G} (N : Nat) (b0 : Nat) (h0 : zb_kd b0 = 1) (S : zb_S) : zb_Go zb_eI l G 0 RX1 cX1_hasLine 2 (some .boolean) 16 [] [] S (fX1_hasLine_16 N b0 S) := by
  unfold fX1_hasLine_16
  refine zg_iconst (v := 1) dX1_hasLine_16 (by decide) ?_
  refine zg_goto (tgt := 21) dX1_hasLine_17 (by decide) ?_
  exact zg_zret rfl dX1_hasLine_21
def fX1_hasLine_0 (N : Nat) (b0 : Nat) (S : zb_S) (a1 : Int32) : Option (Int32 × zb_S) :=
  if a1 = 0 then
    fX1_hasLine_16 N b0 S
  else
    if a1 = 1 then
      if (zb_i S b0 1) ≤ 0 then
        if (0 : Int32) = 0 ∨ (0 : Int32) = 1 then some (0, S) else none
      else
        fX1_hasLine_16 N b0 S
    else
      if (0 : Int32) = 0 ∨ (0 : Int32) = 1 then some (0, S) else none
set_option maxHeartbeats 4000000 in
set_option maxRecDepth 100000 in
theorem gX1_hasLine_0 {l : Launch} {G : zb_G} (N : Nat) (b0 : Nat) (h0 : zb_kd b0 = 1) (S : zb_S) (a1 : Int32) : zb_Go zb_eI l G 0 RX1 cX1_hasLine 2 (some .boolean) 0 [(0, .ref (zb_ad G b0)), (1, .int a1)] [] S (fX1_hasLine_0 N b0 S a1) := by
  unfold fX1_hasLine_0
  refine zg_iload_n 1 dX1_hasLine_0 rfl rfl ?_
  refine zg_if_eq 16 dX1_hasLine_1 (by decide) ?_ ?_
  · refine zg_sub [] rfl ?_
    exact gX1_hasLine_16 N b0 h0 S
  · refine zg_iload_n 1 dX1_hasLine_4 rfl rfl ?_
    refine zg_iconst (v := 1) dX1_hasLine_5 (by decide) ?_
    refine zg_icmp_ne 20 dX1_hasLine_6 (by decide) ?_ ?_
    · refine zg_iconst (v := 0) dX1_hasLine_20 (by decide) ?_
      exact zg_zret rfl dX1_hasLine_21
    · refine zg_aload_n 0 dX1_hasLine_9 rfl rfl ?_
      refine zq_X1_1 h0 zw_52 dX1_hasLine_10 ?_
      refine zg_if_le 20 dX1_hasLine_13 (by decide) ?_ ?_
      · refine zg_iconst (v := 0) dX1_hasLine_20 (by decide) ?_
        exact zg_zret rfl dX1_hasLine_21
      · refine zg_sub [] rfl ?_
        exact gX1_hasLine_16 N b0 h0 S
def fX1_hasLine (N : Nat) (b0 : Nat) (S : zb_S) (a1 : Int32) : Option (Int32 × zb_S) := fX1_hasLine_0 N b0 S a1
theorem zcX1_hasLine {l : Launch} {G : zb_G} (N : Nat) (b0 : Nat) (h0 : zb_kd b0 = 1) (S : zb_S) (a1 : Int32) : zb_C zb_eI l G 0 yX1_hasLine cX1_hasLine 2 (some .boolean) [.ref (zb_ad G b0), .int a1] S (fX1_hasLine N b0 S a1) :=
  zb_C.of (by decide +kernel) rfl (Nat.le_of_ble_eq_true rfl) rfl (gX1_hasLine_0 N b0 h0 S a1)
-- X1_entryOf
def fX1_entryOf_0 (N : Nat) (b0 : Nat) (S : zb_S) (a1 : Int32) : Option (Int32 × zb_S) :=
  if a1 = 0 then
    some (0, S)
  else
    some (zb_i S b0 0, S)
set_option maxHeartbeats 4000000 in
set_option maxRecDepth 100000 in
theorem gX1_entryOf_0 {l : Launch} {G : zb_G} (N : Nat) (b0 : Nat) (h0 : zb_kd b0 = 1) (S : zb_S) (a1 : Int32) : zb_Go zb_eI l G 0 RX1 cX1_entryOf 2 (some .int) 0 [(0, .ref (zb_ad G b0)), (1, .int a1)] [] S (fX1_entryOf_0 N b0 S a1) := by
  unfold fX1_entryOf_0
  refine zg_iload_n 1 dX1_entryOf_0 rfl rfl ?_
  refine zg_if_ne 8 dX1_entryOf_1 (by decide) ?_ ?_
  · refine zg_aload_n 0 dX1_entryOf_8 rfl rfl ?_
    refine zq_X1_0 h0 zw_51 dX1_entryOf_9 ?_
    exact zg_iret rfl dX1_entryOf_12
  · refine zg_iconst (v := 0) dX1_entryOf_4 (by decide) ?_
    refine zg_goto (tgt := 12) dX1_entryOf_5 (by decide) ?_
    exact zg_iret rfl dX1_entryOf_12
def fX1_entryOf (N : Nat) (b0 : Nat) (S : zb_S) (a1 : Int32) : Option (Int32 × zb_S) := fX1_entryOf_0 N b0 S a1
theorem zcX1_entryOf {l : Launch} {G : zb_G} (N : Nat) (b0 : Nat) (h0 : zb_kd b0 = 1) (S : zb_S) (a1 : Int32) : zb_C zb_eI l G 0 yX1_entryOf cX1_entryOf 2 (some .int) [.ref (zb_ad G b0), .int a1] S (fX1_entryOf N b0 S a1) :=
  zb_C.of (by decide +kernel) rfl (Nat.le_of_ble_eq_true rfl) rfl (gX1_entryOf_0 N b0 h0 S a1)
-- X1_hasCarton
def fX1_hasCarton_0 (N : Nat) (b0 : Nat) (S : zb_S) (a1 : Int32) : Option (Int32 × zb_S) :=
  if zb_in (0 + a1) (zb_sz (b0 + 1)) then
  if (zb_a S (b0 + 1) (Int32.toNatClampNeg (0 + a1))) = 0 then
    if (0 : Int32) = 0 ∨ (0 : Int32) = 1 then some (0, S) else none
  else
    if (1 : Int32) = 0 ∨ (1 : Int32) = 1 then some (1, S) else none else none
set_option maxHeartbeats 4000000 in
set_option maxRecDepth 100000 in
theorem gX1_hasCarton_0 {l : Launch} {G : zb_G} (N : Nat) (b0 : Nat) (h0 : zb_kd b0 = 1) (S : zb_S) (a1 : Int32) : zb_Go zb_eI l G 0 RX1 cX1_hasCarton 2 (some .boolean) 0 [(0, .ref (zb_ad G b0)), (1, .int a1)] [] S (fX1_hasCarton_0 N b0 S a1) := by
  unfold fX1_hasCarton_0
  refine zg_aload_n 0 dX1_hasCarton_0 rfl rfl ?_
  refine zq_X1_4 h0 (zk_X1_4 h0).1 zw_55 dX1_hasCarton_1 ?_
  refine zg_iconst (v := 0) dX1_hasCarton_4 (by decide) ?_
  refine zg_iload_n 1 dX1_hasCarton_5 rfl rfl ?_
  refine zg_iadd dX1_hasCarton_6 ?_
  refine zg_iald (zk_X1_4 h0).2.1 dX1_hasCarton_7 ?_
  refine zg_if_eq 15 dX1_hasCarton_8 (by decide) ?_ ?_
  · refine zg_iconst (v := 0) dX1_hasCarton_15 (by decide) ?_
    exact zg_zret rfl dX1_hasCarton_16
  · refine zg_iconst (v := 1) dX1_hasCarton_11 (by decide) ?_
    refine zg_goto (tgt := 16) dX1_hasCarton_12 (by decide) ?_
    exact zg_zret rfl dX1_hasCarton_16
def fX1_hasCarton (N : Nat) (b0 : Nat) (S : zb_S) (a1 : Int32) : Option (Int32 × zb_S) := fX1_hasCarton_0 N b0 S a1
theorem zcX1_hasCarton {l : Launch} {G : zb_G} (N : Nat) (b0 : Nat) (h0 : zb_kd b0 = 1) (S : zb_S) (a1 : Int32) : zb_C zb_eI l G 0 yX1_hasCarton cX1_hasCarton 2 (some .boolean) [.ref (zb_ad G b0), .int a1] S (fX1_hasCarton N b0 S a1) :=
  zb_C.of (by decide +kernel) rfl (Nat.le_of_ble_eq_true rfl) rfl (gX1_hasCarton_0 N b0 h0 S a1)
-- X1_isJammed
def fX1_isJammed_0 (N : Nat) (b0 : Nat) (S : zb_S) (a1 : Int32) : Option (Int32 × zb_S) :=
  if zb_in 48 (zb_sz (b0 + 1)) then
  zb_bind (fX1_in N S (zb_a S (b0 + 1) (Int32.toNatClampNeg 48)) a1) (fun r2 S1 =>
  if (r2 : Int32) = 0 ∨ (r2 : Int32) = 1 then some (r2, S1) else none) else none
set_option maxHeartbeats 4000000 in
set_option maxRecDepth 100000 in
theorem gX1_isJammed_0 {l : Launch} {G : zb_G} (N : Nat) (b0 : Nat) (h0 : zb_kd b0 = 1) (S : zb_S) (a1 : Int32) : zb_Go zb_eI l G 1 RX1 cX1_isJammed 2 (some .boolean) 0 [(0, .ref (zb_ad G b0)), (1, .int a1)] [] S (fX1_isJammed_0 N b0 S a1) := by
  unfold fX1_isJammed_0
  refine zg_aload_n 0 dX1_isJammed_0 rfl rfl ?_
  refine zq_X1_4 h0 (zk_X1_4 h0).1 zw_55 dX1_isJammed_1 ?_
  refine zg_bipush (v := 48) dX1_isJammed_4 (by decide) ?_
  refine zg_iald (zk_X1_4 h0).2.1 dX1_isJammed_6 ?_
  refine zg_iload_n 1 dX1_isJammed_7 rfl rfl ?_
  refine zg_callSI (As := [.int (zb_a S (b0 + 1) (Int32.toNatClampNeg 48)), .int a1]) (rest := []) 2 (zcX1_in N S (zb_a S (b0 + 1) (Int32.toNatClampNeg 48)) a1) (by decide) (by decide) zw_247 zw_157 zw_19 zw_158 (by decide +kernel) rfl rfl (Nat.le_of_ble_eq_true rfl) dX1_isJammed_8 (fun r2 S1 => ?_)
  exact zg_zret rfl dX1_isJammed_11
def fX1_isJammed (N : Nat) (b0 : Nat) (S : zb_S) (a1 : Int32) : Option (Int32 × zb_S) := fX1_isJammed_0 N b0 S a1
theorem zcX1_isJammed {l : Launch} {G : zb_G} (N : Nat) (b0 : Nat) (h0 : zb_kd b0 = 1) (S : zb_S) (a1 : Int32) : zb_C zb_eI l G 1 yX1_isJammed cX1_isJammed 2 (some .boolean) [.ref (zb_ad G b0), .int a1] S (fX1_isJammed N b0 S a1) :=
  zb_C.of (by decide +kernel) rfl (Nat.le_of_ble_eq_true rfl) rfl (gX1_isJammed_0 N b0 h0 S a1)
-- X1_canFeed
def fX1_canFeed_0 (N : Nat) (b0 : Nat) (S : zb_S) (a1 : Int32) : Option (Int32 × zb_S) :=
  zb_bind (fX1_hasLine N b0 S a1) (fun r2 S1 =>
  if r2 = 0 then
    if (0 : Int32) = 0 ∨ (0 : Int32) = 1 then some (0, S1) else none
  else
    zb_bind (fX1_entryOf N b0 S1 a1) (fun r4 S3 =>
    zb_bind (fX1_hasCarton N b0 S3 r4) (fun r6 S5 =>
    if r6 = 0 then
      if zb_in 54 (zb_sz (b0 + 1)) then
      if 99 ≤ (zb_a S5 (b0 + 1) (Int32.toNatClampNeg 54)) then
        if (0 : Int32) = 0 ∨ (0 : Int32) = 1 then some (0, S5) else none
      else
        if (1 : Int32) = 0 ∨ (1 : Int32) = 1 then some (1, S5) else none else none
    else
      if (0 : Int32) = 0 ∨ (0 : Int32) = 1 then some (0, S5) else none)))
set_option maxHeartbeats 4000000 in
set_option maxRecDepth 100000 in
theorem gX1_canFeed_0 {l : Launch} {G : zb_G} (N : Nat) (b0 : Nat) (h0 : zb_kd b0 = 1) (S : zb_S) (a1 : Int32) : zb_Go zb_eI l G 1 RX1 cX1_canFeed 2 (some .boolean) 0 [(0, .ref (zb_ad G b0)), (1, .int a1)] [] S (fX1_canFeed_0 N b0 S a1) := by
  unfold fX1_canFeed_0
  refine zg_aload_n 0 dX1_canFeed_0 rfl rfl ?_
  refine zg_iload_n 1 dX1_canFeed_1 rfl rfl ?_
  refine zg_callVI (As := [.int a1]) (rest := []) 1 (zcX1_hasLine N b0 h0 S a1) (by decide) (by decide) h0 (by decide) rfl zw_280 zw_269 zw_270 zw_19 zw_271 (by decide +kernel) rfl rfl (Nat.le_of_ble_eq_true rfl) dX1_canFeed_2 (fun r2 S1 => ?_)
  refine zg_if_eq 36 dX1_canFeed_5 (by decide) ?_ ?_
  · refine zg_iconst (v := 0) dX1_canFeed_36 (by decide) ?_
    exact zg_zret rfl dX1_canFeed_37
  · refine zg_aload_n 0 dX1_canFeed_8 rfl rfl ?_
    refine zg_aload_n 0 dX1_canFeed_9 rfl rfl ?_
    refine zg_iload_n 1 dX1_canFeed_10 rfl rfl ?_
    refine zg_callVI (As := [.int a1]) (rest := [.ref (zb_ad G b0)]) 1 (zcX1_entryOf N b0 h0 S1 a1) (by decide) (by decide) h0 (by decide) rfl zw_281 zw_273 zw_274 zw_19 zw_275 (by decide +kernel) rfl rfl (Nat.le_of_ble_eq_true rfl) dX1_canFeed_11 (fun r4 S3 => ?_)
    refine zg_callVI (As := [.int r4]) (rest := []) 1 (zcX1_hasCarton N b0 h0 S3 r4) (by decide) (by decide) h0 (by decide) rfl zw_241 zw_234 zw_235 zw_19 zw_236 (by decide +kernel) rfl rfl (Nat.le_of_ble_eq_true rfl) dX1_canFeed_14 (fun r6 S5 => ?_)
    refine zg_if_ne 36 dX1_canFeed_17 (by decide) ?_ ?_
    · refine zg_iconst (v := 0) dX1_canFeed_36 (by decide) ?_
      exact zg_zret rfl dX1_canFeed_37
    · refine zg_aload_n 0 dX1_canFeed_20 rfl rfl ?_
      refine zq_X1_4 h0 (zk_X1_4 h0).1 zw_55 dX1_canFeed_21 ?_
      refine zg_bipush (v := 54) dX1_canFeed_24 (by decide) ?_
      refine zg_iald (zk_X1_4 h0).2.1 dX1_canFeed_26 ?_
      refine zg_bipush (v := 99) dX1_canFeed_27 (by decide) ?_
      refine zg_icmp_ge 36 dX1_canFeed_29 (by decide) ?_ ?_
      · refine zg_iconst (v := 0) dX1_canFeed_36 (by decide) ?_
        exact zg_zret rfl dX1_canFeed_37
      · refine zg_iconst (v := 1) dX1_canFeed_32 (by decide) ?_
        refine zg_goto (tgt := 37) dX1_canFeed_33 (by decide) ?_
        exact zg_zret rfl dX1_canFeed_37
def fX1_canFeed (N : Nat) (b0 : Nat) (S : zb_S) (a1 : Int32) : Option (Int32 × zb_S) := fX1_canFeed_0 N b0 S a1
theorem zcX1_canFeed {l : Launch} {G : zb_G} (N : Nat) (b0 : Nat) (h0 : zb_kd b0 = 1) (S : zb_S) (a1 : Int32) : zb_C zb_eI l G 1 yX1_canFeed cX1_canFeed 2 (some .boolean) [.ref (zb_ad G b0), .int a1] S (fX1_canFeed N b0 S a1) :=
  zb_C.of (by decide +kernel) rfl (Nat.le_of_ble_eq_true rfl) rfl (gX1_canFeed_0 N b0 h0 S a1)
-- X1_change
def fX1_change_0 (N : Nat) (b0 : Nat) (S : zb_S) (a1 : Int32) (a2 : Int32) : Option (Int32 × zb_S) :=
  if zb_in a1 (zb_sz (b0 + 1)) then
  zb_let (zb_a S (b0 + 1) (Int32.toNatClampNeg a1)) (fun x1 : Int32 =>
  if zb_in a1 (zb_sz (b0 + 1)) then zb_let (zb_pa S (b0 + 1) (Int32.toNatClampNeg a1) a2) (fun S2 : zb_S =>
  some (x1, S2)) else none) else none
set_option maxHeartbeats 4000000 in
set_option maxRecDepth 100000 in
theorem gX1_change_0 {l : Launch} {G : zb_G} (N : Nat) (b0 : Nat) (h0 : zb_kd b0 = 1) (S : zb_S) (a1 : Int32) (a2 : Int32) : zb_Go zb_eI l G 0 RX1 cX1_change 4 (some .int) 0 [(0, .ref (zb_ad G b0)), (1, .int a1), (2, .int a2)] [] S (fX1_change_0 N b0 S a1 a2) := by
  unfold fX1_change_0
  refine zg_aload_n 0 dX1_change_0 rfl rfl ?_
  refine zq_X1_4 h0 (zk_X1_4 h0).1 zw_55 dX1_change_1 ?_
  refine zg_iload_n 1 dX1_change_4 rfl rfl ?_
  refine zg_iald (zk_X1_4 h0).2.1 dX1_change_5 ?_
  refine zg_istore_nL (fun x1 => [(3, .int x1), (0, .ref (zb_ad G b0)), (1, .int a1), (2, .int a2)]) dX1_change_6 rfl (by decide) (fun _ => rfl) (fun x1 => ?_)
  refine zg_aload_n 1 dX1_change_7 rfl rfl ?_
  refine zq_X1_4 h0 (zk_X1_4 h0).1 zw_55 dX1_change_8 ?_
  refine zg_iload_n 2 dX1_change_11 rfl rfl ?_
  refine zg_iload_n 3 dX1_change_12 rfl rfl ?_
  refine zg_iast (zk_X1_4 h0).2.1 dX1_change_13 (fun S2 => ?_)
  refine zg_iload_n 0 dX1_change_14 rfl rfl ?_
  exact zg_iret rfl dX1_change_15
def fX1_change (N : Nat) (b0 : Nat) (S : zb_S) (a1 : Int32) (a2 : Int32) : Option (Int32 × zb_S) := fX1_change_0 N b0 S a1 a2
theorem zcX1_change {l : Launch} {G : zb_G} (N : Nat) (b0 : Nat) (h0 : zb_kd b0 = 1) (S : zb_S) (a1 : Int32) (a2 : Int32) : zb_C zb_eI l G 0 yX1_change cX1_change 4 (some .int) [.ref (zb_ad G b0), .int a1, .int a2] S (fX1_change N b0 S a1 a2) :=
  zb_C.of (by decide +kernel) rfl (Nat.le_of_ble_eq_true rfl) rfl (gX1_change_0 N b0 h0 S a1 a2)
-- X1_putNext
def fX1_putNext_0 (N : Nat) (b0 : Nat) (S : zb_S) (a1 : Int32) : Option (Int32 × zb_S) :=
  if zb_in 54 (zb_sz (b0 + 1)) then
  if zb_in 54 (zb_sz (b0 + 1)) then zb_let (zb_pa S (b0 + 1) (Int32.toNatClampNeg 54) ((zb_a S (b0 + 1) (Int32.toNatClampNeg 54)) + 1)) (fun S1 : zb_S =>
  if zb_in 54 (zb_sz (b0 + 1)) then
  if zb_in (0 + a1) (zb_sz (b0 + 1)) then zb_let (zb_pa S1 (b0 + 1) (Int32.toNatClampNeg (0 + a1)) (zb_a S1 (b0 + 1) (Int32.toNatClampNeg 54))) (fun S2 : zb_S =>
  if zb_in 54 (zb_sz (b0 + 1)) then
  some (zb_a S2 (b0 + 1) (Int32.toNatClampNeg 54), S2) else none) else none else none) else none else none
set_option maxHeartbeats 4000000 in
set_option maxRecDepth 100000 in
theorem gX1_putNext_0 {l : Launch} {G : zb_G} (N : Nat) (b0 : Nat) (h0 : zb_kd b0 = 1) (S : zb_S) (a1 : Int32) : zb_Go zb_eI l G 0 RX1 cX1_putNext 2 (some .int) 0 [(0, .ref (zb_ad G b0)), (1, .int a1)] [] S (fX1_putNext_0 N b0 S a1) := by
  unfold fX1_putNext_0
  refine zg_aload_n 0 dX1_putNext_0 rfl rfl ?_
  refine zq_X1_4 h0 (zk_X1_4 h0).1 zw_55 dX1_putNext_1 ?_
  refine zg_bipush (v := 54) dX1_putNext_4 (by decide) ?_
  refine zg_dup2 dX1_putNext_6 rfl rfl ?_
  refine zg_iald (zk_X1_4 h0).2.1 dX1_putNext_7 ?_
  refine zg_iconst (v := 1) dX1_putNext_8 (by decide) ?_
  refine zg_iadd dX1_putNext_9 ?_
  refine zg_iast (zk_X1_4 h0).2.1 dX1_putNext_10 (fun S1 => ?_)
  refine zg_aload_n 0 dX1_putNext_11 rfl rfl ?_
  refine zq_X1_4 h0 (zk_X1_4 h0).1 zw_55 dX1_putNext_12 ?_
  refine zg_iconst (v := 0) dX1_putNext_15 (by decide) ?_
  refine zg_iload_n 1 dX1_putNext_16 rfl rfl ?_
  refine zg_iadd dX1_putNext_17 ?_
  refine zg_aload_n 0 dX1_putNext_18 rfl rfl ?_
  refine zq_X1_4 h0 (zk_X1_4 h0).1 zw_55 dX1_putNext_19 ?_
  refine zg_bipush (v := 54) dX1_putNext_22 (by decide) ?_
  refine zg_iald (zk_X1_4 h0).2.1 dX1_putNext_24 ?_
  refine zg_iast (zk_X1_4 h0).2.1 dX1_putNext_25 (fun S2 => ?_)
  refine zg_aload_n 0 dX1_putNext_26 rfl rfl ?_
  refine zq_X1_4 h0 (zk_X1_4 h0).1 zw_55 dX1_putNext_27 ?_
  refine zg_bipush (v := 54) dX1_putNext_30 (by decide) ?_
  refine zg_iald (zk_X1_4 h0).2.1 dX1_putNext_32 ?_
  exact zg_iret rfl dX1_putNext_33
def fX1_putNext (N : Nat) (b0 : Nat) (S : zb_S) (a1 : Int32) : Option (Int32 × zb_S) := fX1_putNext_0 N b0 S a1
theorem zcX1_putNext {l : Launch} {G : zb_G} (N : Nat) (b0 : Nat) (h0 : zb_kd b0 = 1) (S : zb_S) (a1 : Int32) : zb_C zb_eI l G 0 yX1_putNext cX1_putNext 2 (some .int) [.ref (zb_ad G b0), .int a1] S (fX1_putNext N b0 S a1) :=
  zb_C.of (by decide +kernel) rfl (Nat.le_of_ble_eq_true rfl) rfl (gX1_putNext_0 N b0 h0 S a1)
-- X1_freeJam
def fX1_freeJam_0 (N : Nat) (b0 : Nat) (S : zb_S) (a1 : Int32) : Option (Unit × zb_S) :=
  if zb_in 48 (zb_sz (b0 + 1)) then
  if zb_in 48 (zb_sz (b0 + 1)) then zb_let (zb_pa S (b0 + 1) (Int32.toNatClampNeg 48) ((zb_a S (b0 + 1) (Int32.toNatClampNeg 48)) &&& (((1 : Int32) <<< (a1 &&& 31)) ^^^ (-1 : Int32)))) (fun S1 : zb_S =>
  some ((), S1)) else none else none
set_option maxHeartbeats 4000000 in
set_option maxRecDepth 100000 in
theorem gX1_freeJam_0 {l : Launch} {G : zb_G} (N : Nat) (b0 : Nat) (h0 : zb_kd b0 = 1) (S : zb_S) (a1 : Int32) : zb_Go zb_eV l G 0 RX1 cX1_freeJam 2 none 0 [(0, .ref (zb_ad G b0)), (1, .int a1)] [] S (fX1_freeJam_0 N b0 S a1) := by
  unfold fX1_freeJam_0
  refine zg_aload_n 0 dX1_freeJam_0 rfl rfl ?_
  refine zq_X1_4 h0 (zk_X1_4 h0).1 zw_55 dX1_freeJam_1 ?_
  refine zg_bipush (v := 48) dX1_freeJam_4 (by decide) ?_
  refine zg_dup2 dX1_freeJam_6 rfl rfl ?_
  refine zg_iald (zk_X1_4 h0).2.1 dX1_freeJam_7 ?_
  refine zg_iconst (v := 1) dX1_freeJam_8 (by decide) ?_
  refine zg_iload_n 1 dX1_freeJam_9 rfl rfl ?_
  refine zg_ishl dX1_freeJam_10 ?_
  refine zg_iconst (v := (-1)) dX1_freeJam_11 (by decide) ?_
  refine zg_ixor dX1_freeJam_12 ?_
  refine zg_iand dX1_freeJam_13 ?_
  refine zg_iast (zk_X1_4 h0).2.1 dX1_freeJam_14 (fun S1 => ?_)
  exact zg_vret rfl dX1_freeJam_15
def fX1_freeJam (N : Nat) (b0 : Nat) (S : zb_S) (a1 : Int32) : Option (Unit × zb_S) := fX1_freeJam_0 N b0 S a1
theorem zcX1_freeJam {l : Launch} {G : zb_G} (N : Nat) (b0 : Nat) (h0 : zb_kd b0 = 1) (S : zb_S) (a1 : Int32) : zb_C zb_eV l G 0 yX1_freeJam cX1_freeJam 2 none [.ref (zb_ad G b0), .int a1] S (fX1_freeJam N b0 S a1) :=
  zb_C.of (by decide +kernel) rfl (Nat.le_of_ble_eq_true rfl) rfl (gX1_freeJam_0 N b0 h0 S a1)
-- X1_takeAway
def fX1_takeAway_0 (N : Nat) (b0 : Nat) (S : zb_S) (a1 : Int32) : Option (Int32 × zb_S) :=
  zb_bind (fX1_freeJam N b0 S a1) (fun _ S1 =>
  zb_bind (fX1_change N b0 S1 (0 + a1) 0) (fun r4 S3 =>
  some (r4, S3)))
set_option maxHeartbeats 4000000 in
set_option maxRecDepth 100000 in
theorem gX1_takeAway_0 {l : Launch} {G : zb_G} (N : Nat) (b0 : Nat) (h0 : zb_kd b0 = 1) (S : zb_S) (a1 : Int32) : zb_Go zb_eI l G 1 RX1 cX1_takeAway 2 (some .int) 0 [(0, .ref (zb_ad G b0)), (1, .int a1)] [] S (fX1_takeAway_0 N b0 S a1) := by
  unfold fX1_takeAway_0
  refine zg_aload_n 0 dX1_takeAway_0 rfl rfl ?_
  refine zg_iload_n 1 dX1_takeAway_1 rfl rfl ?_
  refine zg_callVV (As := [.int a1]) (rest := []) 1 (zcX1_freeJam N b0 h0 S a1) (by decide) (by decide) h0 (by decide) rfl zw_327 zw_328 zw_329 zw_19 zw_330 (by decide +kernel) rfl rfl (Nat.le_of_ble_eq_true rfl) dX1_takeAway_2 (fun S1 => ?_)
  refine zg_aload_n 0 dX1_takeAway_5 rfl rfl ?_
  refine zg_iconst (v := 0) dX1_takeAway_6 (by decide) ?_
  refine zg_iload_n 1 dX1_takeAway_7 rfl rfl ?_
  refine zg_iadd dX1_takeAway_8 ?_
  refine zg_iconst (v := 0) dX1_takeAway_9 (by decide) ?_
  refine zg_callVI (As := [.int (0 + a1), .int 0]) (rest := []) 2 (zcX1_change N b0 h0 S1 (0 + a1) 0) (by decide) (by decide) h0 (by decide) rfl zw_331 zw_332 zw_333 zw_19 zw_334 (by decide +kernel) rfl rfl (Nat.le_of_ble_eq_true rfl) dX1_takeAway_10 (fun r4 S3 => ?_)
  exact zg_iret rfl dX1_takeAway_13
def fX1_takeAway (N : Nat) (b0 : Nat) (S : zb_S) (a1 : Int32) : Option (Int32 × zb_S) := fX1_takeAway_0 N b0 S a1
theorem zcX1_takeAway {l : Launch} {G : zb_G} (N : Nat) (b0 : Nat) (h0 : zb_kd b0 = 1) (S : zb_S) (a1 : Int32) : zb_C zb_eI l G 1 yX1_takeAway cX1_takeAway 2 (some .int) [.ref (zb_ad G b0), .int a1] S (fX1_takeAway N b0 S a1) :=
  zb_C.of (by decide +kernel) rfl (Nat.le_of_ble_eq_true rfl) rfl (gX1_takeAway_0 N b0 h0 S a1)
-- X1_turnExit
def fX1_turnExit_0 (N : Nat) (b0 : Nat) (S : zb_S) : Option (Int32 × zb_S) :=
  if zb_in 50 (zb_sz (b0 + 1)) then
  if zb_in 50 (zb_sz (b0 + 1)) then zb_let (zb_pa S (b0 + 1) (Int32.toNatClampNeg 50) (1 - (zb_a S (b0 + 1) (Int32.toNatClampNeg 50)))) (fun S1 : zb_S =>
  if zb_in 50 (zb_sz (b0 + 1)) then
  some (zb_a S1 (b0 + 1) (Int32.toNatClampNeg 50), S1) else none) else none else none
set_option maxHeartbeats 4000000 in
set_option maxRecDepth 100000 in
theorem gX1_turnExit_0 {l : Launch} {G : zb_G} (N : Nat) (b0 : Nat) (h0 : zb_kd b0 = 1) (S : zb_S) : zb_Go zb_eI l G 0 RX1 cX1_turnExit 1 (some .int) 0 [(0, .ref (zb_ad G b0))] [] S (fX1_turnExit_0 N b0 S) := by
  unfold fX1_turnExit_0
  refine zg_aload_n 0 dX1_turnExit_0 rfl rfl ?_
  refine zq_X1_4 h0 (zk_X1_4 h0).1 zw_55 dX1_turnExit_1 ?_
  refine zg_bipush (v := 50) dX1_turnExit_4 (by decide) ?_
  refine zg_iconst (v := 1) dX1_turnExit_6 (by decide) ?_
  refine zg_aload_n 0 dX1_turnExit_7 rfl rfl ?_
  refine zq_X1_4 h0 (zk_X1_4 h0).1 zw_55 dX1_turnExit_8 ?_
  refine zg_bipush (v := 50) dX1_turnExit_11 (by decide) ?_
  refine zg_iald (zk_X1_4 h0).2.1 dX1_turnExit_13 ?_
  refine zg_isub dX1_turnExit_14 ?_
  refine zg_iast (zk_X1_4 h0).2.1 dX1_turnExit_15 (fun S1 => ?_)
  refine zg_aload_n 0 dX1_turnExit_16 rfl rfl ?_
  refine zq_X1_4 h0 (zk_X1_4 h0).1 zw_55 dX1_turnExit_17 ?_
  refine zg_bipush (v := 50) dX1_turnExit_20 (by decide) ?_
  refine zg_iald (zk_X1_4 h0).2.1 dX1_turnExit_22 ?_
  exact zg_iret rfl dX1_turnExit_23
def fX1_turnExit (N : Nat) (b0 : Nat) (S : zb_S) : Option (Int32 × zb_S) := fX1_turnExit_0 N b0 S
theorem zcX1_turnExit {l : Launch} {G : zb_G} (N : Nat) (b0 : Nat) (h0 : zb_kd b0 = 1) (S : zb_S) : zb_C zb_eI l G 0 yX1_turnExit cX1_turnExit 1 (some .int) [.ref (zb_ad G b0)] S (fX1_turnExit N b0 S) :=
  zb_C.of (by decide +kernel) rfl (Nat.le_of_ble_eq_true rfl) rfl (gX1_turnExit_0 N b0 h0 S)
-- X1_loaded
def fX1_loaded_26 (N : Nat) (b0 : Nat) (k4 : zb_S → Int32 → Int32 → Option (Int32 × zb_S)) (S : zb_S) (l1 : Int32) (l2 : Int32) : Option (Int32 × zb_S) :=
  zb_let (l2 + 1) (fun x1 : Int32 =>
  k4 S l1 x1)
set_option maxHeartbeats 4000000 in
set_option maxRecDepth 100000 in
theorem gX1_loaded_26 {l : Launch} {G : zb_G} (N : Nat) (b0 : Nat) (h0 : zb_kd b0 = 1) (k4 : zb_S → Int32 → Int32 → Option (Int32 × zb_S)) (hk4 : ∀ (S : zb_S) (l1 : Int32) (l2 : Int32), zb_Go zb_eI l G 1 RX1 cX1_loaded 3 (some .int) 4 [(0, .ref (zb_ad G b0)), (1, .int l1), (2, .int l2)] [] S (k4 S l1 l2)) (S : zb_S) (l1 : Int32) (l2 : Int32) : zb_Go zb_eI l G 1 RX1 cX1_loaded 3 (some .int) 26 [(0, .ref (zb_ad G b0)), (1, .int l1), (2, .int l2)] [] S (fX1_loaded_26 N b0 k4 S l1 l2) := by
  unfold fX1_loaded_26
  refine zg_iincL (fun x1 => [(2, .int x1), (0, .ref (zb_ad G b0)), (1, .int l1)]) 2 dX1_loaded_26 rfl rfl (by decide) (fun _ => rfl) (fun x1 => ?_)
  refine zg_goto (tgt := 4) dX1_loaded_29 (by decide) ?_
  refine zg_sub [1, 2, 0] rfl ?_
  exact hk4 S l1 x1
def fX1_loaded_4b (N : Nat) (b0 : Nat) (k4 : zb_S → Int32 → Int32 → Option (Int32 × zb_S)) (S : zb_S) (l1 : Int32) (l2 : Int32) : Option (Int32 × zb_S) :=
  if (zb_i S b0 2) ≤ l2 then
    some (l1, S)
  else
    zb_bind (fX1_hasCarton N b0 S l2) (fun r2 S1 =>
    if r2 = 0 then
      fX1_loaded_26 N b0 k4 S1 l1 l2
    else
      zb_let (l1 ||| ((1 : Int32) <<< (l2 &&& 31))) (fun x3 : Int32 =>
      fX1_loaded_26 N b0 k4 S1 x3 l2))
set_option maxHeartbeats 4000000 in
set_option maxRecDepth 100000 in
theorem gX1_loaded_4b {l : Launch} {G : zb_G} (N : Nat) (b0 : Nat) (h0 : zb_kd b0 = 1) (k4 : zb_S → Int32 → Int32 → Option (Int32 × zb_S)) (hk4 : ∀ (S : zb_S) (l1 : Int32) (l2 : Int32), zb_Go zb_eI l G 1 RX1 cX1_loaded 3 (some .int) 4 [(0, .ref (zb_ad G b0)), (1, .int l1), (2, .int l2)] [] S (k4 S l1 l2)) (S : zb_S) (l1 : Int32) (l2 : Int32) : zb_Go zb_eI l G 1 RX1 cX1_loaded 3 (some .int) 4 [(0, .ref (zb_ad G b0)), (1, .int l1), (2, .int l2)] [] S (fX1_loaded_4b N b0 k4 S l1 l2) := by
  unfold fX1_loaded_4b
  refine zg_iload_n 2 dX1_loaded_4 rfl rfl ?_
  refine zg_aload_n 0 dX1_loaded_5 rfl rfl ?_
  refine zq_X1_2 h0 zw_53 dX1_loaded_6 ?_
  refine zg_icmp_ge 32 dX1_loaded_9 (by decide) ?_ ?_
  · refine zg_iload_n 1 dX1_loaded_32 rfl rfl ?_
    exact zg_iret rfl dX1_loaded_33
  · refine zg_aload_n 0 dX1_loaded_12 rfl rfl ?_
    refine zg_iload_n 2 dX1_loaded_13 rfl rfl ?_
    refine zg_callVI (As := [.int l2]) (rest := []) 1 (zcX1_hasCarton N b0 h0 S l2) (by decide) (by decide) h0 (by decide) rfl zw_241 zw_234 zw_235 zw_19 zw_236 (by decide +kernel) rfl rfl (Nat.le_of_ble_eq_true rfl) dX1_loaded_14 (fun r2 S1 => ?_)
    refine zg_if_eq 26 dX1_loaded_17 (by decide) ?_ ?_
    · exact gX1_loaded_26 N b0 h0 k4 hk4 S1 l1 l2
    · refine zg_iload_n 1 dX1_loaded_20 rfl rfl ?_
      refine zg_iconst (v := 1) dX1_loaded_21 (by decide) ?_
      refine zg_iload_n 2 dX1_loaded_22 rfl rfl ?_
      refine zg_ishl dX1_loaded_23 ?_
      refine zg_ior dX1_loaded_24 ?_
      refine zg_istore_nL (fun x3 => [(1, .int x3), (0, .ref (zb_ad G b0)), (2, .int l2)]) dX1_loaded_25 rfl (by decide) (fun _ => rfl) (fun x3 => ?_)
      refine zg_sub [1, 0, 2] rfl ?_
      exact gX1_loaded_26 N b0 h0 k4 hk4 S1 x3 l2
def fX1_loaded_4 (N : Nat) (b0 : Nat) : Nat → zb_S → Int32 → Int32 → Option (Int32 × zb_S)
  | 0, _, _, _ => none
  | n + 1, S, l1, l2 => fX1_loaded_4b N b0 (fX1_loaded_4 N b0 n) S l1 l2
set_option maxHeartbeats 4000000 in
set_option maxRecDepth 100000 in
theorem gX1_loaded_4 {l : Launch} {G : zb_G} (N : Nat) (b0 : Nat) (h0 : zb_kd b0 = 1) : ∀ (n : Nat) (S : zb_S) (l1 : Int32) (l2 : Int32), zb_Go zb_eI l G 1 RX1 cX1_loaded 3 (some .int) 4 [(0, .ref (zb_ad G b0)), (1, .int l1), (2, .int l2)] [] S (fX1_loaded_4 N b0 n S l1 l2) := by
  intro n
  induction n with
  | zero => intros; exact zg_none
  | succ n ih =>
    intro S l1 l2
    exact gX1_loaded_4b N b0 h0 (fX1_loaded_4 N b0 n) ih S l1 l2
def fX1_loaded_0 (N : Nat) (b0 : Nat) (S : zb_S) : Option (Int32 × zb_S) :=
  fX1_loaded_4 N b0 N S 0 0
set_option maxHeartbeats 4000000 in
set_option maxRecDepth 100000 in
theorem gX1_loaded_0 {l : Launch} {G : zb_G} (N : Nat) (b0 : Nat) (h0 : zb_kd b0 = 1) (S : zb_S) : zb_Go zb_eI l G 1 RX1 cX1_loaded 3 (some .int) 0 [(0, .ref (zb_ad G b0))] [] S (fX1_loaded_0 N b0 S) := by
  unfold fX1_loaded_0
  refine zg_iconst (v := 0) dX1_loaded_0 (by decide) ?_
  refine zg_istore_n (lv' := [(1, .int 0), (0, .ref (zb_ad G b0))]) dX1_loaded_1 rfl (by decide) rfl ?_
  refine zg_iconst (v := 0) dX1_loaded_2 (by decide) ?_
  refine zg_istore_n (lv' := [(2, .int 0), (1, .int 0), (0, .ref (zb_ad G b0))]) dX1_loaded_3 rfl (by decide) rfl ?_
  refine zg_sub [2, 1, 0] rfl ?_
  exact gX1_loaded_4 N b0 h0 N S 0 0
def fX1_loaded (N : Nat) (b0 : Nat) (S : zb_S) : Option (Int32 × zb_S) := fX1_loaded_0 N b0 S
theorem zcX1_loaded {l : Launch} {G : zb_G} (N : Nat) (b0 : Nat) (h0 : zb_kd b0 = 1) (S : zb_S) : zb_C zb_eI l G 1 yX1_loaded cX1_loaded 3 (some .int) [.ref (zb_ad G b0)] S (fX1_loaded N b0 S) :=
  zb_C.of (by decide +kernel) rfl (Nat.le_of_ble_eq_true rfl) rfl (gX1_loaded_0 N b0 h0 S)
-- X1_seeing
def fX1_seeing_45 (N : Nat) (b0 : Nat) (k4 : zb_S → Int32 → Int32 → Option (Int32 × zb_S)) (S : zb_S) (l1 : Int32) (l2 : Int32) : Option (Int32 × zb_S) :=
  zb_let (l2 + 1) (fun x1 : Int32 =>
  k4 S l1 x1)
set_option maxHeartbeats 4000000 in
set_option maxRecDepth 100000 in
theorem gX1_seeing_45 {l : Launch} {G : zb_G} (N : Nat) (b0 : Nat) (h0 : zb_kd b0 = 1) (k4 : zb_S → Int32 → Int32 → Option (Int32 × zb_S)) (hk4 : ∀ (S : zb_S) (l1 : Int32) (l2 : Int32), zb_Go zb_eI l G 1 RX1 cX1_seeing 4 (some .int) 4 [(0, .ref (zb_ad G b0)), (1, .int l1), (2, .int l2)] [] S (k4 S l1 l2)) (S : zb_S) (l1 : Int32) (l2 : Int32) : zb_Go zb_eI l G 1 RX1 cX1_seeing 4 (some .int) 45 [(0, .ref (zb_ad G b0)), (1, .int l1), (2, .int l2)] [] S (fX1_seeing_45 N b0 k4 S l1 l2) := by
  unfold fX1_seeing_45
  refine zg_iincL (fun x1 => [(2, .int x1), (0, .ref (zb_ad G b0)), (1, .int l1)]) 2 dX1_seeing_45 rfl rfl (by decide) (fun _ => rfl) (fun x1 => ?_)
  refine zg_goto (tgt := 4) dX1_seeing_48 (by decide) ?_
  refine zg_sub [1, 2, 0] rfl ?_
  exact hk4 S l1 x1
def fX1_seeing_39 (N : Nat) (b0 : Nat) (k4 : zb_S → Int32 → Int32 → Option (Int32 × zb_S)) (S : zb_S) (l1 : Int32) (l2 : Int32) : Option (Int32 × zb_S) :=
  zb_let (l1 ||| ((1 : Int32) <<< (l2 &&& 31))) (fun x1 : Int32 =>
  fX1_seeing_45 N b0 k4 S x1 l2)
set_option maxHeartbeats 4000000 in
set_option maxRecDepth 100000 in
theorem gX1_seeing_39 {l : Launch} {G : zb_G} (N : Nat) (b0 : Nat) (h0 : zb_kd b0 = 1) (k4 : zb_S → Int32 → Int32 → Option (Int32 × zb_S)) (hk4 : ∀ (S : zb_S) (l1 : Int32) (l2 : Int32), zb_Go zb_eI l G 1 RX1 cX1_seeing 4 (some .int) 4 [(0, .ref (zb_ad G b0)), (1, .int l1), (2, .int l2)] [] S (k4 S l1 l2)) (S : zb_S) (l1 : Int32) (l2 : Int32) : zb_Go zb_eI l G 1 RX1 cX1_seeing 4 (some .int) 39 [(0, .ref (zb_ad G b0)), (1, .int l1), (2, .int l2)] [] S (fX1_seeing_39 N b0 k4 S l1 l2) := by
  unfold fX1_seeing_39
  refine zg_iload_n 1 dX1_seeing_39 rfl rfl ?_
  refine zg_iconst (v := 1) dX1_seeing_40 (by decide) ?_
  refine zg_iload_n 2 dX1_seeing_41 rfl rfl ?_
  refine zg_ishl dX1_seeing_42 ?_
  refine zg_ior dX1_seeing_43 ?_
  refine zg_istore_nL (fun x1 => [(1, .int x1), (0, .ref (zb_ad G b0)), (2, .int l2)]) dX1_seeing_44 rfl (by decide) (fun _ => rfl) (fun x1 => ?_)
  refine zg_sub [1, 0, 2] rfl ?_
  exact gX1_seeing_45 N b0 h0 k4 hk4 S x1 l2
def fX1_seeing_4b (N : Nat) (b0 : Nat) (k4 : zb_S → Int32 → Int32 → Option (Int32 × zb_S)) (S : zb_S) (l1 : Int32) (l2 : Int32) : Option (Int32 × zb_S) :=
  if (zb_i S b0 2) ≤ l2 then
    some (l1, S)
  else
    if zb_in (12 + l2) (zb_sz (b0 + 1)) then
    zb_let (zb_a S (b0 + 1) (Int32.toNatClampNeg (12 + l2))) (fun x1 : Int32 =>
    if x1 = 2 then
      fX1_seeing_39 N b0 k4 S l1 l2
    else
      if x1 = 0 then
        zb_bind (fX1_hasCarton N b0 S l2) (fun r3 S2 =>
        if r3 = 0 then
          fX1_seeing_45 N b0 k4 S2 l1 l2
        else
          fX1_seeing_39 N b0 k4 S2 l1 l2)
      else
        fX1_seeing_45 N b0 k4 S l1 l2) else none
set_option maxHeartbeats 4000000 in
set_option maxRecDepth 100000 in
theorem gX1_seeing_4b {l : Launch} {G : zb_G} (N : Nat) (b0 : Nat) (h0 : zb_kd b0 = 1) (k4 : zb_S → Int32 → Int32 → Option (Int32 × zb_S)) (hk4 : ∀ (S : zb_S) (l1 : Int32) (l2 : Int32), zb_Go zb_eI l G 1 RX1 cX1_seeing 4 (some .int) 4 [(0, .ref (zb_ad G b0)), (1, .int l1), (2, .int l2)] [] S (k4 S l1 l2)) (S : zb_S) (l1 : Int32) (l2 : Int32) : zb_Go zb_eI l G 1 RX1 cX1_seeing 4 (some .int) 4 [(0, .ref (zb_ad G b0)), (1, .int l1), (2, .int l2)] [] S (fX1_seeing_4b N b0 k4 S l1 l2) := by
  unfold fX1_seeing_4b
  refine zg_iload_n 2 dX1_seeing_4 rfl rfl ?_
  refine zg_aload_n 0 dX1_seeing_5 rfl rfl ?_
  refine zq_X1_2 h0 zw_53 dX1_seeing_6 ?_
  refine zg_icmp_ge 51 dX1_seeing_9 (by decide) ?_ ?_
  · refine zg_iload_n 1 dX1_seeing_51 rfl rfl ?_
    exact zg_iret rfl dX1_seeing_52
  · refine zg_aload_n 0 dX1_seeing_12 rfl rfl ?_
    refine zq_X1_4 h0 (zk_X1_4 h0).1 zw_55 dX1_seeing_13 ?_
    refine zg_bipush (v := 12) dX1_seeing_16 (by decide) ?_
    refine zg_iload_n 2 dX1_seeing_18 rfl rfl ?_
    refine zg_iadd dX1_seeing_19 ?_
    refine zg_iald (zk_X1_4 h0).2.1 dX1_seeing_20 ?_
    refine zg_istore_nL (fun x1 => [(3, .int x1), (0, .ref (zb_ad G b0)), (1, .int l1), (2, .int l2)]) dX1_seeing_21 rfl (by decide) (fun _ => rfl) (fun x1 => ?_)
    refine zg_iload_n 0 dX1_seeing_22 rfl rfl ?_
    refine zg_iconst (v := 2) dX1_seeing_23 (by decide) ?_
    refine zg_icmp_eq 39 dX1_seeing_24 (by decide) ?_ ?_
    · refine zg_sub [1, 2, 3] rfl ?_
      exact gX1_seeing_39 N b0 h0 k4 hk4 S l1 l2
    · refine zg_iload_n 0 dX1_seeing_27 rfl rfl ?_
      refine zg_if_ne 45 dX1_seeing_28 (by decide) ?_ ?_
      · refine zg_sub [1, 2, 3] rfl ?_
        exact gX1_seeing_45 N b0 h0 k4 hk4 S l1 l2
      · refine zg_aload_n 1 dX1_seeing_31 rfl rfl ?_
        refine zg_iload_n 3 dX1_seeing_32 rfl rfl ?_
        refine zg_callVI (As := [.int l2]) (rest := []) 1 (zcX1_hasCarton N b0 h0 S l2) (by decide) (by decide) h0 (by decide) rfl zw_241 zw_234 zw_235 zw_19 zw_236 (by decide +kernel) rfl rfl (Nat.le_of_ble_eq_true rfl) dX1_seeing_33 (fun r3 S2 => ?_)
        refine zg_if_eq 45 dX1_seeing_36 (by decide) ?_ ?_
        · refine zg_sub [1, 2, 3] rfl ?_
          exact gX1_seeing_45 N b0 h0 k4 hk4 S2 l1 l2
        · refine zg_sub [1, 2, 3] rfl ?_
          exact gX1_seeing_39 N b0 h0 k4 hk4 S2 l1 l2
def fX1_seeing_4 (N : Nat) (b0 : Nat) : Nat → zb_S → Int32 → Int32 → Option (Int32 × zb_S)
  | 0, _, _, _ => none
  | n + 1, S, l1, l2 => fX1_seeing_4b N b0 (fX1_seeing_4 N b0 n) S l1 l2
set_option maxHeartbeats 4000000 in
set_option maxRecDepth 100000 in
theorem gX1_seeing_4 {l : Launch} {G : zb_G} (N : Nat) (b0 : Nat) (h0 : zb_kd b0 = 1) : ∀ (n : Nat) (S : zb_S) (l1 : Int32) (l2 : Int32), zb_Go zb_eI l G 1 RX1 cX1_seeing 4 (some .int) 4 [(0, .ref (zb_ad G b0)), (1, .int l1), (2, .int l2)] [] S (fX1_seeing_4 N b0 n S l1 l2) := by
  intro n
  induction n with
  | zero => intros; exact zg_none
  | succ n ih =>
    intro S l1 l2
    exact gX1_seeing_4b N b0 h0 (fX1_seeing_4 N b0 n) ih S l1 l2
def fX1_seeing_0 (N : Nat) (b0 : Nat) (S : zb_S) : Option (Int32 × zb_S) :=
  fX1_seeing_4 N b0 N S 0 0
set_option maxHeartbeats 4000000 in
set_option maxRecDepth 100000 in
theorem gX1_seeing_0 {l : Launch} {G : zb_G} (N : Nat) (b0 : Nat) (h0 : zb_kd b0 = 1) (S : zb_S) : zb_Go zb_eI l G 1 RX1 cX1_seeing 4 (some .int) 0 [(0, .ref (zb_ad G b0))] [] S (fX1_seeing_0 N b0 S) := by
  unfold fX1_seeing_0
  refine zg_iconst (v := 0) dX1_seeing_0 (by decide) ?_
  refine zg_istore_n (lv' := [(1, .int 0), (0, .ref (zb_ad G b0))]) dX1_seeing_1 rfl (by decide) rfl ?_
  refine zg_iconst (v := 0) dX1_seeing_2 (by decide) ?_
  refine zg_istore_n (lv' := [(2, .int 0), (1, .int 0), (0, .ref (zb_ad G b0))]) dX1_seeing_3 rfl (by decide) rfl ?_
  refine zg_sub [2, 1, 0] rfl ?_
  exact gX1_seeing_4 N b0 h0 N S 0 0
def fX1_seeing (N : Nat) (b0 : Nat) (S : zb_S) : Option (Int32 × zb_S) := fX1_seeing_0 N b0 S
theorem zcX1_seeing {l : Launch} {G : zb_G} (N : Nat) (b0 : Nat) (h0 : zb_kd b0 = 1) (S : zb_S) : zb_C zb_eI l G 1 yX1_seeing cX1_seeing 4 (some .int) [.ref (zb_ad G b0)] S (fX1_seeing N b0 S) :=
  zb_C.of (by decide +kernel) rfl (Nat.le_of_ble_eq_true rfl) rfl (gX1_seeing_0 N b0 h0 S)
-- X1_countUnsound
def fX1_countUnsound_27 (N : Nat) (b0 : Nat) (k4 : zb_S → Int32 → Int32 → Option (Int32 × zb_S)) (S : zb_S) (l1 : Int32) (l2 : Int32) : Option (Int32 × zb_S) :=
  zb_let (l2 + 1) (fun x1 : Int32 =>
  k4 S l1 x1)
set_option maxHeartbeats 4000000 in
set_option maxRecDepth 100000 in
theorem gX1_countUnsound_27 {l : Launch} {G : zb_G} (N : Nat) (b0 : Nat) (h0 : zb_kd b0 = 1) (k4 : zb_S → Int32 → Int32 → Option (Int32 × zb_S)) (hk4 : ∀ (S : zb_S) (l1 : Int32) (l2 : Int32), zb_Go zb_eI l G 0 RX1 cX1_countUnsound 3 (some .int) 4 [(0, .ref (zb_ad G b0)), (1, .int l1), (2, .int l2)] [] S (k4 S l1 l2)) (S : zb_S) (l1 : Int32) (l2 : Int32) : zb_Go zb_eI l G 0 RX1 cX1_countUnsound 3 (some .int) 27 [(0, .ref (zb_ad G b0)), (1, .int l1), (2, .int l2)] [] S (fX1_countUnsound_27 N b0 k4 S l1 l2) := by
  unfold fX1_countUnsound_27
  refine zg_iincL (fun x1 => [(2, .int x1), (0, .ref (zb_ad G b0)), (1, .int l1)]) 2 dX1_countUnsound_27 rfl rfl (by decide) (fun _ => rfl) (fun x1 => ?_)
  refine zg_goto (tgt := 4) dX1_countUnsound_30 (by decide) ?_
  refine zg_sub [1, 2, 0] rfl ?_
  exact hk4 S l1 x1
def fX1_countUnsound_4b (N : Nat) (b0 : Nat) (k4 : zb_S → Int32 → Int32 → Option (Int32 × zb_S)) (S : zb_S) (l1 : Int32) (l2 : Int32) : Option (Int32 × zb_S) :=
  if (zb_i S b0 2) ≤ l2 then
    some (l1, S)
  else
    if zb_in (12 + l2) (zb_sz (b0 + 1)) then
    if (zb_a S (b0 + 1) (Int32.toNatClampNeg (12 + l2))) = 0 then
      fX1_countUnsound_27 N b0 k4 S l1 l2
    else
      zb_let (l1 + 1) (fun x1 : Int32 =>
      fX1_countUnsound_27 N b0 k4 S x1 l2) else none
set_option maxHeartbeats 4000000 in
set_option maxRecDepth 100000 in
theorem gX1_countUnsound_4b {l : Launch} {G : zb_G} (N : Nat) (b0 : Nat) (h0 : zb_kd b0 = 1) (k4 : zb_S → Int32 → Int32 → Option (Int32 × zb_S)) (hk4 : ∀ (S : zb_S) (l1 : Int32) (l2 : Int32), zb_Go zb_eI l G 0 RX1 cX1_countUnsound 3 (some .int) 4 [(0, .ref (zb_ad G b0)), (1, .int l1), (2, .int l2)] [] S (k4 S l1 l2)) (S : zb_S) (l1 : Int32) (l2 : Int32) : zb_Go zb_eI l G 0 RX1 cX1_countUnsound 3 (some .int) 4 [(0, .ref (zb_ad G b0)), (1, .int l1), (2, .int l2)] [] S (fX1_countUnsound_4b N b0 k4 S l1 l2) := by
  unfold fX1_countUnsound_4b
  refine zg_iload_n 2 dX1_countUnsound_4 rfl rfl ?_
  refine zg_aload_n 0 dX1_countUnsound_5 rfl rfl ?_
  refine zq_X1_2 h0 zw_53 dX1_countUnsound_6 ?_
  refine zg_icmp_ge 33 dX1_countUnsound_9 (by decide) ?_ ?_
  · refine zg_iload_n 1 dX1_countUnsound_33 rfl rfl ?_
    exact zg_iret rfl dX1_countUnsound_34
  · refine zg_aload_n 0 dX1_countUnsound_12 rfl rfl ?_
    refine zq_X1_4 h0 (zk_X1_4 h0).1 zw_55 dX1_countUnsound_13 ?_
    refine zg_bipush (v := 12) dX1_countUnsound_16 (by decide) ?_
    refine zg_iload_n 2 dX1_countUnsound_18 rfl rfl ?_
    refine zg_iadd dX1_countUnsound_19 ?_
    refine zg_iald (zk_X1_4 h0).2.1 dX1_countUnsound_20 ?_
    refine zg_if_eq 27 dX1_countUnsound_21 (by decide) ?_ ?_
    · exact gX1_countUnsound_27 N b0 h0 k4 hk4 S l1 l2
    · refine zg_iincL (fun x1 => [(1, .int x1), (0, .ref (zb_ad G b0)), (2, .int l2)]) 1 dX1_countUnsound_24 rfl rfl (by decide) (fun _ => rfl) (fun x1 => ?_)
      refine zg_sub [1, 0, 2] rfl ?_
      exact gX1_countUnsound_27 N b0 h0 k4 hk4 S x1 l2
def fX1_countUnsound_4 (N : Nat) (b0 : Nat) : Nat → zb_S → Int32 → Int32 → Option (Int32 × zb_S)
  | 0, _, _, _ => none
  | n + 1, S, l1, l2 => fX1_countUnsound_4b N b0 (fX1_countUnsound_4 N b0 n) S l1 l2
set_option maxHeartbeats 4000000 in
set_option maxRecDepth 100000 in
theorem gX1_countUnsound_4 {l : Launch} {G : zb_G} (N : Nat) (b0 : Nat) (h0 : zb_kd b0 = 1) : ∀ (n : Nat) (S : zb_S) (l1 : Int32) (l2 : Int32), zb_Go zb_eI l G 0 RX1 cX1_countUnsound 3 (some .int) 4 [(0, .ref (zb_ad G b0)), (1, .int l1), (2, .int l2)] [] S (fX1_countUnsound_4 N b0 n S l1 l2) := by
  intro n
  induction n with
  | zero => intros; exact zg_none
  | succ n ih =>
    intro S l1 l2
    exact gX1_countUnsound_4b N b0 h0 (fX1_countUnsound_4 N b0 n) ih S l1 l2
def fX1_countUnsound_0 (N : Nat) (b0 : Nat) (S : zb_S) : Option (Int32 × zb_S) :=
  fX1_countUnsound_4 N b0 N S 0 0
set_option maxHeartbeats 4000000 in
set_option maxRecDepth 100000 in
theorem gX1_countUnsound_0 {l : Launch} {G : zb_G} (N : Nat) (b0 : Nat) (h0 : zb_kd b0 = 1) (S : zb_S) : zb_Go zb_eI l G 0 RX1 cX1_countUnsound 3 (some .int) 0 [(0, .ref (zb_ad G b0))] [] S (fX1_countUnsound_0 N b0 S) := by
  unfold fX1_countUnsound_0
  refine zg_iconst (v := 0) dX1_countUnsound_0 (by decide) ?_
  refine zg_istore_n (lv' := [(1, .int 0), (0, .ref (zb_ad G b0))]) dX1_countUnsound_1 rfl (by decide) rfl ?_
  refine zg_iconst (v := 0) dX1_countUnsound_2 (by decide) ?_
  refine zg_istore_n (lv' := [(2, .int 0), (1, .int 0), (0, .ref (zb_ad G b0))]) dX1_countUnsound_3 rfl (by decide) rfl ?_
  refine zg_sub [2, 1, 0] rfl ?_
  exact gX1_countUnsound_4 N b0 h0 N S 0 0
def fX1_countUnsound (N : Nat) (b0 : Nat) (S : zb_S) : Option (Int32 × zb_S) := fX1_countUnsound_0 N b0 S
theorem zcX1_countUnsound {l : Launch} {G : zb_G} (N : Nat) (b0 : Nat) (h0 : zb_kd b0 = 1) (S : zb_S) : zb_C zb_eI l G 0 yX1_countUnsound cX1_countUnsound 3 (some .int) [.ref (zb_ad G b0)] S (fX1_countUnsound N b0 S) :=
  zb_C.of (by decide +kernel) rfl (Nat.le_of_ble_eq_true rfl) rfl (gX1_countUnsound_0 N b0 h0 S)
-- X1_behind
def fX1_behind_0 (N : Nat) (b0 : Nat) (S : zb_S) (a1 : Int32) : Option (Int32 × zb_S) :=
  if a1 = ((zb_i S b0 2) - 1) then
    some (zb_i S b0 3, S)
  else
    some (a1 + 1, S)
set_option maxHeartbeats 4000000 in
set_option maxRecDepth 100000 in
theorem gX1_behind_0 {l : Launch} {G : zb_G} (N : Nat) (b0 : Nat) (h0 : zb_kd b0 = 1) (S : zb_S) (a1 : Int32) : zb_Go zb_eI l G 0 RX1 cX1_behind 2 (some .int) 0 [(0, .ref (zb_ad G b0)), (1, .int a1)] [] S (fX1_behind_0 N b0 S a1) := by
  unfold fX1_behind_0
  refine zg_iload_n 1 dX1_behind_0 rfl rfl ?_
  refine zg_aload_n 0 dX1_behind_1 rfl rfl ?_
  refine zq_X1_2 h0 zw_53 dX1_behind_2 ?_
  refine zg_iconst (v := 1) dX1_behind_5 (by decide) ?_
  refine zg_isub dX1_behind_6 ?_
  refine zg_icmp_ne 17 dX1_behind_7 (by decide) ?_ ?_
  · refine zg_iload_n 1 dX1_behind_17 rfl rfl ?_
    refine zg_iconst (v := 1) dX1_behind_18 (by decide) ?_
    refine zg_iadd dX1_behind_19 ?_
    exact zg_iret rfl dX1_behind_20
  · refine zg_aload_n 0 dX1_behind_10 rfl rfl ?_
    refine zq_X1_3 h0 zw_54 dX1_behind_11 ?_
    refine zg_goto (tgt := 20) dX1_behind_14 (by decide) ?_
    exact zg_iret rfl dX1_behind_20
def fX1_behind (N : Nat) (b0 : Nat) (S : zb_S) (a1 : Int32) : Option (Int32 × zb_S) := fX1_behind_0 N b0 S a1
theorem zcX1_behind {l : Launch} {G : zb_G} (N : Nat) (b0 : Nat) (h0 : zb_kd b0 = 1) (S : zb_S) (a1 : Int32) : zb_C zb_eI l G 0 yX1_behind cX1_behind 2 (some .int) [.ref (zb_ad G b0), .int a1] S (fX1_behind N b0 S a1) :=
  zb_C.of (by decide +kernel) rfl (Nat.le_of_ble_eq_true rfl) rfl (gX1_behind_0 N b0 h0 S a1)
-- X1_behindThose
def fX1_behindThose_40 (N : Nat) (b0 : Nat) (k4 : zb_S → Int32 → Int32 → Int32 → Option (Int32 × zb_S)) (S : zb_S) (l1 : Int32) (l2 : Int32) (l3 : Int32) : Option (Int32 × zb_S) :=
  zb_let (l3 + 1) (fun x1 : Int32 =>
  k4 S l1 l2 x1)
set_option maxHeartbeats 4000000 in
set_option maxRecDepth 100000 in
theorem gX1_behindThose_40 {l : Launch} {G : zb_G} (N : Nat) (b0 : Nat) (h0 : zb_kd b0 = 1) (k4 : zb_S → Int32 → Int32 → Int32 → Option (Int32 × zb_S)) (hk4 : ∀ (S : zb_S) (l1 : Int32) (l2 : Int32) (l3 : Int32), zb_Go zb_eI l G 1 RX1 cX1_behindThose 4 (some .int) 4 [(0, .ref (zb_ad G b0)), (1, .int l1), (2, .int l2), (3, .int l3)] [] S (k4 S l1 l2 l3)) (S : zb_S) (l1 : Int32) (l2 : Int32) (l3 : Int32) : zb_Go zb_eI l G 1 RX1 cX1_behindThose 4 (some .int) 40 [(0, .ref (zb_ad G b0)), (1, .int l1), (2, .int l2), (3, .int l3)] [] S (fX1_behindThose_40 N b0 k4 S l1 l2 l3) := by
  unfold fX1_behindThose_40
  refine zg_iincL (fun x1 => [(3, .int x1), (0, .ref (zb_ad G b0)), (1, .int l1), (2, .int l2)]) 3 dX1_behindThose_40 rfl rfl (by decide) (fun _ => rfl) (fun x1 => ?_)
  refine zg_goto (tgt := 4) dX1_behindThose_43 (by decide) ?_
  refine zg_sub [1, 2, 3, 0] rfl ?_
  exact hk4 S l1 l2 x1
def fX1_behindThose_4b (N : Nat) (b0 : Nat) (k4 : zb_S → Int32 → Int32 → Int32 → Option (Int32 × zb_S)) (S : zb_S) (l1 : Int32) (l2 : Int32) (l3 : Int32) : Option (Int32 × zb_S) :=
  if (zb_i S b0 2) ≤ l3 then
    some (l2, S)
  else
    zb_bind (fX1_in N S l1 l3) (fun r2 S1 =>
    if r2 = 0 then
      fX1_behindThose_40 N b0 k4 S1 l1 l2 l3
    else
      if l3 = ((zb_i S1 b0 0) - 1) then
        fX1_behindThose_40 N b0 k4 S1 l1 l2 l3
      else
        zb_bind (fX1_behind N b0 S1 l3) (fun r4 S3 =>
        zb_let (l2 ||| ((1 : Int32) <<< (r4 &&& 31))) (fun x5 : Int32 =>
        fX1_behindThose_40 N b0 k4 S3 l1 x5 l3)))
set_option maxHeartbeats 4000000 in
set_option maxRecDepth 100000 in
theorem gX1_behindThose_4b {l : Launch} {G : zb_G} (N : Nat) (b0 : Nat) (h0 : zb_kd b0 = 1) (k4 : zb_S → Int32 → Int32 → Int32 → Option (Int32 × zb_S)) (hk4 : ∀ (S : zb_S) (l1 : Int32) (l2 : Int32) (l3 : Int32), zb_Go zb_eI l G 1 RX1 cX1_behindThose 4 (some .int) 4 [(0, .ref (zb_ad G b0)), (1, .int l1), (2, .int l2), (3, .int l3)] [] S (k4 S l1 l2 l3)) (S : zb_S) (l1 : Int32) (l2 : Int32) (l3 : Int32) : zb_Go zb_eI l G 1 RX1 cX1_behindThose 4 (some .int) 4 [(0, .ref (zb_ad G b0)), (1, .int l1), (2, .int l2), (3, .int l3)] [] S (fX1_behindThose_4b N b0 k4 S l1 l2 l3) := by
  unfold fX1_behindThose_4b
  refine zg_iload_n 3 dX1_behindThose_4 rfl rfl ?_
  refine zg_aload_n 0 dX1_behindThose_5 rfl rfl ?_
  refine zq_X1_2 h0 zw_53 dX1_behindThose_6 ?_
  refine zg_icmp_ge 46 dX1_behindThose_9 (by decide) ?_ ?_
  · refine zg_iload_n 2 dX1_behindThose_46 rfl rfl ?_
    exact zg_iret rfl dX1_behindThose_47
  · refine zg_iload_n 1 dX1_behindThose_12 rfl rfl ?_
    refine zg_iload_n 3 dX1_behindThose_13 rfl rfl ?_
    refine zg_callSI (As := [.int l1, .int l3]) (rest := []) 2 (zcX1_in N S l1 l3) (by decide) (by decide) zw_247 zw_157 zw_19 zw_158 (by decide +kernel) rfl rfl (Nat.le_of_ble_eq_true rfl) dX1_behindThose_14 (fun r2 S1 => ?_)
    refine zg_if_eq 40 dX1_behindThose_17 (by decide) ?_ ?_
    · exact gX1_behindThose_40 N b0 h0 k4 hk4 S1 l1 l2 l3
    · refine zg_iload_n 3 dX1_behindThose_20 rfl rfl ?_
      refine zg_aload_n 0 dX1_behindThose_21 rfl rfl ?_
      refine zq_X1_0 h0 zw_51 dX1_behindThose_22 ?_
      refine zg_iconst (v := 1) dX1_behindThose_25 (by decide) ?_
      refine zg_isub dX1_behindThose_26 ?_
      refine zg_icmp_eq 40 dX1_behindThose_27 (by decide) ?_ ?_
      · exact gX1_behindThose_40 N b0 h0 k4 hk4 S1 l1 l2 l3
      · refine zg_iload_n 2 dX1_behindThose_30 rfl rfl ?_
        refine zg_iconst (v := 1) dX1_behindThose_31 (by decide) ?_
        refine zg_aload_n 0 dX1_behindThose_32 rfl rfl ?_
        refine zg_iload_n 3 dX1_behindThose_33 rfl rfl ?_
        refine zg_callVI (As := [.int l3]) (rest := [.int 1, .int l2]) 1 (zcX1_behind N b0 h0 S1 l3) (by decide) (by decide) h0 (by decide) rfl zw_415 zw_416 zw_417 zw_19 zw_418 (by decide +kernel) rfl rfl (Nat.le_of_ble_eq_true rfl) dX1_behindThose_34 (fun r4 S3 => ?_)
        refine zg_ishl dX1_behindThose_37 ?_
        refine zg_ior dX1_behindThose_38 ?_
        refine zg_istore_nL (fun x5 => [(2, .int x5), (0, .ref (zb_ad G b0)), (1, .int l1), (3, .int l3)]) dX1_behindThose_39 rfl (by decide) (fun _ => rfl) (fun x5 => ?_)
        refine zg_sub [1, 2, 0, 3] rfl ?_
        exact gX1_behindThose_40 N b0 h0 k4 hk4 S3 l1 x5 l3
def fX1_behindThose_4 (N : Nat) (b0 : Nat) : Nat → zb_S → Int32 → Int32 → Int32 → Option (Int32 × zb_S)
  | 0, _, _, _, _ => none
  | n + 1, S, l1, l2, l3 => fX1_behindThose_4b N b0 (fX1_behindThose_4 N b0 n) S l1 l2 l3
set_option maxHeartbeats 4000000 in
set_option maxRecDepth 100000 in
theorem gX1_behindThose_4 {l : Launch} {G : zb_G} (N : Nat) (b0 : Nat) (h0 : zb_kd b0 = 1) : ∀ (n : Nat) (S : zb_S) (l1 : Int32) (l2 : Int32) (l3 : Int32), zb_Go zb_eI l G 1 RX1 cX1_behindThose 4 (some .int) 4 [(0, .ref (zb_ad G b0)), (1, .int l1), (2, .int l2), (3, .int l3)] [] S (fX1_behindThose_4 N b0 n S l1 l2 l3) := by
  intro n
  induction n with
  | zero => intros; exact zg_none
  | succ n ih =>
    intro S l1 l2 l3
    exact gX1_behindThose_4b N b0 h0 (fX1_behindThose_4 N b0 n) ih S l1 l2 l3
def fX1_behindThose_0 (N : Nat) (b0 : Nat) (S : zb_S) (a1 : Int32) : Option (Int32 × zb_S) :=
  fX1_behindThose_4 N b0 N S a1 0 0
set_option maxHeartbeats 4000000 in
set_option maxRecDepth 100000 in
theorem gX1_behindThose_0 {l : Launch} {G : zb_G} (N : Nat) (b0 : Nat) (h0 : zb_kd b0 = 1) (S : zb_S) (a1 : Int32) : zb_Go zb_eI l G 1 RX1 cX1_behindThose 4 (some .int) 0 [(0, .ref (zb_ad G b0)), (1, .int a1)] [] S (fX1_behindThose_0 N b0 S a1) := by
  unfold fX1_behindThose_0
  refine zg_iconst (v := 0) dX1_behindThose_0 (by decide) ?_
  refine zg_istore_n (lv' := [(2, .int 0), (0, .ref (zb_ad G b0)), (1, .int a1)]) dX1_behindThose_1 rfl (by decide) rfl ?_
  refine zg_iconst (v := 0) dX1_behindThose_2 (by decide) ?_
  refine zg_istore_n (lv' := [(3, .int 0), (2, .int 0), (0, .ref (zb_ad G b0)), (1, .int a1)]) dX1_behindThose_3 rfl (by decide) rfl ?_
  refine zg_sub [2, 3, 1, 0] rfl ?_
  exact gX1_behindThose_4 N b0 h0 N S a1 0 0
def fX1_behindThose (N : Nat) (b0 : Nat) (S : zb_S) (a1 : Int32) : Option (Int32 × zb_S) := fX1_behindThose_0 N b0 S a1
theorem zcX1_behindThose {l : Launch} {G : zb_G} (N : Nat) (b0 : Nat) (h0 : zb_kd b0 = 1) (S : zb_S) (a1 : Int32) : zb_C zb_eI l G 1 yX1_behindThose cX1_behindThose 4 (some .int) [.ref (zb_ad G b0), .int a1] S (fX1_behindThose N b0 S a1) :=
  zb_C.of (by decide +kernel) rfl (Nat.le_of_ble_eq_true rfl) rfl (gX1_behindThose_0 N b0 h0 S a1)
-- X1_giveTicket
def fX1_giveTicket_0 (N : Nat) (b0 : Nat) (S : zb_S) (a1 : Int32) (a2 : Int32) : Option (Unit × zb_S) :=
  zb_bind (fX1_in N S a1 a2) (fun r2 S1 =>
  if r2 = 0 then
    some ((), S1)
  else
    if zb_in (36 + a2) (zb_sz (b0 + 1)) then
    if (zb_a S1 (b0 + 1) (Int32.toNatClampNeg (36 + a2))) = 0 then
      if zb_in 53 (zb_sz (b0 + 1)) then
      if zb_in 53 (zb_sz (b0 + 1)) then zb_let (zb_pa S1 (b0 + 1) (Int32.toNatClampNeg 53) ((zb_a S1 (b0 + 1) (Int32.toNatClampNeg 53)) + 1)) (fun S3 : zb_S =>
      if zb_in 53 (zb_sz (b0 + 1)) then
      if zb_in (36 + a2) (zb_sz (b0 + 1)) then zb_let (zb_pa S3 (b0 + 1) (Int32.toNatClampNeg (36 + a2)) (zb_a S3 (b0 + 1) (Int32.toNatClampNeg 53))) (fun S4 : zb_S =>
      some ((), S4)) else none else none) else none else none
    else
      some ((), S1) else none)
set_option maxHeartbeats 4000000 in
set_option maxRecDepth 100000 in
theorem gX1_giveTicket_0 {l : Launch} {G : zb_G} (N : Nat) (b0 : Nat) (h0 : zb_kd b0 = 1) (S : zb_S) (a1 : Int32) (a2 : Int32) : zb_Go zb_eV l G 1 RX1 cX1_giveTicket 3 none 0 [(0, .ref (zb_ad G b0)), (1, .int a1), (2, .int a2)] [] S (fX1_giveTicket_0 N b0 S a1 a2) := by
  unfold fX1_giveTicket_0
  refine zg_iload_n 1 dX1_giveTicket_0 rfl rfl ?_
  refine zg_iload_n 2 dX1_giveTicket_1 rfl rfl ?_
  refine zg_callSI (As := [.int a1, .int a2]) (rest := []) 2 (zcX1_in N S a1 a2) (by decide) (by decide) zw_247 zw_157 zw_19 zw_158 (by decide +kernel) rfl rfl (Nat.le_of_ble_eq_true rfl) dX1_giveTicket_2 (fun r2 S1 => ?_)
  refine zg_if_eq 47 dX1_giveTicket_5 (by decide) ?_ ?_
  · exact zg_vret rfl dX1_giveTicket_47
  · refine zg_aload_n 0 dX1_giveTicket_8 rfl rfl ?_
    refine zq_X1_4 h0 (zk_X1_4 h0).1 zw_55 dX1_giveTicket_9 ?_
    refine zg_bipush (v := 36) dX1_giveTicket_12 (by decide) ?_
    refine zg_iload_n 2 dX1_giveTicket_14 rfl rfl ?_
    refine zg_iadd dX1_giveTicket_15 ?_
    refine zg_iald (zk_X1_4 h0).2.1 dX1_giveTicket_16 ?_
    refine zg_if_ne 47 dX1_giveTicket_17 (by decide) ?_ ?_
    · exact zg_vret rfl dX1_giveTicket_47
    · refine zg_aload_n 0 dX1_giveTicket_20 rfl rfl ?_
      refine zq_X1_4 h0 (zk_X1_4 h0).1 zw_55 dX1_giveTicket_21 ?_
      refine zg_bipush (v := 53) dX1_giveTicket_24 (by decide) ?_
      refine zg_dup2 dX1_giveTicket_26 rfl rfl ?_
      refine zg_iald (zk_X1_4 h0).2.1 dX1_giveTicket_27 ?_
      refine zg_iconst (v := 1) dX1_giveTicket_28 (by decide) ?_
      refine zg_iadd dX1_giveTicket_29 ?_
      refine zg_iast (zk_X1_4 h0).2.1 dX1_giveTicket_30 (fun S3 => ?_)
      refine zg_aload_n 0 dX1_giveTicket_31 rfl rfl ?_
      refine zq_X1_4 h0 (zk_X1_4 h0).1 zw_55 dX1_giveTicket_32 ?_
      refine zg_bipush (v := 36) dX1_giveTicket_35 (by decide) ?_
      refine zg_iload_n 2 dX1_giveTicket_37 rfl rfl ?_
      refine zg_iadd dX1_giveTicket_38 ?_
      refine zg_aload_n 0 dX1_giveTicket_39 rfl rfl ?_
      refine zq_X1_4 h0 (zk_X1_4 h0).1 zw_55 dX1_giveTicket_40 ?_
      refine zg_bipush (v := 53) dX1_giveTicket_43 (by decide) ?_
      refine zg_iald (zk_X1_4 h0).2.1 dX1_giveTicket_45 ?_
      refine zg_iast (zk_X1_4 h0).2.1 dX1_giveTicket_46 (fun S4 => ?_)
      exact zg_vret rfl dX1_giveTicket_47
def fX1_giveTicket (N : Nat) (b0 : Nat) (S : zb_S) (a1 : Int32) (a2 : Int32) : Option (Unit × zb_S) := fX1_giveTicket_0 N b0 S a1 a2
theorem zcX1_giveTicket {l : Launch} {G : zb_G} (N : Nat) (b0 : Nat) (h0 : zb_kd b0 = 1) (S : zb_S) (a1 : Int32) (a2 : Int32) : zb_C zb_eV l G 1 yX1_giveTicket cX1_giveTicket 3 none [.ref (zb_ad G b0), .int a1, .int a2] S (fX1_giveTicket N b0 S a1 a2) :=
  zb_C.of (by decide +kernel) rfl (Nat.le_of_ble_eq_true rfl) rfl (gX1_giveTicket_0 N b0 h0 S a1 a2)
-- X1_giveTickets
def fX1_giveTickets_0 (N : Nat) (b0 : Nat) (S : zb_S) (a1 : Int32) : Option (Unit × zb_S) :=
  zb_bind (fX1_giveTicket N b0 S a1 ((zb_i S b0 3) - 1)) (fun _ S1 =>
  if (zb_i S1 b0 1) ≤ 0 then
    some ((), S1)
  else
    zb_bind (fX1_giveTicket N b0 S1 a1 ((zb_i S1 b0 2) - 1)) (fun _ S3 =>
    some ((), S3)))
set_option maxHeartbeats 4000000 in
set_option maxRecDepth 100000 in
theorem gX1_giveTickets_0 {l : Launch} {G : zb_G} (N : Nat) (b0 : Nat) (h0 : zb_kd b0 = 1) (S : zb_S) (a1 : Int32) : zb_Go zb_eV l G 2 RX1 cX1_giveTickets 2 none 0 [(0, .ref (zb_ad G b0)), (1, .int a1)] [] S (fX1_giveTickets_0 N b0 S a1) := by
  unfold fX1_giveTickets_0
  refine zg_aload_n 0 dX1_giveTickets_0 rfl rfl ?_
  refine zg_iload_n 1 dX1_giveTickets_1 rfl rfl ?_
  refine zg_aload_n 0 dX1_giveTickets_2 rfl rfl ?_
  refine zq_X1_3 h0 zw_54 dX1_giveTickets_3 ?_
  refine zg_iconst (v := 1) dX1_giveTickets_6 (by decide) ?_
  refine zg_isub dX1_giveTickets_7 ?_
  refine zg_callVV (As := [.int a1, .int ((zb_i S b0 3) - 1)]) (rest := []) 2 (zcX1_giveTicket N b0 h0 S a1 ((zb_i S b0 3) - 1)) (by decide) (by decide) h0 (by decide) rfl zw_423 zw_424 zw_425 zw_19 zw_426 (by decide +kernel) rfl rfl (Nat.le_of_ble_eq_true rfl) dX1_giveTickets_8 (fun S1 => ?_)
  refine zg_aload_n 0 dX1_giveTickets_11 rfl rfl ?_
  refine zq_X1_1 h0 zw_52 dX1_giveTickets_12 ?_
  refine zg_if_le 29 dX1_giveTickets_15 (by decide) ?_ ?_
  · exact zg_vret rfl dX1_giveTickets_29
  · refine zg_aload_n 0 dX1_giveTickets_18 rfl rfl ?_
    refine zg_iload_n 1 dX1_giveTickets_19 rfl rfl ?_
    refine zg_aload_n 0 dX1_giveTickets_20 rfl rfl ?_
    refine zq_X1_2 h0 zw_53 dX1_giveTickets_21 ?_
    refine zg_iconst (v := 1) dX1_giveTickets_24 (by decide) ?_
    refine zg_isub dX1_giveTickets_25 ?_
    refine zg_callVV (As := [.int a1, .int ((zb_i S1 b0 2) - 1)]) (rest := []) 2 (zcX1_giveTicket N b0 h0 S1 a1 ((zb_i S1 b0 2) - 1)) (by decide) (by decide) h0 (by decide) rfl zw_423 zw_424 zw_425 zw_19 zw_426 (by decide +kernel) rfl rfl (Nat.le_of_ble_eq_true rfl) dX1_giveTickets_26 (fun S3 => ?_)
    exact zg_vret rfl dX1_giveTickets_29
def fX1_giveTickets (N : Nat) (b0 : Nat) (S : zb_S) (a1 : Int32) : Option (Unit × zb_S) := fX1_giveTickets_0 N b0 S a1
theorem zcX1_giveTickets {l : Launch} {G : zb_G} (N : Nat) (b0 : Nat) (h0 : zb_kd b0 = 1) (S : zb_S) (a1 : Int32) : zb_C zb_eV l G 2 yX1_giveTickets cX1_giveTickets 2 none [.ref (zb_ad G b0), .int a1] S (fX1_giveTickets N b0 S a1) :=
  zb_C.of (by decide +kernel) rfl (Nat.le_of_ble_eq_true rfl) rfl (gX1_giveTickets_0 N b0 h0 S a1)
-- X1_yielding
def fX1_yielding_0 (N : Nat) (b0 : Nat) (S : zb_S) (a1 : Int32) : Option (Int32 × zb_S) :=
  zb_let ((zb_i S b0 3) - 1) (fun x1 : Int32 =>
  zb_let ((zb_i S b0 2) - 1) (fun x2 : Int32 =>
  if (zb_i S b0 1) = 0 then
    some (0, S)
  else
    zb_bind (fX1_in N S a1 x1) (fun r4 S3 =>
    if r4 = 0 then
      some (0, S3)
    else
      zb_bind (fX1_in N S3 a1 x2) (fun r6 S5 =>
      if r6 = 0 then
        some (0, S5)
      else
        if zb_in (36 + x1) (zb_sz (b0 + 1)) then
        if zb_in (36 + x2) (zb_sz (b0 + 1)) then
        if (zb_a S5 (b0 + 1) (Int32.toNatClampNeg (36 + x2))) ≤ (zb_a S5 (b0 + 1) (Int32.toNatClampNeg (36 + x1))) then
          some ((1 : Int32) <<< (x1 &&& 31), S5)
        else
          some ((1 : Int32) <<< (x2 &&& 31), S5) else none else none))))
set_option maxHeartbeats 4000000 in
set_option maxRecDepth 100000 in
theorem gX1_yielding_0 {l : Launch} {G : zb_G} (N : Nat) (b0 : Nat) (h0 : zb_kd b0 = 1) (S : zb_S) (a1 : Int32) : zb_Go zb_eI l G 1 RX1 cX1_yielding 4 (some .int) 0 [(0, .ref (zb_ad G b0)), (1, .int a1)] [] S (fX1_yielding_0 N b0 S a1) := by
  unfold fX1_yielding_0
  refine zg_aload_n 0 dX1_yielding_0 rfl rfl ?_
  refine zq_X1_3 h0 zw_54 dX1_yielding_1 ?_
  refine zg_iconst (v := 1) dX1_yielding_4 (by decide) ?_
  refine zg_isub dX1_yielding_5 ?_
  refine zg_istore_nL (fun x1 => [(2, .int x1), (0, .ref (zb_ad G b0)), (1, .int a1)]) dX1_yielding_6 rfl (by decide) (fun _ => rfl) (fun x1 => ?_)
  refine zg_aload_n 1 dX1_yielding_7 rfl rfl ?_
  refine zq_X1_2 h0 zw_53 dX1_yielding_8 ?_
  refine zg_iconst (v := 1) dX1_yielding_11 (by decide) ?_
  refine zg_isub dX1_yielding_12 ?_
  refine zg_istore_nL (fun x2 => [(3, .int x2), (2, .int x1), (0, .ref (zb_ad G b0)), (1, .int a1)]) dX1_yielding_13 rfl (by decide) (fun _ => rfl) (fun x2 => ?_)
  refine zg_aload_n 2 dX1_yielding_14 rfl rfl ?_
  refine zq_X1_1 h0 zw_52 dX1_yielding_15 ?_
  refine zg_if_eq 37 dX1_yielding_18 (by decide) ?_ ?_
  · refine zg_iconst (v := 0) dX1_yielding_37 (by decide) ?_
    exact zg_iret rfl dX1_yielding_38
  · refine zg_iload_n 3 dX1_yielding_21 rfl rfl ?_
    refine zg_iload_n 1 dX1_yielding_22 rfl rfl ?_
    refine zg_callSI (As := [.int a1, .int x1]) (rest := []) 2 (zcX1_in N S a1 x1) (by decide) (by decide) zw_247 zw_157 zw_19 zw_158 (by decide +kernel) rfl rfl (Nat.le_of_ble_eq_true rfl) dX1_yielding_23 (fun r4 S3 => ?_)
    refine zg_if_eq 37 dX1_yielding_26 (by decide) ?_ ?_
    · refine zg_iconst (v := 0) dX1_yielding_37 (by decide) ?_
      exact zg_iret rfl dX1_yielding_38
    · refine zg_iload_n 3 dX1_yielding_29 rfl rfl ?_
      refine zg_iload_n 0 dX1_yielding_30 rfl rfl ?_
      refine zg_callSI (As := [.int a1, .int x2]) (rest := []) 2 (zcX1_in N S3 a1 x2) (by decide) (by decide) zw_247 zw_157 zw_19 zw_158 (by decide +kernel) rfl rfl (Nat.le_of_ble_eq_true rfl) dX1_yielding_31 (fun r6 S5 => ?_)
      refine zg_if_ne 39 dX1_yielding_34 (by decide) ?_ ?_
      · refine zg_aload_n 2 dX1_yielding_39 rfl rfl ?_
        refine zq_X1_4 h0 (zk_X1_4 h0).1 zw_55 dX1_yielding_40 ?_
        refine zg_bipush (v := 36) dX1_yielding_43 (by decide) ?_
        refine zg_iload_n 1 dX1_yielding_45 rfl rfl ?_
        refine zg_iadd dX1_yielding_46 ?_
        refine zg_iald (zk_X1_4 h0).2.1 dX1_yielding_47 ?_
        refine zg_aload_n 2 dX1_yielding_48 rfl rfl ?_
        refine zq_X1_4 h0 (zk_X1_4 h0).1 zw_55 dX1_yielding_49 ?_
        refine zg_bipush (v := 36) dX1_yielding_52 (by decide) ?_
        refine zg_iload_n 0 dX1_yielding_54 rfl rfl ?_
        refine zg_iadd dX1_yielding_55 ?_
        refine zg_iald (zk_X1_4 h0).2.1 dX1_yielding_56 ?_
        refine zg_icmp_ge 66 dX1_yielding_57 (by decide) ?_ ?_
        · refine zg_iconst (v := 1) dX1_yielding_66 (by decide) ?_
          refine zg_iload_n 1 dX1_yielding_67 rfl rfl ?_
          refine zg_ishl dX1_yielding_68 ?_
          exact zg_iret rfl dX1_yielding_69
        · refine zg_iconst (v := 1) dX1_yielding_60 (by decide) ?_
          refine zg_iload_n 0 dX1_yielding_61 rfl rfl ?_
          refine zg_ishl dX1_yielding_62 ?_
          refine zg_goto (tgt := 69) dX1_yielding_63 (by decide) ?_
          exact zg_iret rfl dX1_yielding_69
      · refine zg_iconst (v := 0) dX1_yielding_37 (by decide) ?_
        exact zg_iret rfl dX1_yielding_38
def fX1_yielding (N : Nat) (b0 : Nat) (S : zb_S) (a1 : Int32) : Option (Int32 × zb_S) := fX1_yielding_0 N b0 S a1
theorem zcX1_yielding {l : Launch} {G : zb_G} (N : Nat) (b0 : Nat) (h0 : zb_kd b0 = 1) (S : zb_S) (a1 : Int32) : zb_C zb_eI l G 1 yX1_yielding cX1_yielding 4 (some .int) [.ref (zb_ad G b0), .int a1] S (fX1_yielding N b0 S a1) :=
  zb_C.of (by decide +kernel) rfl (Nat.le_of_ble_eq_true rfl) rfl (gX1_yielding_0 N b0 h0 S a1)
-- X1_roomWith
def fX1_roomWith_0 (N : Nat) (b0 : Nat) (S : zb_S) (a1 : Int32) (a2 : Int32) : Option (Int32 × zb_S) :=
  if zb_in 51 (zb_sz (b0 + 1)) then
  if (zb_a S (b0 + 1) (Int32.toNatClampNeg 51)) = 1 then
    some (a2 ||| a1, S)
  else
    some (a2, S) else none
set_option maxHeartbeats 4000000 in
set_option maxRecDepth 100000 in
theorem gX1_roomWith_0 {l : Launch} {G : zb_G} (N : Nat) (b0 : Nat) (h0 : zb_kd b0 = 1) (S : zb_S) (a1 : Int32) (a2 : Int32) : zb_Go zb_eI l G 0 RX1 cX1_roomWith 3 (some .int) 0 [(0, .ref (zb_ad G b0)), (1, .int a1), (2, .int a2)] [] S (fX1_roomWith_0 N b0 S a1 a2) := by
  unfold fX1_roomWith_0
  refine zg_aload_n 0 dX1_roomWith_0 rfl rfl ?_
  refine zq_X1_4 h0 (zk_X1_4 h0).1 zw_55 dX1_roomWith_1 ?_
  refine zg_bipush (v := 51) dX1_roomWith_4 (by decide) ?_
  refine zg_iald (zk_X1_4 h0).2.1 dX1_roomWith_6 ?_
  refine zg_iconst (v := 1) dX1_roomWith_7 (by decide) ?_
  refine zg_icmp_ne 17 dX1_roomWith_8 (by decide) ?_ ?_
  · refine zg_iload_n 2 dX1_roomWith_17 rfl rfl ?_
    exact zg_iret rfl dX1_roomWith_18
  · refine zg_iload_n 2 dX1_roomWith_11 rfl rfl ?_
    refine zg_iload_n 1 dX1_roomWith_12 rfl rfl ?_
    refine zg_ior dX1_roomWith_13 ?_
    refine zg_goto (tgt := 18) dX1_roomWith_14 (by decide) ?_
    exact zg_iret rfl dX1_roomWith_18
def fX1_roomWith (N : Nat) (b0 : Nat) (S : zb_S) (a1 : Int32) (a2 : Int32) : Option (Int32 × zb_S) := fX1_roomWith_0 N b0 S a1 a2
theorem zcX1_roomWith {l : Launch} {G : zb_G} (N : Nat) (b0 : Nat) (h0 : zb_kd b0 = 1) (S : zb_S) (a1 : Int32) (a2 : Int32) : zb_C zb_eI l G 0 yX1_roomWith cX1_roomWith 3 (some .int) [.ref (zb_ad G b0), .int a1, .int a2] S (fX1_roomWith N b0 S a1 a2) :=
  zb_C.of (by decide +kernel) rfl (Nat.le_of_ble_eq_true rfl) rfl (gX1_roomWith_0 N b0 h0 S a1 a2)
-- X1_goer
def fX1_goer_0 (N : Nat) (b0 : Nat) (S : zb_S) (a1 : Int32) (a2 : Int32) (a3 : Int32) : Option (Int32 × zb_S) :=
  zb_bind (fX1_in N S a2 a1) (fun r2 S1 =>
  if r2 = 0 then
    some (0, S1)
  else
    zb_bind (fX1_behind N b0 S1 a1) (fun r4 S3 =>
    zb_bind (fX1_in N S3 a3 r4) (fun r6 S5 =>
    if r6 = 0 then
      some (0, S5)
    else
      some ((1 : Int32) <<< (a1 &&& 31), S5))))
set_option maxHeartbeats 4000000 in
set_option maxRecDepth 100000 in
theorem gX1_goer_0 {l : Launch} {G : zb_G} (N : Nat) (b0 : Nat) (h0 : zb_kd b0 = 1) (S : zb_S) (a1 : Int32) (a2 : Int32) (a3 : Int32) : zb_Go zb_eI l G 1 RX1 cX1_goer 4 (some .int) 0 [(0, .ref (zb_ad G b0)), (1, .int a1), (2, .int a2), (3, .int a3)] [] S (fX1_goer_0 N b0 S a1 a2 a3) := by
  unfold fX1_goer_0
  refine zg_iload_n 2 dX1_goer_0 rfl rfl ?_
  refine zg_iload_n 1 dX1_goer_1 rfl rfl ?_
  refine zg_callSI (As := [.int a2, .int a1]) (rest := []) 2 (zcX1_in N S a2 a1) (by decide) (by decide) zw_247 zw_157 zw_19 zw_158 (by decide +kernel) rfl rfl (Nat.le_of_ble_eq_true rfl) dX1_goer_2 (fun r2 S1 => ?_)
  refine zg_if_eq 26 dX1_goer_5 (by decide) ?_ ?_
  · refine zg_iconst (v := 0) dX1_goer_26 (by decide) ?_
    exact zg_iret rfl dX1_goer_27
  · refine zg_iload_n 3 dX1_goer_8 rfl rfl ?_
    refine zg_aload_n 0 dX1_goer_9 rfl rfl ?_
    refine zg_iload_n 1 dX1_goer_10 rfl rfl ?_
    refine zg_callVI (As := [.int a1]) (rest := [.int a3]) 1 (zcX1_behind N b0 h0 S1 a1) (by decide) (by decide) h0 (by decide) rfl zw_415 zw_416 zw_417 zw_19 zw_418 (by decide +kernel) rfl rfl (Nat.le_of_ble_eq_true rfl) dX1_goer_11 (fun r4 S3 => ?_)
    refine zg_callSI (As := [.int a3, .int r4]) (rest := []) 2 (zcX1_in N S3 a3 r4) (by decide) (by decide) zw_247 zw_157 zw_19 zw_158 (by decide +kernel) rfl rfl (Nat.le_of_ble_eq_true rfl) dX1_goer_14 (fun r6 S5 => ?_)
    refine zg_if_eq 26 dX1_goer_17 (by decide) ?_ ?_
    · refine zg_iconst (v := 0) dX1_goer_26 (by decide) ?_
      exact zg_iret rfl dX1_goer_27
    · refine zg_iconst (v := 1) dX1_goer_20 (by decide) ?_
      refine zg_iload_n 1 dX1_goer_21 rfl rfl ?_
      refine zg_ishl dX1_goer_22 ?_
      refine zg_goto (tgt := 27) dX1_goer_23 (by decide) ?_
      exact zg_iret rfl dX1_goer_27
def fX1_goer (N : Nat) (b0 : Nat) (S : zb_S) (a1 : Int32) (a2 : Int32) (a3 : Int32) : Option (Int32 × zb_S) := fX1_goer_0 N b0 S a1 a2 a3
theorem zcX1_goer {l : Launch} {G : zb_G} (N : Nat) (b0 : Nat) (h0 : zb_kd b0 = 1) (S : zb_S) (a1 : Int32) (a2 : Int32) (a3 : Int32) : zb_C zb_eI l G 1 yX1_goer cX1_goer 4 (some .int) [.ref (zb_ad G b0), .int a1, .int a2, .int a3] S (fX1_goer N b0 S a1 a2 a3) :=
  zb_C.of (by decide +kernel) rfl (Nat.le_of_ble_eq_true rfl) rfl (gX1_goer_0 N b0 h0 S a1 a2 a3)
-- X1_settle
def fX1_settle_72b (N : Nat) (b0 : Nat) (k72 : zb_S → Int32 → Int32 → Int32 → Int32 → Option (Int32 × zb_S)) (S : zb_S) (l1 : Int32) (l2 : Int32) (l4 : Int32) (l5 : Int32) : Option (Int32 × zb_S) :=
  if l5 < (zb_i S b0 0) then
    some (l4, S)
  else
    zb_bind (fX1_roomWith N b0 S l4 l2) (fun r2 S1 =>
    zb_bind (fX1_goer N b0 S1 l5 l1 r2) (fun r4 S3 =>
    zb_let (l4 ||| r4) (fun x5 : Int32 =>
    zb_let (l5 + (-1)) (fun x6 : Int32 =>
    k72 S3 l1 l2 x5 x6))))
set_option maxHeartbeats 4000000 in
set_option maxRecDepth 100000 in
theorem gX1_settle_72b {l : Launch} {G : zb_G} (N : Nat) (b0 : Nat) (h0 : zb_kd b0 = 1) (k72 : zb_S → Int32 → Int32 → Int32 → Int32 → Option (Int32 × zb_S)) (hk72 : ∀ (S : zb_S) (l1 : Int32) (l2 : Int32) (l4 : Int32) (l5 : Int32), zb_Go zb_eI l G 2 RX1 cX1_settle 6 (some .int) 72 [(0, .ref (zb_ad G b0)), (1, .int l1), (2, .int l2), (4, .int l4), (5, .int l5)] [] S (k72 S l1 l2 l4 l5)) (S : zb_S) (l1 : Int32) (l2 : Int32) (l4 : Int32) (l5 : Int32) : zb_Go zb_eI l G 2 RX1 cX1_settle 6 (some .int) 72 [(0, .ref (zb_ad G b0)), (1, .int l1), (2, .int l2), (4, .int l4), (5, .int l5)] [] S (fX1_settle_72b N b0 k72 S l1 l2 l4 l5) := by
  unfold fX1_settle_72b
  refine zg_iload 4 dX1_settle_72 rfl ?_
  refine zg_aload_n 0 dX1_settle_74 rfl rfl ?_
  refine zq_X1_0 h0 zw_51 dX1_settle_75 ?_
  refine zg_icmp_lt 106 dX1_settle_78 (by decide) ?_ ?_
  · refine zg_iload 3 dX1_settle_106 rfl ?_
    exact zg_iret rfl dX1_settle_108
  · refine zg_iload 3 dX1_settle_81 rfl ?_
    refine zg_aload_n 0 dX1_settle_83 rfl rfl ?_
    refine zg_iload 4 dX1_settle_84 rfl ?_
    refine zg_iload_n 1 dX1_settle_86 rfl rfl ?_
    refine zg_aload_n 0 dX1_settle_87 rfl rfl ?_
    refine zg_iload 3 dX1_settle_88 rfl ?_
    refine zg_iload_n 2 dX1_settle_90 rfl rfl ?_
    refine zg_callVI (As := [.int l4, .int l2]) (rest := [.int l1, .int l5, .ref (zb_ad G b0), .int l4]) 2 (zcX1_roomWith N b0 h0 S l4 l2) (by decide) (by decide) h0 (by decide) rfl zw_435 zw_436 zw_437 zw_19 zw_438 (by decide +kernel) rfl rfl (Nat.le_of_ble_eq_true rfl) dX1_settle_91 (fun r2 S1 => ?_)
    refine zg_callVI (As := [.int l5, .int l1, .int r2]) (rest := [.int l4]) 3 (zcX1_goer N b0 h0 S1 l5 l1 r2) (by decide) (by decide) h0 (by decide) rfl zw_439 zw_440 zw_441 zw_19 zw_442 (by decide +kernel) rfl rfl (Nat.le_of_ble_eq_true rfl) dX1_settle_94 (fun r4 S3 => ?_)
    refine zg_ior dX1_settle_97 ?_
    refine zg_istoreL (fun x5 => [(4, .int x5), (0, .ref (zb_ad G b0)), (1, .int l1), (2, .int l2), (5, .int l5)]) dX1_settle_98 (by decide) (fun _ => rfl) (fun x5 => ?_)
    refine zg_iincL (fun x6 => [(5, .int x6), (4, .int x5), (0, .ref (zb_ad G b0)), (1, .int l1), (2, .int l2)]) 4 dX1_settle_100 rfl rfl (by decide) (fun _ => rfl) (fun x6 => ?_)
    refine zg_goto (tgt := 72) dX1_settle_103 (by decide) ?_
    refine zg_sub [2, 3, 4, 1, 0] rfl ?_
    exact hk72 S3 l1 l2 x5 x6
def fX1_settle_72 (N : Nat) (b0 : Nat) : Nat → zb_S → Int32 → Int32 → Int32 → Int32 → Option (Int32 × zb_S)
  | 0, _, _, _, _, _ => none
  | n + 1, S, l1, l2, l4, l5 => fX1_settle_72b N b0 (fX1_settle_72 N b0 n) S l1 l2 l4 l5
set_option maxHeartbeats 4000000 in
set_option maxRecDepth 100000 in
theorem gX1_settle_72 {l : Launch} {G : zb_G} (N : Nat) (b0 : Nat) (h0 : zb_kd b0 = 1) : ∀ (n : Nat) (S : zb_S) (l1 : Int32) (l2 : Int32) (l4 : Int32) (l5 : Int32), zb_Go zb_eI l G 2 RX1 cX1_settle 6 (some .int) 72 [(0, .ref (zb_ad G b0)), (1, .int l1), (2, .int l2), (4, .int l4), (5, .int l5)] [] S (fX1_settle_72 N b0 n S l1 l2 l4 l5) := by
  intro n
  induction n with
  | zero => intros; exact zg_none
  | succ n ih =>
    intro S l1 l2 l4 l5
    exact gX1_settle_72b N b0 h0 (fX1_settle_72 N b0 n) ih S l1 l2 l4 l5
def fX1_settle_34b (N : Nat) (b0 : Nat) (k34 : zb_S → Int32 → Int32 → Int32 → Int32 → Option (Int32 × zb_S)) (S : zb_S) (l1 : Int32) (l2 : Int32) (l4 : Int32) (l5 : Int32) : Option (Int32 × zb_S) :=
  if l5 < 0 then
    zb_let ((zb_i S b0 2) - 1) (fun x1 : Int32 =>
    fX1_settle_72 N b0 N S l1 l2 l4 x1)
  else
    zb_bind (fX1_roomWith N b0 S l4 l2) (fun r3 S2 =>
    zb_bind (fX1_goer N b0 S2 l5 l1 r3) (fun r5 S4 =>
    zb_let (l4 ||| r5) (fun x6 : Int32 =>
    zb_let (l5 + (-1)) (fun x7 : Int32 =>
    k34 S4 l1 l2 x6 x7))))
set_option maxHeartbeats 4000000 in
set_option maxRecDepth 100000 in
theorem gX1_settle_34b {l : Launch} {G : zb_G} (N : Nat) (b0 : Nat) (h0 : zb_kd b0 = 1) (k34 : zb_S → Int32 → Int32 → Int32 → Int32 → Option (Int32 × zb_S)) (hk34 : ∀ (S : zb_S) (l1 : Int32) (l2 : Int32) (l4 : Int32) (l5 : Int32), zb_Go zb_eI l G 2 RX1 cX1_settle 6 (some .int) 34 [(0, .ref (zb_ad G b0)), (1, .int l1), (2, .int l2), (4, .int l4), (5, .int l5)] [] S (k34 S l1 l2 l4 l5)) (S : zb_S) (l1 : Int32) (l2 : Int32) (l4 : Int32) (l5 : Int32) : zb_Go zb_eI l G 2 RX1 cX1_settle 6 (some .int) 34 [(0, .ref (zb_ad G b0)), (1, .int l1), (2, .int l2), (4, .int l4), (5, .int l5)] [] S (fX1_settle_34b N b0 k34 S l1 l2 l4 l5) := by
  unfold fX1_settle_34b
  refine zg_iload 4 dX1_settle_34 rfl ?_
  refine zg_if_lt 64 dX1_settle_36 (by decide) ?_ ?_
  · refine zg_aload_n 0 dX1_settle_64 rfl rfl ?_
    refine zq_X1_2 h0 zw_53 dX1_settle_65 ?_
    refine zg_iconst (v := 1) dX1_settle_68 (by decide) ?_
    refine zg_isub dX1_settle_69 ?_
    refine zg_istoreL (fun x1 => [(5, .int x1), (0, .ref (zb_ad G b0)), (1, .int l1), (2, .int l2), (4, .int l4)]) dX1_settle_70 (by decide) (fun _ => rfl) (fun x1 => ?_)
    refine zg_sub [1, 2, 3, 4, 0] rfl ?_
    exact gX1_settle_72 N b0 h0 N S l1 l2 l4 x1
  · refine zg_iload 3 dX1_settle_39 rfl ?_
    refine zg_aload_n 0 dX1_settle_41 rfl rfl ?_
    refine zg_iload 4 dX1_settle_42 rfl ?_
    refine zg_iload_n 1 dX1_settle_44 rfl rfl ?_
    refine zg_aload_n 0 dX1_settle_45 rfl rfl ?_
    refine zg_iload 3 dX1_settle_46 rfl ?_
    refine zg_iload_n 2 dX1_settle_48 rfl rfl ?_
    refine zg_callVI (As := [.int l4, .int l2]) (rest := [.int l1, .int l5, .ref (zb_ad G b0), .int l4]) 2 (zcX1_roomWith N b0 h0 S l4 l2) (by decide) (by decide) h0 (by decide) rfl zw_435 zw_436 zw_437 zw_19 zw_438 (by decide +kernel) rfl rfl (Nat.le_of_ble_eq_true rfl) dX1_settle_49 (fun r3 S2 => ?_)
    refine zg_callVI (As := [.int l5, .int l1, .int r3]) (rest := [.int l4]) 3 (zcX1_goer N b0 h0 S2 l5 l1 r3) (by decide) (by decide) h0 (by decide) rfl zw_439 zw_440 zw_441 zw_19 zw_442 (by decide +kernel) rfl rfl (Nat.le_of_ble_eq_true rfl) dX1_settle_52 (fun r5 S4 => ?_)
    refine zg_ior dX1_settle_55 ?_
    refine zg_istoreL (fun x6 => [(4, .int x6), (0, .ref (zb_ad G b0)), (1, .int l1), (2, .int l2), (5, .int l5)]) dX1_settle_56 (by decide) (fun _ => rfl) (fun x6 => ?_)
    refine zg_iincL (fun x7 => [(5, .int x7), (4, .int x6), (0, .ref (zb_ad G b0)), (1, .int l1), (2, .int l2)]) 4 dX1_settle_58 rfl rfl (by decide) (fun _ => rfl) (fun x7 => ?_)
    refine zg_goto (tgt := 34) dX1_settle_61 (by decide) ?_
    refine zg_sub [2, 3, 4, 1, 0] rfl ?_
    exact hk34 S4 l1 l2 x6 x7
def fX1_settle_34 (N : Nat) (b0 : Nat) : Nat → zb_S → Int32 → Int32 → Int32 → Int32 → Option (Int32 × zb_S)
  | 0, _, _, _, _, _ => none
  | n + 1, S, l1, l2, l4, l5 => fX1_settle_34b N b0 (fX1_settle_34 N b0 n) S l1 l2 l4 l5
set_option maxHeartbeats 4000000 in
set_option maxRecDepth 100000 in
theorem gX1_settle_34 {l : Launch} {G : zb_G} (N : Nat) (b0 : Nat) (h0 : zb_kd b0 = 1) : ∀ (n : Nat) (S : zb_S) (l1 : Int32) (l2 : Int32) (l4 : Int32) (l5 : Int32), zb_Go zb_eI l G 2 RX1 cX1_settle 6 (some .int) 34 [(0, .ref (zb_ad G b0)), (1, .int l1), (2, .int l2), (4, .int l4), (5, .int l5)] [] S (fX1_settle_34 N b0 n S l1 l2 l4 l5) := by
  intro n
  induction n with
  | zero => intros; exact zg_none
  | succ n ih =>
    intro S l1 l2 l4 l5
    exact gX1_settle_34b N b0 h0 (fX1_settle_34 N b0 n) ih S l1 l2 l4 l5
def fX1_settle_27 (N : Nat) (b0 : Nat) (S : zb_S) (l1 : Int32) (l2 : Int32) (l3 : Int32) (s0 : Int32) : Option (Int32 × zb_S) :=
  zb_let (l3 - 1) (fun x1 : Int32 =>
  fX1_settle_34 N b0 N S l1 l2 s0 x1)
set_option maxHeartbeats 4000000 in
set_option maxRecDepth 100000 in
theorem gX1_settle_27 {l : Launch} {G : zb_G} (N : Nat) (b0 : Nat) (h0 : zb_kd b0 = 1) (S : zb_S) (l1 : Int32) (l2 : Int32) (l3 : Int32) (s0 : Int32) : zb_Go zb_eI l G 2 RX1 cX1_settle 6 (some .int) 27 [(0, .ref (zb_ad G b0)), (1, .int l1), (2, .int l2), (3, .int l3)] [.int s0] S (fX1_settle_27 N b0 S l1 l2 l3 s0) := by
  unfold fX1_settle_27
  refine zg_istore (lv' := [(4, .int s0), (0, .ref (zb_ad G b0)), (1, .int l1), (2, .int l2), (3, .int l3)]) dX1_settle_27 (by decide) rfl ?_
  refine zg_iload_n 4 dX1_settle_29 rfl rfl ?_
  refine zg_iconst (v := 1) dX1_settle_30 (by decide) ?_
  refine zg_isub dX1_settle_31 ?_
  refine zg_istoreL (fun x1 => [(5, .int x1), (4, .int s0), (0, .ref (zb_ad G b0)), (1, .int l1), (2, .int l2), (3, .int l3)]) dX1_settle_32 (by decide) (fun _ => rfl) (fun x1 => ?_)
  refine zg_sub [2, 3, 4, 1, 0] rfl ?_
  exact gX1_settle_34 N b0 h0 N S l1 l2 s0 x1
def fX1_settle_0 (N : Nat) (b0 : Nat) (S : zb_S) (a1 : Int32) (a2 : Int32) : Option (Int32 × zb_S) :=
  zb_let ((zb_i S b0 0) - 1) (fun x1 : Int32 =>
  if zb_in 50 (zb_sz (b0 + 1)) then
  if (zb_a S (b0 + 1) (Int32.toNatClampNeg 50)) = 1 then
    fX1_settle_27 N b0 S a1 a2 x1 (a1 &&& ((1 : Int32) <<< (x1 &&& 31)))
  else
    fX1_settle_27 N b0 S a1 a2 x1 0 else none)
set_option maxHeartbeats 4000000 in
set_option maxRecDepth 100000 in
theorem gX1_settle_0 {l : Launch} {G : zb_G} (N : Nat) (b0 : Nat) (h0 : zb_kd b0 = 1) (S : zb_S) (a1 : Int32) (a2 : Int32) : zb_Go zb_eI l G 2 RX1 cX1_settle 6 (some .int) 0 [(0, .ref (zb_ad G b0)), (1, .int a1), (2, .int a2)] [] S (fX1_settle_0 N b0 S a1 a2) := by
  unfold fX1_settle_0
  refine zg_aload_n 0 dX1_settle_0 rfl rfl ?_
  refine zq_X1_0 h0 zw_51 dX1_settle_1 ?_
  refine zg_iconst (v := 1) dX1_settle_4 (by decide) ?_
  refine zg_isub dX1_settle_5 ?_
  refine zg_istore_nL (fun x1 => [(3, .int x1), (0, .ref (zb_ad G b0)), (1, .int a1), (2, .int a2)]) dX1_settle_6 rfl (by decide) (fun _ => rfl) (fun x1 => ?_)
  refine zg_aload_n 1 dX1_settle_7 rfl rfl ?_
  refine zq_X1_4 h0 (zk_X1_4 h0).1 zw_55 dX1_settle_8 ?_
  refine zg_bipush (v := 50) dX1_settle_11 (by decide) ?_
  refine zg_iald (zk_X1_4 h0).2.1 dX1_settle_13 ?_
  refine zg_iconst (v := 1) dX1_settle_14 (by decide) ?_
  refine zg_icmp_ne 26 dX1_settle_15 (by decide) ?_ ?_
  · refine zg_iconst (v := 0) dX1_settle_26 (by decide) ?_
    refine zg_sub [1, 2, 3, 0] rfl ?_
    exact gX1_settle_27 N b0 h0 S a1 a2 x1 0
  · refine zg_iload_n 2 dX1_settle_18 rfl rfl ?_
    refine zg_iconst (v := 1) dX1_settle_19 (by decide) ?_
    refine zg_iload_n 0 dX1_settle_20 rfl rfl ?_
    refine zg_ishl dX1_settle_21 ?_
    refine zg_iand dX1_settle_22 ?_
    refine zg_goto (tgt := 27) dX1_settle_23 (by decide) ?_
    refine zg_sub [1, 2, 3, 0] rfl ?_
    exact gX1_settle_27 N b0 h0 S a1 a2 x1 (a1 &&& ((1 : Int32) <<< (x1 &&& 31)))
def fX1_settle (N : Nat) (b0 : Nat) (S : zb_S) (a1 : Int32) (a2 : Int32) : Option (Int32 × zb_S) := fX1_settle_0 N b0 S a1 a2
theorem zcX1_settle {l : Launch} {G : zb_G} (N : Nat) (b0 : Nat) (h0 : zb_kd b0 = 1) (S : zb_S) (a1 : Int32) (a2 : Int32) : zb_C zb_eI l G 2 yX1_settle cX1_settle 6 (some .int) [.ref (zb_ad G b0), .int a1, .int a2] S (fX1_settle N b0 S a1 a2) :=
  zb_C.of (by decide +kernel) rfl (Nat.le_of_ble_eq_true rfl) rfl (gX1_settle_0 N b0 h0 S a1 a2)
-- X1_handOn
def fX1_handOn_0 (N : Nat) (b0 : Nat) (S : zb_S) (a1 : Int32) : Option (Unit × zb_S) :=
  if zb_in (36 + a1) (zb_sz (b0 + 1)) then zb_let (zb_pa S (b0 + 1) (Int32.toNatClampNeg (36 + a1)) 0) (fun S1 : zb_S =>
  zb_bind (fX1_hasCarton N b0 S1 a1) (fun r3 S2 =>
  if r3 = 0 then
    some ((), S2)
  else
    if a1 = ((zb_i S2 b0 0) - 1) then
      zb_bind (fX1_change N b0 S2 (0 + a1) 0) (fun r15 S14 =>
      zb_let (zb_pi S14 b0 5 r15) (fun S16 : zb_S =>
      if zb_in 55 (zb_sz (b0 + 1)) then
      if zb_in 55 (zb_sz (b0 + 1)) then zb_let (zb_pa S16 (b0 + 1) (Int32.toNatClampNeg 55) ((zb_a S16 (b0 + 1) (Int32.toNatClampNeg 55)) + 1)) (fun S17 : zb_S =>
      some ((), S17)) else none else none))
    else
      zb_bind (fX1_behind N b0 S2 a1) (fun r5 S4 =>
      zb_bind (fX1_hasCarton N b0 S4 r5) (fun r7 S6 =>
      if r7 = 0 then
        zb_bind (fX1_behind N b0 S6 a1) (fun r9 S8 =>
        zb_bind (fX1_change N b0 S8 (0 + a1) 0) (fun r11 S10 =>
        if zb_in (0 + r9) (zb_sz (b0 + 1)) then zb_let (zb_pa S10 (b0 + 1) (Int32.toNatClampNeg (0 + r9)) r11) (fun S12 : zb_S =>
        some ((), S12)) else none))
      else
        if zb_in 48 (zb_sz (b0 + 1)) then
        if zb_in 48 (zb_sz (b0 + 1)) then zb_let (zb_pa S6 (b0 + 1) (Int32.toNatClampNeg 48) ((zb_a S6 (b0 + 1) (Int32.toNatClampNeg 48)) ||| ((1 : Int32) <<< (a1 &&& 31)))) (fun S13 : zb_S =>
        some ((), S13)) else none else none)))) else none
set_option maxHeartbeats 4000000 in
set_option maxRecDepth 100000 in
theorem gX1_handOn_0 {l : Launch} {G : zb_G} (N : Nat) (b0 : Nat) (h0 : zb_kd b0 = 1) (S : zb_S) (a1 : Int32) : zb_Go zb_eV l G 1 RX1 cX1_handOn 2 none 0 [(0, .ref (zb_ad G b0)), (1, .int a1)] [] S (fX1_handOn_0 N b0 S a1) := by
  unfold fX1_handOn_0
  refine zg_aload_n 0 dX1_handOn_0 rfl rfl ?_
  refine zq_X1_4 h0 (zk_X1_4 h0).1 zw_55 dX1_handOn_1 ?_
  refine zg_bipush (v := 36) dX1_handOn_4 (by decide) ?_
  refine zg_iload_n 1 dX1_handOn_6 rfl rfl ?_
  refine zg_iadd dX1_handOn_7 ?_
  refine zg_iconst (v := 0) dX1_handOn_8 (by decide) ?_
  refine zg_iast (zk_X1_4 h0).2.1 dX1_handOn_9 (fun S1 => ?_)
  refine zg_aload_n 0 dX1_handOn_10 rfl rfl ?_
  refine zg_iload_n 1 dX1_handOn_11 rfl rfl ?_
  refine zg_callVI (As := [.int a1]) (rest := []) 1 (zcX1_hasCarton N b0 h0 S1 a1) (by decide) (by decide) h0 (by decide) rfl zw_241 zw_234 zw_235 zw_19 zw_236 (by decide +kernel) rfl rfl (Nat.le_of_ble_eq_true rfl) dX1_handOn_12 (fun r3 S2 => ?_)
  refine zg_if_ne 19 dX1_handOn_15 (by decide) ?_ ?_
  · refine zg_iload_n 1 dX1_handOn_19 rfl rfl ?_
    refine zg_aload_n 0 dX1_handOn_20 rfl rfl ?_
    refine zq_X1_0 h0 zw_51 dX1_handOn_21 ?_
    refine zg_iconst (v := 1) dX1_handOn_24 (by decide) ?_
    refine zg_isub dX1_handOn_25 ?_
    refine zg_icmp_ne 55 dX1_handOn_26 (by decide) ?_ ?_
    · refine zg_aload_n 0 dX1_handOn_55 rfl rfl ?_
      refine zg_aload_n 0 dX1_handOn_56 rfl rfl ?_
      refine zg_iload_n 1 dX1_handOn_57 rfl rfl ?_
      refine zg_callVI (As := [.int a1]) (rest := [.ref (zb_ad G b0)]) 1 (zcX1_behind N b0 h0 S2 a1) (by decide) (by decide) h0 (by decide) rfl zw_415 zw_416 zw_417 zw_19 zw_418 (by decide +kernel) rfl rfl (Nat.le_of_ble_eq_true rfl) dX1_handOn_58 (fun r5 S4 => ?_)
      refine zg_callVI (As := [.int r5]) (rest := []) 1 (zcX1_hasCarton N b0 h0 S4 r5) (by decide) (by decide) h0 (by decide) rfl zw_241 zw_234 zw_235 zw_19 zw_236 (by decide +kernel) rfl rfl (Nat.le_of_ble_eq_true rfl) dX1_handOn_61 (fun r7 S6 => ?_)
      refine zg_if_eq 83 dX1_handOn_64 (by decide) ?_ ?_
      · refine zg_aload_n 0 dX1_handOn_83 rfl rfl ?_
        refine zq_X1_4 h0 (zk_X1_4 h0).1 zw_55 dX1_handOn_84 ?_
        refine zg_iconst (v := 0) dX1_handOn_87 (by decide) ?_
        refine zg_aload_n 0 dX1_handOn_88 rfl rfl ?_
        refine zg_iload_n 1 dX1_handOn_89 rfl rfl ?_
        refine zg_callVI (As := [.int a1]) (rest := [.int 0, .ref (zb_ad G (b0 + 1))]) 1 (zcX1_behind N b0 h0 S6 a1) (by decide) (by decide) h0 (by decide) rfl zw_415 zw_416 zw_417 zw_19 zw_418 (by decide +kernel) rfl rfl (Nat.le_of_ble_eq_true rfl) dX1_handOn_90 (fun r9 S8 => ?_)
        refine zg_iadd dX1_handOn_93 ?_
        refine zg_aload_n 0 dX1_handOn_94 rfl rfl ?_
        refine zg_iconst (v := 0) dX1_handOn_95 (by decide) ?_
        refine zg_iload_n 1 dX1_handOn_96 rfl rfl ?_
        refine zg_iadd dX1_handOn_97 ?_
        refine zg_iconst (v := 0) dX1_handOn_98 (by decide) ?_
        refine zg_callVI (As := [.int (0 + a1), .int 0]) (rest := [.int (0 + r9), .ref (zb_ad G (b0 + 1))]) 2 (zcX1_change N b0 h0 S8 (0 + a1) 0) (by decide) (by decide) h0 (by decide) rfl zw_331 zw_332 zw_333 zw_19 zw_334 (by decide +kernel) rfl rfl (Nat.le_of_ble_eq_true rfl) dX1_handOn_99 (fun r11 S10 => ?_)
        refine zg_iast (zk_X1_4 h0).2.1 dX1_handOn_102 (fun S12 => ?_)
        exact zg_vret rfl dX1_handOn_103
      · refine zg_aload_n 0 dX1_handOn_67 rfl rfl ?_
        refine zq_X1_4 h0 (zk_X1_4 h0).1 zw_55 dX1_handOn_68 ?_
        refine zg_bipush (v := 48) dX1_handOn_71 (by decide) ?_
        refine zg_dup2 dX1_handOn_73 rfl rfl ?_
        refine zg_iald (zk_X1_4 h0).2.1 dX1_handOn_74 ?_
        refine zg_iconst (v := 1) dX1_handOn_75 (by decide) ?_
        refine zg_iload_n 1 dX1_handOn_76 rfl rfl ?_
        refine zg_ishl dX1_handOn_77 ?_
        refine zg_ior dX1_handOn_78 ?_
        refine zg_iast (zk_X1_4 h0).2.1 dX1_handOn_79 (fun S13 => ?_)
        refine zg_goto (tgt := 103) dX1_handOn_80 (by decide) ?_
        exact zg_vret rfl dX1_handOn_103
    · refine zg_aload_n 0 dX1_handOn_29 rfl rfl ?_
      refine zg_aload_n 0 dX1_handOn_30 rfl rfl ?_
      refine zg_iconst (v := 0) dX1_handOn_31 (by decide) ?_
      refine zg_iload_n 1 dX1_handOn_32 rfl rfl ?_
      refine zg_iadd dX1_handOn_33 ?_
      refine zg_iconst (v := 0) dX1_handOn_34 (by decide) ?_
      refine zg_callVI (As := [.int (0 + a1), .int 0]) (rest := [.ref (zb_ad G b0)]) 2 (zcX1_change N b0 h0 S2 (0 + a1) 0) (by decide) (by decide) h0 (by decide) rfl zw_331 zw_332 zw_333 zw_19 zw_334 (by decide +kernel) rfl rfl (Nat.le_of_ble_eq_true rfl) dX1_handOn_35 (fun r15 S14 => ?_)
      refine zp_X1_5 h0 zw_56 dX1_handOn_38 (fun S16 => ?_)
      refine zg_aload_n 0 dX1_handOn_41 rfl rfl ?_
      refine zq_X1_4 h0 (zk_X1_4 h0).1 zw_55 dX1_handOn_42 ?_
      refine zg_bipush (v := 55) dX1_handOn_45 (by decide) ?_
      refine zg_dup2 dX1_handOn_47 rfl rfl ?_
      refine zg_iald (zk_X1_4 h0).2.1 dX1_handOn_48 ?_
      refine zg_iconst (v := 1) dX1_handOn_49 (by decide) ?_
      refine zg_iadd dX1_handOn_50 ?_
      refine zg_iast (zk_X1_4 h0).2.1 dX1_handOn_51 (fun S17 => ?_)
      refine zg_goto (tgt := 103) dX1_handOn_52 (by decide) ?_
      exact zg_vret rfl dX1_handOn_103
  · exact zg_vret rfl dX1_handOn_18
def fX1_handOn (N : Nat) (b0 : Nat) (S : zb_S) (a1 : Int32) : Option (Unit × zb_S) := fX1_handOn_0 N b0 S a1
theorem zcX1_handOn {l : Launch} {G : zb_G} (N : Nat) (b0 : Nat) (h0 : zb_kd b0 = 1) (S : zb_S) (a1 : Int32) : zb_C zb_eV l G 1 yX1_handOn cX1_handOn 2 none [.ref (zb_ad G b0), .int a1] S (fX1_handOn N b0 S a1) :=
  zb_C.of (by decide +kernel) rfl (Nat.le_of_ble_eq_true rfl) rfl (gX1_handOn_0 N b0 h0 S a1)
-- X1_moveThose
def fX1_moveThose_63 (N : Nat) (b0 : Nat) (k42 : zb_S → Int32 → Int32 → Option (Unit × zb_S)) (S : zb_S) (l1 : Int32) (l2 : Int32) : Option (Unit × zb_S) :=
  zb_let (l2 + (-1)) (fun x1 : Int32 =>
  k42 S l1 x1)
set_option maxHeartbeats 4000000 in
set_option maxRecDepth 100000 in
theorem gX1_moveThose_63 {l : Launch} {G : zb_G} (N : Nat) (b0 : Nat) (h0 : zb_kd b0 = 1) (k42 : zb_S → Int32 → Int32 → Option (Unit × zb_S)) (hk42 : ∀ (S : zb_S) (l1 : Int32) (l2 : Int32), zb_Go zb_eV l G 2 RX1 cX1_moveThose 3 none 42 [(0, .ref (zb_ad G b0)), (1, .int l1), (2, .int l2)] [] S (k42 S l1 l2)) (S : zb_S) (l1 : Int32) (l2 : Int32) : zb_Go zb_eV l G 2 RX1 cX1_moveThose 3 none 63 [(0, .ref (zb_ad G b0)), (1, .int l1), (2, .int l2)] [] S (fX1_moveThose_63 N b0 k42 S l1 l2) := by
  unfold fX1_moveThose_63
  refine zg_iincL (fun x1 => [(2, .int x1), (0, .ref (zb_ad G b0)), (1, .int l1)]) 2 dX1_moveThose_63 rfl rfl (by decide) (fun _ => rfl) (fun x1 => ?_)
  refine zg_goto (tgt := 42) dX1_moveThose_66 (by decide) ?_
  refine zg_sub [1, 2, 0] rfl ?_
  exact hk42 S l1 x1
def fX1_moveThose_42b (N : Nat) (b0 : Nat) (k42 : zb_S → Int32 → Int32 → Option (Unit × zb_S)) (S : zb_S) (l1 : Int32) (l2 : Int32) : Option (Unit × zb_S) :=
  if l2 < (zb_i S b0 0) then
    some ((), S)
  else
    zb_bind (fX1_in N S l1 l2) (fun r2 S1 =>
    if r2 = 0 then
      fX1_moveThose_63 N b0 k42 S1 l1 l2
    else
      zb_bind (fX1_handOn N b0 S1 l2) (fun _ S3 =>
      fX1_moveThose_63 N b0 k42 S3 l1 l2))
set_option maxHeartbeats 4000000 in
set_option maxRecDepth 100000 in
theorem gX1_moveThose_42b {l : Launch} {G : zb_G} (N : Nat) (b0 : Nat) (h0 : zb_kd b0 = 1) (k42 : zb_S → Int32 → Int32 → Option (Unit × zb_S)) (hk42 : ∀ (S : zb_S) (l1 : Int32) (l2 : Int32), zb_Go zb_eV l G 2 RX1 cX1_moveThose 3 none 42 [(0, .ref (zb_ad G b0)), (1, .int l1), (2, .int l2)] [] S (k42 S l1 l2)) (S : zb_S) (l1 : Int32) (l2 : Int32) : zb_Go zb_eV l G 2 RX1 cX1_moveThose 3 none 42 [(0, .ref (zb_ad G b0)), (1, .int l1), (2, .int l2)] [] S (fX1_moveThose_42b N b0 k42 S l1 l2) := by
  unfold fX1_moveThose_42b
  refine zg_iload_n 2 dX1_moveThose_42 rfl rfl ?_
  refine zg_aload_n 0 dX1_moveThose_43 rfl rfl ?_
  refine zq_X1_0 h0 zw_51 dX1_moveThose_44 ?_
  refine zg_icmp_lt 69 dX1_moveThose_47 (by decide) ?_ ?_
  · exact zg_vret rfl dX1_moveThose_69
  · refine zg_iload_n 1 dX1_moveThose_50 rfl rfl ?_
    refine zg_iload_n 2 dX1_moveThose_51 rfl rfl ?_
    refine zg_callSI (As := [.int l1, .int l2]) (rest := []) 2 (zcX1_in N S l1 l2) (by decide) (by decide) zw_247 zw_157 zw_19 zw_158 (by decide +kernel) rfl rfl (Nat.le_of_ble_eq_true rfl) dX1_moveThose_52 (fun r2 S1 => ?_)
    refine zg_if_eq 63 dX1_moveThose_55 (by decide) ?_ ?_
    · exact gX1_moveThose_63 N b0 h0 k42 hk42 S1 l1 l2
    · refine zg_aload_n 0 dX1_moveThose_58 rfl rfl ?_
      refine zg_iload_n 2 dX1_moveThose_59 rfl rfl ?_
      refine zg_callVV (As := [.int l2]) (rest := []) 1 (zcX1_handOn N b0 h0 S1 l2) (by decide) (by decide) h0 (by decide) rfl zw_447 zw_448 zw_449 zw_19 zw_450 (by decide +kernel) rfl rfl (Nat.le_of_ble_eq_true rfl) dX1_moveThose_60 (fun S3 => ?_)
      exact gX1_moveThose_63 N b0 h0 k42 hk42 S3 l1 l2
def fX1_moveThose_42 (N : Nat) (b0 : Nat) : Nat → zb_S → Int32 → Int32 → Option (Unit × zb_S)
  | 0, _, _, _ => none
  | n + 1, S, l1, l2 => fX1_moveThose_42b N b0 (fX1_moveThose_42 N b0 n) S l1 l2
set_option maxHeartbeats 4000000 in
set_option maxRecDepth 100000 in
theorem gX1_moveThose_42 {l : Launch} {G : zb_G} (N : Nat) (b0 : Nat) (h0 : zb_kd b0 = 1) : ∀ (n : Nat) (S : zb_S) (l1 : Int32) (l2 : Int32), zb_Go zb_eV l G 2 RX1 cX1_moveThose 3 none 42 [(0, .ref (zb_ad G b0)), (1, .int l1), (2, .int l2)] [] S (fX1_moveThose_42 N b0 n S l1 l2) := by
  intro n
  induction n with
  | zero => intros; exact zg_none
  | succ n ih =>
    intro S l1 l2
    exact gX1_moveThose_42b N b0 h0 (fX1_moveThose_42 N b0 n) ih S l1 l2
def fX1_moveThose_29 (N : Nat) (b0 : Nat) (k12 : zb_S → Int32 → Int32 → Option (Unit × zb_S)) (S : zb_S) (l1 : Int32) (l2 : Int32) : Option (Unit × zb_S) :=
  zb_let (l2 + (-1)) (fun x1 : Int32 =>
  k12 S l1 x1)
set_option maxHeartbeats 4000000 in
set_option maxRecDepth 100000 in
theorem gX1_moveThose_29 {l : Launch} {G : zb_G} (N : Nat) (b0 : Nat) (h0 : zb_kd b0 = 1) (k12 : zb_S → Int32 → Int32 → Option (Unit × zb_S)) (hk12 : ∀ (S : zb_S) (l1 : Int32) (l2 : Int32), zb_Go zb_eV l G 2 RX1 cX1_moveThose 3 none 12 [(0, .ref (zb_ad G b0)), (1, .int l1), (2, .int l2)] [] S (k12 S l1 l2)) (S : zb_S) (l1 : Int32) (l2 : Int32) : zb_Go zb_eV l G 2 RX1 cX1_moveThose 3 none 29 [(0, .ref (zb_ad G b0)), (1, .int l1), (2, .int l2)] [] S (fX1_moveThose_29 N b0 k12 S l1 l2) := by
  unfold fX1_moveThose_29
  refine zg_iincL (fun x1 => [(2, .int x1), (0, .ref (zb_ad G b0)), (1, .int l1)]) 2 dX1_moveThose_29 rfl rfl (by decide) (fun _ => rfl) (fun x1 => ?_)
  refine zg_goto (tgt := 12) dX1_moveThose_32 (by decide) ?_
  refine zg_sub [1, 2, 0] rfl ?_
  exact hk12 S l1 x1
def fX1_moveThose_12b (N : Nat) (b0 : Nat) (k12 : zb_S → Int32 → Int32 → Option (Unit × zb_S)) (S : zb_S) (l1 : Int32) (l2 : Int32) : Option (Unit × zb_S) :=
  if l2 < 0 then
    zb_let ((zb_i S b0 2) - 1) (fun x1 : Int32 =>
    fX1_moveThose_42 N b0 N S l1 x1)
  else
    zb_bind (fX1_in N S l1 l2) (fun r3 S2 =>
    if r3 = 0 then
      fX1_moveThose_29 N b0 k12 S2 l1 l2
    else
      zb_bind (fX1_handOn N b0 S2 l2) (fun _ S4 =>
      fX1_moveThose_29 N b0 k12 S4 l1 l2))
set_option maxHeartbeats 4000000 in
set_option maxRecDepth 100000 in
theorem gX1_moveThose_12b {l : Launch} {G : zb_G} (N : Nat) (b0 : Nat) (h0 : zb_kd b0 = 1) (k12 : zb_S → Int32 → Int32 → Option (Unit × zb_S)) (hk12 : ∀ (S : zb_S) (l1 : Int32) (l2 : Int32), zb_Go zb_eV l G 2 RX1 cX1_moveThose 3 none 12 [(0, .ref (zb_ad G b0)), (1, .int l1), (2, .int l2)] [] S (k12 S l1 l2)) (S : zb_S) (l1 : Int32) (l2 : Int32) : zb_Go zb_eV l G 2 RX1 cX1_moveThose 3 none 12 [(0, .ref (zb_ad G b0)), (1, .int l1), (2, .int l2)] [] S (fX1_moveThose_12b N b0 k12 S l1 l2) := by
  unfold fX1_moveThose_12b
  refine zg_iload_n 2 dX1_moveThose_12 rfl rfl ?_
  refine zg_if_lt 35 dX1_moveThose_13 (by decide) ?_ ?_
  · refine zg_aload_n 0 dX1_moveThose_35 rfl rfl ?_
    refine zq_X1_2 h0 zw_53 dX1_moveThose_36 ?_
    refine zg_iconst (v := 1) dX1_moveThose_39 (by decide) ?_
    refine zg_isub dX1_moveThose_40 ?_
    refine zg_istore_nL (fun x1 => [(2, .int x1), (0, .ref (zb_ad G b0)), (1, .int l1)]) dX1_moveThose_41 rfl (by decide) (fun _ => rfl) (fun x1 => ?_)
    refine zg_sub [1, 2, 0] rfl ?_
    exact gX1_moveThose_42 N b0 h0 N S l1 x1
  · refine zg_iload_n 1 dX1_moveThose_16 rfl rfl ?_
    refine zg_iload_n 2 dX1_moveThose_17 rfl rfl ?_
    refine zg_callSI (As := [.int l1, .int l2]) (rest := []) 2 (zcX1_in N S l1 l2) (by decide) (by decide) zw_247 zw_157 zw_19 zw_158 (by decide +kernel) rfl rfl (Nat.le_of_ble_eq_true rfl) dX1_moveThose_18 (fun r3 S2 => ?_)
    refine zg_if_eq 29 dX1_moveThose_21 (by decide) ?_ ?_
    · exact gX1_moveThose_29 N b0 h0 k12 hk12 S2 l1 l2
    · refine zg_aload_n 0 dX1_moveThose_24 rfl rfl ?_
      refine zg_iload_n 2 dX1_moveThose_25 rfl rfl ?_
      refine zg_callVV (As := [.int l2]) (rest := []) 1 (zcX1_handOn N b0 h0 S2 l2) (by decide) (by decide) h0 (by decide) rfl zw_447 zw_448 zw_449 zw_19 zw_450 (by decide +kernel) rfl rfl (Nat.le_of_ble_eq_true rfl) dX1_moveThose_26 (fun S4 => ?_)
      exact gX1_moveThose_29 N b0 h0 k12 hk12 S4 l1 l2
def fX1_moveThose_12 (N : Nat) (b0 : Nat) : Nat → zb_S → Int32 → Int32 → Option (Unit × zb_S)
  | 0, _, _, _ => none
  | n + 1, S, l1, l2 => fX1_moveThose_12b N b0 (fX1_moveThose_12 N b0 n) S l1 l2
set_option maxHeartbeats 4000000 in
set_option maxRecDepth 100000 in
theorem gX1_moveThose_12 {l : Launch} {G : zb_G} (N : Nat) (b0 : Nat) (h0 : zb_kd b0 = 1) : ∀ (n : Nat) (S : zb_S) (l1 : Int32) (l2 : Int32), zb_Go zb_eV l G 2 RX1 cX1_moveThose 3 none 12 [(0, .ref (zb_ad G b0)), (1, .int l1), (2, .int l2)] [] S (fX1_moveThose_12 N b0 n S l1 l2) := by
  intro n
  induction n with
  | zero => intros; exact zg_none
  | succ n ih =>
    intro S l1 l2
    exact gX1_moveThose_12b N b0 h0 (fX1_moveThose_12 N b0 n) ih S l1 l2
def fX1_moveThose_0 (N : Nat) (b0 : Nat) (S : zb_S) (a1 : Int32) : Option (Unit × zb_S) :=
  zb_let (zb_pi S b0 5 0) (fun S1 : zb_S =>
  zb_let ((zb_i S1 b0 0) - 1) (fun x2 : Int32 =>
  fX1_moveThose_12 N b0 N S1 a1 x2))
set_option maxHeartbeats 4000000 in
set_option maxRecDepth 100000 in
theorem gX1_moveThose_0 {l : Launch} {G : zb_G} (N : Nat) (b0 : Nat) (h0 : zb_kd b0 = 1) (S : zb_S) (a1 : Int32) : zb_Go zb_eV l G 2 RX1 cX1_moveThose 3 none 0 [(0, .ref (zb_ad G b0)), (1, .int a1)] [] S (fX1_moveThose_0 N b0 S a1) := by
  unfold fX1_moveThose_0
  refine zg_aload_n 0 dX1_moveThose_0 rfl rfl ?_
  refine zg_iconst (v := 0) dX1_moveThose_1 (by decide) ?_
  refine zp_X1_5 h0 zw_56 dX1_moveThose_2 (fun S1 => ?_)
  refine zg_aload_n 0 dX1_moveThose_5 rfl rfl ?_
  refine zq_X1_0 h0 zw_51 dX1_moveThose_6 ?_
  refine zg_iconst (v := 1) dX1_moveThose_9 (by decide) ?_
  refine zg_isub dX1_moveThose_10 ?_
  refine zg_istore_nL (fun x2 => [(2, .int x2), (0, .ref (zb_ad G b0)), (1, .int a1)]) dX1_moveThose_11 rfl (by decide) (fun _ => rfl) (fun x2 => ?_)
  refine zg_sub [1, 2, 0] rfl ?_
  exact gX1_moveThose_12 N b0 h0 N S1 a1 x2
def fX1_moveThose (N : Nat) (b0 : Nat) (S : zb_S) (a1 : Int32) : Option (Unit × zb_S) := fX1_moveThose_0 N b0 S a1
theorem zcX1_moveThose {l : Launch} {G : zb_G} (N : Nat) (b0 : Nat) (h0 : zb_kd b0 = 1) (S : zb_S) (a1 : Int32) : zb_C zb_eV l G 2 yX1_moveThose cX1_moveThose 3 none [.ref (zb_ad G b0), .int a1] S (fX1_moveThose N b0 S a1) :=
  zb_C.of (by decide +kernel) rfl (Nat.le_of_ble_eq_true rfl) rfl (gX1_moveThose_0 N b0 h0 S a1)
-- X1_feedersOf
def fX1_feedersOf_21 (N : Nat) (b0 : Nat) (S : zb_S) (l1 : Int32) (s0 : Int32) : Option (Int32 × zb_S) :=
  if l1 = (zb_i S b0 3) then
    if (zb_i S b0 1) ≤ 0 then
      some (s0, S)
    else
      zb_let (s0 ||| ((1 : Int32) <<< (((zb_i S b0 2) - 1) &&& 31))) (fun x1 : Int32 =>
      some (x1, S))
  else
    some (s0, S)
set_option maxHeartbeats 4000000 in
set_option maxRecDepth 100000 in
theorem gX1_feedersOf_21 {l : Launch} {G : zb_G} (N : Nat) (b0 : Nat) (h0 : zb_kd b0 = 1) (S : zb_S) (l1 : Int32) (s0 : Int32) : zb_Go zb_eI l G 0 RX1 cX1_feedersOf 3 (some .int) 21 [(0, .ref (zb_ad G b0)), (1, .int l1)] [.int s0] S (fX1_feedersOf_21 N b0 S l1 s0) := by
  unfold fX1_feedersOf_21
  refine zg_istore_n (lv' := [(2, .int s0), (0, .ref (zb_ad G b0)), (1, .int l1)]) dX1_feedersOf_21 rfl (by decide) rfl ?_
  refine zg_iload_n 2 dX1_feedersOf_22 rfl rfl ?_
  refine zg_aload_n 1 dX1_feedersOf_23 rfl rfl ?_
  refine zq_X1_3 h0 zw_54 dX1_feedersOf_24 ?_
  refine zg_icmp_ne 48 dX1_feedersOf_27 (by decide) ?_ ?_
  · refine zg_iload_n 0 dX1_feedersOf_48 rfl rfl ?_
    exact zg_iret rfl dX1_feedersOf_49
  · refine zg_aload_n 1 dX1_feedersOf_30 rfl rfl ?_
    refine zq_X1_1 h0 zw_52 dX1_feedersOf_31 ?_
    refine zg_if_le 48 dX1_feedersOf_34 (by decide) ?_ ?_
    · refine zg_iload_n 0 dX1_feedersOf_48 rfl rfl ?_
      exact zg_iret rfl dX1_feedersOf_49
    · refine zg_iload_n 0 dX1_feedersOf_37 rfl rfl ?_
      refine zg_iconst (v := 1) dX1_feedersOf_38 (by decide) ?_
      refine zg_aload_n 1 dX1_feedersOf_39 rfl rfl ?_
      refine zq_X1_2 h0 zw_53 dX1_feedersOf_40 ?_
      refine zg_iconst (v := 1) dX1_feedersOf_43 (by decide) ?_
      refine zg_isub dX1_feedersOf_44 ?_
      refine zg_ishl dX1_feedersOf_45 ?_
      refine zg_ior dX1_feedersOf_46 ?_
      refine zg_istore_nL (fun x1 => [(2, .int x1), (0, .ref (zb_ad G b0)), (1, .int l1)]) dX1_feedersOf_47 rfl (by decide) (fun _ => rfl) (fun x1 => ?_)
      refine zg_iload_n 0 dX1_feedersOf_48 rfl rfl ?_
      exact zg_iret rfl dX1_feedersOf_49
def fX1_feedersOf_12 (N : Nat) (b0 : Nat) (S : zb_S) (l1 : Int32) : Option (Int32 × zb_S) :=
  fX1_feedersOf_21 N b0 S l1 0
set_option maxHeartbeats 4000000 in
set_option maxRecDepth 100000 in
theorem gX1_feedersOf_12 {l : Launch} {G : zb_G} (N : Nat) (b0 : Nat) (h0 : zb_kd b0 = 1) (S : zb_S) (l1 : Int32) : zb_Go zb_eI l G 0 RX1 cX1_feedersOf 3 (some .int) 12 [(0, .ref (zb_ad G b0)), (1, .int l1)] [] S (fX1_feedersOf_12 N b0 S l1) := by
  unfold fX1_feedersOf_12
  refine zg_iconst (v := 0) dX1_feedersOf_12 (by decide) ?_
  refine zg_goto (tgt := 21) dX1_feedersOf_13 (by decide) ?_
  exact gX1_feedersOf_21 N b0 h0 S l1 0
def fX1_feedersOf_0 (N : Nat) (b0 : Nat) (S : zb_S) (a1 : Int32) : Option (Int32 × zb_S) :=
  if a1 = 0 then
    fX1_feedersOf_12 N b0 S a1
  else
    if a1 = (zb_i S b0 0) then
      fX1_feedersOf_12 N b0 S a1
    else
      fX1_feedersOf_21 N b0 S a1 ((1 : Int32) <<< ((a1 - 1) &&& 31))
set_option maxHeartbeats 4000000 in
set_option maxRecDepth 100000 in
theorem gX1_feedersOf_0 {l : Launch} {G : zb_G} (N : Nat) (b0 : Nat) (h0 : zb_kd b0 = 1) (S : zb_S) (a1 : Int32) : zb_Go zb_eI l G 0 RX1 cX1_feedersOf 3 (some .int) 0 [(0, .ref (zb_ad G b0)), (1, .int a1)] [] S (fX1_feedersOf_0 N b0 S a1) := by
  unfold fX1_feedersOf_0
  refine zg_iload_n 1 dX1_feedersOf_0 rfl rfl ?_
  refine zg_if_eq 12 dX1_feedersOf_1 (by decide) ?_ ?_
  · exact gX1_feedersOf_12 N b0 h0 S a1
  · refine zg_iload_n 1 dX1_feedersOf_4 rfl rfl ?_
    refine zg_aload_n 0 dX1_feedersOf_5 rfl rfl ?_
    refine zq_X1_0 h0 zw_51 dX1_feedersOf_6 ?_
    refine zg_icmp_ne 16 dX1_feedersOf_9 (by decide) ?_ ?_
    · refine zg_iconst (v := 1) dX1_feedersOf_16 (by decide) ?_
      refine zg_iload_n 1 dX1_feedersOf_17 rfl rfl ?_
      refine zg_iconst (v := 1) dX1_feedersOf_18 (by decide) ?_
      refine zg_isub dX1_feedersOf_19 ?_
      refine zg_ishl dX1_feedersOf_20 ?_
      exact gX1_feedersOf_21 N b0 h0 S a1 ((1 : Int32) <<< ((a1 - 1) &&& 31))
    · exact gX1_feedersOf_12 N b0 h0 S a1
def fX1_feedersOf (N : Nat) (b0 : Nat) (S : zb_S) (a1 : Int32) : Option (Int32 × zb_S) := fX1_feedersOf_0 N b0 S a1
theorem zcX1_feedersOf {l : Launch} {G : zb_G} (N : Nat) (b0 : Nat) (h0 : zb_kd b0 = 1) (S : zb_S) (a1 : Int32) : zb_C zb_eI l G 0 yX1_feedersOf cX1_feedersOf 3 (some .int) [.ref (zb_ad G b0), .int a1] S (fX1_feedersOf N b0 S a1) :=
  zb_C.of (by decide +kernel) rfl (Nat.le_of_ble_eq_true rfl) rfl (gX1_feedersOf_0 N b0 h0 S a1)
-- X1_tellIdle
def fX1_tellIdle_97 (N : Nat) (b0 : Nat) (k7 : zb_S → Int32 → Int32 → Option (Unit × zb_S)) (S : zb_S) (l1 : Int32) (l2 : Int32) : Option (Unit × zb_S) :=
  zb_let (l2 + 1) (fun x1 : Int32 =>
  k7 S l1 x1)
set_option maxHeartbeats 4000000 in
set_option maxRecDepth 100000 in
theorem gX1_tellIdle_97 {l : Launch} {G : zb_G} (N : Nat) (b0 : Nat) (h0 : zb_kd b0 = 1) (k7 : zb_S → Int32 → Int32 → Option (Unit × zb_S)) (hk7 : ∀ (S : zb_S) (l1 : Int32) (l2 : Int32), zb_Go zb_eV l G 2 RX1 cX1_tellIdle 3 none 7 [(0, .ref (zb_ad G b0)), (1, .int l1), (2, .int l2)] [] S (k7 S l1 l2)) (S : zb_S) (l1 : Int32) (l2 : Int32) : zb_Go zb_eV l G 2 RX1 cX1_tellIdle 3 none 97 [(0, .ref (zb_ad G b0)), (1, .int l1), (2, .int l2)] [] S (fX1_tellIdle_97 N b0 k7 S l1 l2) := by
  unfold fX1_tellIdle_97
  refine zg_iincL (fun x1 => [(2, .int x1), (0, .ref (zb_ad G b0)), (1, .int l1)]) 2 dX1_tellIdle_97 rfl rfl (by decide) (fun _ => rfl) (fun x1 => ?_)
  refine zg_goto (tgt := 7) dX1_tellIdle_100 (by decide) ?_
  refine zg_sub [1, 2, 0] rfl ?_
  exact hk7 S l1 x1
def fX1_tellIdle_7b (N : Nat) (b0 : Nat) (k7 : zb_S → Int32 → Int32 → Option (Unit × zb_S)) (S : zb_S) (l1 : Int32) (l2 : Int32) : Option (Unit × zb_S) :=
  if (zb_i S b0 2) ≤ l2 then
    some ((), S)
  else
    zb_bind (fX1_feedersOf N b0 S l2) (fun r2 S1 =>
    if (l1 &&& (((1 : Int32) <<< (l2 &&& 31)) ||| r2)) = 0 then
      if zb_in (24 + l2) (zb_sz (b0 + 1)) then
      if zb_in (24 + l2) (zb_sz (b0 + 1)) then zb_let (zb_pa S1 (b0 + 1) (Int32.toNatClampNeg (24 + l2)) ((zb_a S1 (b0 + 1) (Int32.toNatClampNeg (24 + l2))) + 1)) (fun S3 : zb_S =>
      if zb_in 52 (zb_sz (b0 + 1)) then
      if (zb_a S3 (b0 + 1) (Int32.toNatClampNeg 52)) ≤ 0 then
        fX1_tellIdle_97 N b0 k7 S3 l1 l2
      else
        if zb_in (24 + l2) (zb_sz (b0 + 1)) then
        if zb_in 52 (zb_sz (b0 + 1)) then
        if (zb_a S3 (b0 + 1) (Int32.toNatClampNeg (24 + l2))) < (zb_a S3 (b0 + 1) (Int32.toNatClampNeg 52)) then
          fX1_tellIdle_97 N b0 k7 S3 l1 l2
        else
          if zb_in 49 (zb_sz (b0 + 1)) then
          if zb_in 49 (zb_sz (b0 + 1)) then zb_let (zb_pa S3 (b0 + 1) (Int32.toNatClampNeg 49) ((zb_a S3 (b0 + 1) (Int32.toNatClampNeg 49)) ||| ((1 : Int32) <<< (l2 &&& 31)))) (fun S4 : zb_S =>
          fX1_tellIdle_97 N b0 k7 S4 l1 l2) else none else none else none else none else none) else none else none
    else
      if zb_in (24 + l2) (zb_sz (b0 + 1)) then zb_let (zb_pa S1 (b0 + 1) (Int32.toNatClampNeg (24 + l2)) 0) (fun S5 : zb_S =>
      fX1_tellIdle_97 N b0 k7 S5 l1 l2) else none)
set_option maxHeartbeats 4000000 in
set_option maxRecDepth 100000 in
theorem gX1_tellIdle_7b {l : Launch} {G : zb_G} (N : Nat) (b0 : Nat) (h0 : zb_kd b0 = 1) (k7 : zb_S → Int32 → Int32 → Option (Unit × zb_S)) (hk7 : ∀ (S : zb_S) (l1 : Int32) (l2 : Int32), zb_Go zb_eV l G 2 RX1 cX1_tellIdle 3 none 7 [(0, .ref (zb_ad G b0)), (1, .int l1), (2, .int l2)] [] S (k7 S l1 l2)) (S : zb_S) (l1 : Int32) (l2 : Int32) : zb_Go zb_eV l G 2 RX1 cX1_tellIdle 3 none 7 [(0, .ref (zb_ad G b0)), (1, .int l1), (2, .int l2)] [] S (fX1_tellIdle_7b N b0 k7 S l1 l2) := by
  unfold fX1_tellIdle_7b
  refine zg_iload_n 2 dX1_tellIdle_7 rfl rfl ?_
  refine zg_aload_n 0 dX1_tellIdle_8 rfl rfl ?_
  refine zq_X1_2 h0 zw_53 dX1_tellIdle_9 ?_
  refine zg_icmp_ge 103 dX1_tellIdle_12 (by decide) ?_ ?_
  · exact zg_vret rfl dX1_tellIdle_103
  · refine zg_iload_n 1 dX1_tellIdle_15 rfl rfl ?_
    refine zg_iconst (v := 1) dX1_tellIdle_16 (by decide) ?_
    refine zg_iload_n 2 dX1_tellIdle_17 rfl rfl ?_
    refine zg_ishl dX1_tellIdle_18 ?_
    refine zg_aload_n 0 dX1_tellIdle_19 rfl rfl ?_
    refine zg_iload_n 2 dX1_tellIdle_20 rfl rfl ?_
    refine zg_callVI (As := [.int l2]) (rest := [.int ((1 : Int32) <<< (l2 &&& 31)), .int l1]) 1 (zcX1_feedersOf N b0 h0 S l2) (by decide) (by decide) h0 (by decide) rfl zw_455 zw_456 zw_457 zw_19 zw_458 (by decide +kernel) rfl rfl (Nat.le_of_ble_eq_true rfl) dX1_tellIdle_21 (fun r2 S1 => ?_)
    refine zg_ior dX1_tellIdle_24 ?_
    refine zg_iand dX1_tellIdle_25 ?_
    refine zg_if_eq 42 dX1_tellIdle_26 (by decide) ?_ ?_
    · refine zg_aload_n 0 dX1_tellIdle_42 rfl rfl ?_
      refine zq_X1_4 h0 (zk_X1_4 h0).1 zw_55 dX1_tellIdle_43 ?_
      refine zg_bipush (v := 24) dX1_tellIdle_46 (by decide) ?_
      refine zg_iload_n 2 dX1_tellIdle_48 rfl rfl ?_
      refine zg_iadd dX1_tellIdle_49 ?_
      refine zg_dup2 dX1_tellIdle_50 rfl rfl ?_
      refine zg_iald (zk_X1_4 h0).2.1 dX1_tellIdle_51 ?_
      refine zg_iconst (v := 1) dX1_tellIdle_52 (by decide) ?_
      refine zg_iadd dX1_tellIdle_53 ?_
      refine zg_iast (zk_X1_4 h0).2.1 dX1_tellIdle_54 (fun S3 => ?_)
      refine zg_aload_n 0 dX1_tellIdle_55 rfl rfl ?_
      refine zq_X1_4 h0 (zk_X1_4 h0).1 zw_55 dX1_tellIdle_56 ?_
      refine zg_bipush (v := 52) dX1_tellIdle_59 (by decide) ?_
      refine zg_iald (zk_X1_4 h0).2.1 dX1_tellIdle_61 ?_
      refine zg_if_le 97 dX1_tellIdle_62 (by decide) ?_ ?_
      · exact gX1_tellIdle_97 N b0 h0 k7 hk7 S3 l1 l2
      · refine zg_aload_n 0 dX1_tellIdle_65 rfl rfl ?_
        refine zq_X1_4 h0 (zk_X1_4 h0).1 zw_55 dX1_tellIdle_66 ?_
        refine zg_bipush (v := 24) dX1_tellIdle_69 (by decide) ?_
        refine zg_iload_n 2 dX1_tellIdle_71 rfl rfl ?_
        refine zg_iadd dX1_tellIdle_72 ?_
        refine zg_iald (zk_X1_4 h0).2.1 dX1_tellIdle_73 ?_
        refine zg_aload_n 0 dX1_tellIdle_74 rfl rfl ?_
        refine zq_X1_4 h0 (zk_X1_4 h0).1 zw_55 dX1_tellIdle_75 ?_
        refine zg_bipush (v := 52) dX1_tellIdle_78 (by decide) ?_
        refine zg_iald (zk_X1_4 h0).2.1 dX1_tellIdle_80 ?_
        refine zg_icmp_lt 97 dX1_tellIdle_81 (by decide) ?_ ?_
        · exact gX1_tellIdle_97 N b0 h0 k7 hk7 S3 l1 l2
        · refine zg_aload_n 0 dX1_tellIdle_84 rfl rfl ?_
          refine zq_X1_4 h0 (zk_X1_4 h0).1 zw_55 dX1_tellIdle_85 ?_
          refine zg_bipush (v := 49) dX1_tellIdle_88 (by decide) ?_
          refine zg_dup2 dX1_tellIdle_90 rfl rfl ?_
          refine zg_iald (zk_X1_4 h0).2.1 dX1_tellIdle_91 ?_
          refine zg_iconst (v := 1) dX1_tellIdle_92 (by decide) ?_
          refine zg_iload_n 2 dX1_tellIdle_93 rfl rfl ?_
          refine zg_ishl dX1_tellIdle_94 ?_
          refine zg_ior dX1_tellIdle_95 ?_
          refine zg_iast (zk_X1_4 h0).2.1 dX1_tellIdle_96 (fun S4 => ?_)
          exact gX1_tellIdle_97 N b0 h0 k7 hk7 S4 l1 l2
    · refine zg_aload_n 0 dX1_tellIdle_29 rfl rfl ?_
      refine zq_X1_4 h0 (zk_X1_4 h0).1 zw_55 dX1_tellIdle_30 ?_
      refine zg_bipush (v := 24) dX1_tellIdle_33 (by decide) ?_
      refine zg_iload_n 2 dX1_tellIdle_35 rfl rfl ?_
      refine zg_iadd dX1_tellIdle_36 ?_
      refine zg_iconst (v := 0) dX1_tellIdle_37 (by decide) ?_
      refine zg_iast (zk_X1_4 h0).2.1 dX1_tellIdle_38 (fun S5 => ?_)
      refine zg_goto (tgt := 97) dX1_tellIdle_39 (by decide) ?_
      exact gX1_tellIdle_97 N b0 h0 k7 hk7 S5 l1 l2
def fX1_tellIdle_7 (N : Nat) (b0 : Nat) : Nat → zb_S → Int32 → Int32 → Option (Unit × zb_S)
  | 0, _, _, _ => none
  | n + 1, S, l1, l2 => fX1_tellIdle_7b N b0 (fX1_tellIdle_7 N b0 n) S l1 l2
set_option maxHeartbeats 4000000 in
set_option maxRecDepth 100000 in
theorem gX1_tellIdle_7 {l : Launch} {G : zb_G} (N : Nat) (b0 : Nat) (h0 : zb_kd b0 = 1) : ∀ (n : Nat) (S : zb_S) (l1 : Int32) (l2 : Int32), zb_Go zb_eV l G 2 RX1 cX1_tellIdle 3 none 7 [(0, .ref (zb_ad G b0)), (1, .int l1), (2, .int l2)] [] S (fX1_tellIdle_7 N b0 n S l1 l2) := by
  intro n
  induction n with
  | zero => intros; exact zg_none
  | succ n ih =>
    intro S l1 l2
    exact gX1_tellIdle_7b N b0 h0 (fX1_tellIdle_7 N b0 n) ih S l1 l2
def fX1_tellIdle_0 (N : Nat) (b0 : Nat) (S : zb_S) : Option (Unit × zb_S) :=
  zb_bind (fX1_seeing N b0 S) (fun r2 S1 =>
  fX1_tellIdle_7 N b0 N S1 r2 0)
set_option maxHeartbeats 4000000 in
set_option maxRecDepth 100000 in
theorem gX1_tellIdle_0 {l : Launch} {G : zb_G} (N : Nat) (b0 : Nat) (h0 : zb_kd b0 = 1) (S : zb_S) : zb_Go zb_eV l G 2 RX1 cX1_tellIdle 3 none 0 [(0, .ref (zb_ad G b0))] [] S (fX1_tellIdle_0 N b0 S) := by
  unfold fX1_tellIdle_0
  refine zg_aload_n 0 dX1_tellIdle_0 rfl rfl ?_
  refine zg_callVI (As := []) (rest := []) 0 (zcX1_seeing N b0 h0 S) (by decide) (by decide) h0 (by decide) rfl zw_410 zw_238 zw_239 zw_19 zw_240 (by decide +kernel) rfl rfl (Nat.le_of_ble_eq_true rfl) dX1_tellIdle_1 (fun r2 S1 => ?_)
  refine zg_istore_n (lv' := [(1, .int r2), (0, .ref (zb_ad G b0))]) dX1_tellIdle_4 rfl (by decide) rfl ?_
  refine zg_iconst (v := 0) dX1_tellIdle_5 (by decide) ?_
  refine zg_istore_n (lv' := [(2, .int 0), (1, .int r2), (0, .ref (zb_ad G b0))]) dX1_tellIdle_6 rfl (by decide) rfl ?_
  refine zg_sub [2, 1, 0] rfl ?_
  exact gX1_tellIdle_7 N b0 h0 N S1 r2 0
def fX1_tellIdle (N : Nat) (b0 : Nat) (S : zb_S) : Option (Unit × zb_S) := fX1_tellIdle_0 N b0 S
theorem zcX1_tellIdle {l : Launch} {G : zb_G} (N : Nat) (b0 : Nat) (h0 : zb_kd b0 = 1) (S : zb_S) : zb_C zb_eV l G 2 yX1_tellIdle cX1_tellIdle 3 none [.ref (zb_ad G b0)] S (fX1_tellIdle N b0 S) :=
  zb_C.of (by decide +kernel) rfl (Nat.le_of_ble_eq_true rfl) rfl (gX1_tellIdle_0 N b0 h0 S)
-- X1_advanceOnce
def fX1_advanceOnce_0 (N : Nat) (b0 : Nat) (S : zb_S) : Option (Unit × zb_S) :=
  zb_bind (fX1_seeing N b0 S) (fun r2 S1 =>
  if zb_in 49 (zb_sz (b0 + 1)) then
  zb_let (zb_a S1 (b0 + 1) (Int32.toNatClampNeg 49)) (fun x3 : Int32 =>
  if zb_in 48 (zb_sz (b0 + 1)) then
  zb_let ((r2 &&& ((zb_a S1 (b0 + 1) (Int32.toNatClampNeg 48)) ^^^ (-1 : Int32))) &&& (x3 ^^^ (-1 : Int32))) (fun x4 : Int32 =>
  zb_bind (fX1_behindThose N b0 S1 x4) (fun r6 S5 =>
  if zb_in 49 (zb_sz (b0 + 1)) then zb_let (zb_pa S5 (b0 + 1) (Int32.toNatClampNeg 49) ((x3 &&& (r2 ^^^ (-1 : Int32))) &&& (r6 ^^^ (-1 : Int32)))) (fun S7 : zb_S =>
  zb_bind (fX1_giveTickets N b0 S7 x4) (fun _ S8 =>
  zb_bind (fX1_yielding N b0 S8 x4) (fun r11 S10 =>
  zb_bind (fX1_settle N b0 S10 (x4 &&& (r11 ^^^ (-1 : Int32))) ((r2 ^^^ (-1 : Int32)) &&& (x3 ^^^ (-1 : Int32)))) (fun r13 S12 =>
  zb_bind (fX1_moveThose N b0 S12 r13) (fun _ S14 =>
  zb_bind (fX1_tellIdle N b0 S14) (fun _ S16 =>
  if zb_in 56 (zb_sz (b0 + 1)) then
  if zb_in 56 (zb_sz (b0 + 1)) then zb_let (zb_pa S16 (b0 + 1) (Int32.toNatClampNeg 56) ((zb_a S16 (b0 + 1) (Int32.toNatClampNeg 56)) + 1)) (fun S18 : zb_S =>
  some ((), S18)) else none else none)))))) else none)) else none) else none)
set_option maxHeartbeats 4000000 in
set_option maxRecDepth 100000 in
theorem gX1_advanceOnce_0 {l : Launch} {G : zb_G} (N : Nat) (b0 : Nat) (h0 : zb_kd b0 = 1) (S : zb_S) : zb_Go zb_eV l G 3 RX1 cX1_advanceOnce 4 none 0 [(0, .ref (zb_ad G b0))] [] S (fX1_advanceOnce_0 N b0 S) := by
  unfold fX1_advanceOnce_0
  refine zg_aload_n 0 dX1_advanceOnce_0 rfl rfl ?_
  refine zg_callVI (As := []) (rest := []) 0 (zcX1_seeing N b0 h0 S) (by decide) (by decide) h0 (by decide) rfl zw_410 zw_238 zw_239 zw_19 zw_240 (by decide +kernel) rfl rfl (Nat.le_of_ble_eq_true rfl) dX1_advanceOnce_1 (fun r2 S1 => ?_)
  refine zg_istore_n (lv' := [(1, .int r2), (0, .ref (zb_ad G b0))]) dX1_advanceOnce_4 rfl (by decide) rfl ?_
  refine zg_aload_n 1 dX1_advanceOnce_5 rfl rfl ?_
  refine zq_X1_4 h0 (zk_X1_4 h0).1 zw_55 dX1_advanceOnce_6 ?_
  refine zg_bipush (v := 49) dX1_advanceOnce_9 (by decide) ?_
  refine zg_iald (zk_X1_4 h0).2.1 dX1_advanceOnce_11 ?_
  refine zg_istore_nL (fun x3 => [(2, .int x3), (1, .int r2), (0, .ref (zb_ad G b0))]) dX1_advanceOnce_12 rfl (by decide) (fun _ => rfl) (fun x3 => ?_)
  refine zg_iload_n 1 dX1_advanceOnce_13 rfl rfl ?_
  refine zg_aload_n 2 dX1_advanceOnce_14 rfl rfl ?_
  refine zq_X1_4 h0 (zk_X1_4 h0).1 zw_55 dX1_advanceOnce_15 ?_
  refine zg_bipush (v := 48) dX1_advanceOnce_18 (by decide) ?_
  refine zg_iald (zk_X1_4 h0).2.1 dX1_advanceOnce_20 ?_
  refine zg_iconst (v := (-1)) dX1_advanceOnce_21 (by decide) ?_
  refine zg_ixor dX1_advanceOnce_22 ?_
  refine zg_iand dX1_advanceOnce_23 ?_
  refine zg_iload_n 0 dX1_advanceOnce_24 rfl rfl ?_
  refine zg_iconst (v := (-1)) dX1_advanceOnce_25 (by decide) ?_
  refine zg_ixor dX1_advanceOnce_26 ?_
  refine zg_iand dX1_advanceOnce_27 ?_
  refine zg_istore_nL (fun x4 => [(3, .int x4), (2, .int x3), (1, .int r2), (0, .ref (zb_ad G b0))]) dX1_advanceOnce_28 rfl (by decide) (fun _ => rfl) (fun x4 => ?_)
  refine zg_aload_n 3 dX1_advanceOnce_29 rfl rfl ?_
  refine zq_X1_4 h0 (zk_X1_4 h0).1 zw_55 dX1_advanceOnce_30 ?_
  refine zg_bipush (v := 49) dX1_advanceOnce_33 (by decide) ?_
  refine zg_iload_n 1 dX1_advanceOnce_35 rfl rfl ?_
  refine zg_iload_n 2 dX1_advanceOnce_36 rfl rfl ?_
  refine zg_iconst (v := (-1)) dX1_advanceOnce_37 (by decide) ?_
  refine zg_ixor dX1_advanceOnce_38 ?_
  refine zg_iand dX1_advanceOnce_39 ?_
  refine zg_aload_n 3 dX1_advanceOnce_40 rfl rfl ?_
  refine zg_iload_n 0 dX1_advanceOnce_41 rfl rfl ?_
  refine zg_callVI (As := [.int x4]) (rest := [.int (x3 &&& (r2 ^^^ (-1 : Int32))), .int 49, .ref (zb_ad G (b0 + 1))]) 1 (zcX1_behindThose N b0 h0 S1 x4) (by decide) (by decide) h0 (by decide) rfl zw_411 zw_412 zw_413 zw_19 zw_414 (by decide +kernel) rfl rfl (Nat.le_of_ble_eq_true rfl) dX1_advanceOnce_42 (fun r6 S5 => ?_)
  refine zg_iconst (v := (-1)) dX1_advanceOnce_45 (by decide) ?_
  refine zg_ixor dX1_advanceOnce_46 ?_
  refine zg_iand dX1_advanceOnce_47 ?_
  refine zg_iast (zk_X1_4 h0).2.1 dX1_advanceOnce_48 (fun S7 => ?_)
  refine zg_aload_n 3 dX1_advanceOnce_49 rfl rfl ?_
  refine zg_iload_n 0 dX1_advanceOnce_50 rfl rfl ?_
  refine zg_callVV (As := [.int x4]) (rest := []) 1 (zcX1_giveTickets N b0 h0 S7 x4) (by decide) (by decide) h0 (by decide) rfl zw_419 zw_420 zw_421 zw_19 zw_422 (by decide +kernel) rfl rfl (Nat.le_of_ble_eq_true rfl) dX1_advanceOnce_51 (fun S8 => ?_)
  refine zg_aload_n 3 dX1_advanceOnce_54 rfl rfl ?_
  refine zg_aload_n 3 dX1_advanceOnce_55 rfl rfl ?_
  refine zg_iload_n 0 dX1_advanceOnce_56 rfl rfl ?_
  refine zg_aload_n 3 dX1_advanceOnce_57 rfl rfl ?_
  refine zg_iload_n 0 dX1_advanceOnce_58 rfl rfl ?_
  refine zg_callVI (As := [.int x4]) (rest := [.int x4, .ref (zb_ad G b0), .ref (zb_ad G b0)]) 1 (zcX1_yielding N b0 h0 S8 x4) (by decide) (by decide) h0 (by decide) rfl zw_427 zw_428 zw_429 zw_19 zw_430 (by decide +kernel) rfl rfl (Nat.le_of_ble_eq_true rfl) dX1_advanceOnce_59 (fun r11 S10 => ?_)
  refine zg_iconst (v := (-1)) dX1_advanceOnce_62 (by decide) ?_
  refine zg_ixor dX1_advanceOnce_63 ?_
  refine zg_iand dX1_advanceOnce_64 ?_
  refine zg_iload_n 2 dX1_advanceOnce_65 rfl rfl ?_
  refine zg_iconst (v := (-1)) dX1_advanceOnce_66 (by decide) ?_
  refine zg_ixor dX1_advanceOnce_67 ?_
  refine zg_iload_n 1 dX1_advanceOnce_68 rfl rfl ?_
  refine zg_iconst (v := (-1)) dX1_advanceOnce_69 (by decide) ?_
  refine zg_ixor dX1_advanceOnce_70 ?_
  refine zg_iand dX1_advanceOnce_71 ?_
  refine zg_callVI (As := [.int (x4 &&& (r11 ^^^ (-1 : Int32))), .int ((r2 ^^^ (-1 : Int32)) &&& (x3 ^^^ (-1 : Int32)))]) (rest := [.ref (zb_ad G b0)]) 2 (zcX1_settle N b0 h0 S10 (x4 &&& (r11 ^^^ (-1 : Int32))) ((r2 ^^^ (-1 : Int32)) &&& (x3 ^^^ (-1 : Int32)))) (by decide) (by decide) h0 (by decide) rfl zw_431 zw_432 zw_433 zw_19 zw_434 (by decide +kernel) rfl rfl (Nat.le_of_ble_eq_true rfl) dX1_advanceOnce_72 (fun r13 S12 => ?_)
  refine zg_callVV (As := [.int r13]) (rest := []) 1 (zcX1_moveThose N b0 h0 S12 r13) (by decide) (by decide) h0 (by decide) rfl zw_443 zw_444 zw_445 zw_19 zw_446 (by decide +kernel) rfl rfl (Nat.le_of_ble_eq_true rfl) dX1_advanceOnce_75 (fun S14 => ?_)
  refine zg_aload_n 3 dX1_advanceOnce_78 rfl rfl ?_
  refine zg_callVV (As := []) (rest := []) 0 (zcX1_tellIdle N b0 h0 S14) (by decide) (by decide) h0 (by decide) rfl zw_451 zw_452 zw_453 zw_19 zw_454 (by decide +kernel) rfl rfl (Nat.le_of_ble_eq_true rfl) dX1_advanceOnce_79 (fun S16 => ?_)
  refine zg_aload_n 3 dX1_advanceOnce_82 rfl rfl ?_
  refine zq_X1_4 h0 (zk_X1_4 h0).1 zw_55 dX1_advanceOnce_83 ?_
  refine zg_bipush (v := 56) dX1_advanceOnce_86 (by decide) ?_
  refine zg_dup2 dX1_advanceOnce_88 rfl rfl ?_
  refine zg_iald (zk_X1_4 h0).2.1 dX1_advanceOnce_89 ?_
  refine zg_iconst (v := 1) dX1_advanceOnce_90 (by decide) ?_
  refine zg_iadd dX1_advanceOnce_91 ?_
  refine zg_iast (zk_X1_4 h0).2.1 dX1_advanceOnce_92 (fun S18 => ?_)
  exact zg_vret rfl dX1_advanceOnce_93
def fX1_advanceOnce (N : Nat) (b0 : Nat) (S : zb_S) : Option (Unit × zb_S) := fX1_advanceOnce_0 N b0 S
theorem zcX1_advanceOnce {l : Launch} {G : zb_G} (N : Nat) (b0 : Nat) (h0 : zb_kd b0 = 1) (S : zb_S) : zb_C zb_eV l G 3 yX1_advanceOnce cX1_advanceOnce 4 none [.ref (zb_ad G b0)] S (fX1_advanceOnce N b0 S) :=
  zb_C.of (by decide +kernel) rfl (Nat.le_of_ble_eq_true rfl) rfl (gX1_advanceOnce_0 N b0 h0 S)
-- X1_advance
def fX1_advance_2b (N : Nat) (b0 : Nat) (k2 : zb_S → Int32 → Int32 → Option (Unit × zb_S)) (S : zb_S) (l1 : Int32) (l2 : Int32) : Option (Unit × zb_S) :=
  if l1 ≤ l2 then
    some ((), S)
  else
    if 99 ≤ l2 then
      some ((), S)
    else
      zb_bind (fX1_advanceOnce N b0 S) (fun _ S1 =>
      zb_let (l2 + 1) (fun x3 : Int32 =>
      k2 S1 l1 x3))
set_option maxHeartbeats 4000000 in
set_option maxRecDepth 100000 in
theorem gX1_advance_2b {l : Launch} {G : zb_G} (N : Nat) (b0 : Nat) (h0 : zb_kd b0 = 1) (k2 : zb_S → Int32 → Int32 → Option (Unit × zb_S)) (hk2 : ∀ (S : zb_S) (l1 : Int32) (l2 : Int32), zb_Go zb_eV l G 4 RX1 cX1_advance 3 none 2 [(0, .ref (zb_ad G b0)), (1, .int l1), (2, .int l2)] [] S (k2 S l1 l2)) (S : zb_S) (l1 : Int32) (l2 : Int32) : zb_Go zb_eV l G 4 RX1 cX1_advance 3 none 2 [(0, .ref (zb_ad G b0)), (1, .int l1), (2, .int l2)] [] S (fX1_advance_2b N b0 k2 S l1 l2) := by
  unfold fX1_advance_2b
  refine zg_iload_n 2 dX1_advance_2 rfl rfl ?_
  refine zg_iload_n 1 dX1_advance_3 rfl rfl ?_
  refine zg_icmp_ge 23 dX1_advance_4 (by decide) ?_ ?_
  · exact zg_vret rfl dX1_advance_23
  · refine zg_iload_n 2 dX1_advance_7 rfl rfl ?_
    refine zg_bipush (v := 99) dX1_advance_8 (by decide) ?_
    refine zg_icmp_ge 23 dX1_advance_10 (by decide) ?_ ?_
    · exact zg_vret rfl dX1_advance_23
    · refine zg_aload_n 0 dX1_advance_13 rfl rfl ?_
      refine zg_callVV (As := []) (rest := []) 0 (zcX1_advanceOnce N b0 h0 S) (by decide) (by decide) h0 (by decide) rfl zw_406 zw_407 zw_408 zw_19 zw_409 (by decide +kernel) rfl rfl (Nat.le_of_ble_eq_true rfl) dX1_advance_14 (fun S1 => ?_)
      refine zg_iincL (fun x3 => [(2, .int x3), (0, .ref (zb_ad G b0)), (1, .int l1)]) 2 dX1_advance_17 rfl rfl (by decide) (fun _ => rfl) (fun x3 => ?_)
      refine zg_goto (tgt := 2) dX1_advance_20 (by decide) ?_
      refine zg_sub [1, 2, 0] rfl ?_
      exact hk2 S1 l1 x3
def fX1_advance_2 (N : Nat) (b0 : Nat) : Nat → zb_S → Int32 → Int32 → Option (Unit × zb_S)
  | 0, _, _, _ => none
  | n + 1, S, l1, l2 => fX1_advance_2b N b0 (fX1_advance_2 N b0 n) S l1 l2
set_option maxHeartbeats 4000000 in
set_option maxRecDepth 100000 in
theorem gX1_advance_2 {l : Launch} {G : zb_G} (N : Nat) (b0 : Nat) (h0 : zb_kd b0 = 1) : ∀ (n : Nat) (S : zb_S) (l1 : Int32) (l2 : Int32), zb_Go zb_eV l G 4 RX1 cX1_advance 3 none 2 [(0, .ref (zb_ad G b0)), (1, .int l1), (2, .int l2)] [] S (fX1_advance_2 N b0 n S l1 l2) := by
  intro n
  induction n with
  | zero => intros; exact zg_none
  | succ n ih =>
    intro S l1 l2
    exact gX1_advance_2b N b0 h0 (fX1_advance_2 N b0 n) ih S l1 l2
def fX1_advance_0 (N : Nat) (b0 : Nat) (S : zb_S) (a1 : Int32) : Option (Unit × zb_S) :=
  fX1_advance_2 N b0 N S a1 0
set_option maxHeartbeats 4000000 in
set_option maxRecDepth 100000 in
theorem gX1_advance_0 {l : Launch} {G : zb_G} (N : Nat) (b0 : Nat) (h0 : zb_kd b0 = 1) (S : zb_S) (a1 : Int32) : zb_Go zb_eV l G 4 RX1 cX1_advance 3 none 0 [(0, .ref (zb_ad G b0)), (1, .int a1)] [] S (fX1_advance_0 N b0 S a1) := by
  unfold fX1_advance_0
  refine zg_iconst (v := 0) dX1_advance_0 (by decide) ?_
  refine zg_istore_n (lv' := [(2, .int 0), (0, .ref (zb_ad G b0)), (1, .int a1)]) dX1_advance_1 rfl (by decide) rfl ?_
  refine zg_sub [1, 2, 0] rfl ?_
  exact gX1_advance_2 N b0 h0 N S a1 0
def fX1_advance (N : Nat) (b0 : Nat) (S : zb_S) (a1 : Int32) : Option (Unit × zb_S) := fX1_advance_0 N b0 S a1
theorem zcX1_advance {l : Launch} {G : zb_G} (N : Nat) (b0 : Nat) (h0 : zb_kd b0 = 1) (S : zb_S) (a1 : Int32) : zb_C zb_eV l G 4 yX1_advance cX1_advance 3 none [.ref (zb_ad G b0), .int a1] S (fX1_advance N b0 S a1) :=
  zb_C.of (by decide +kernel) rfl (Nat.le_of_ble_eq_true rfl) rfl (gX1_advance_0 N b0 h0 S a1)
-- J6_bitCount_0f7a4
def fJ6_bitCount_0f7a4_0 (N : Nat) (S : zb_S) (a0 : Int32) : Option (Int32 × zb_S) :=
  zb_let (a0 - (((Int32.toUInt32 a0 >>> (Int32.toUInt32 1 &&& Int32.toUInt32 31)).toInt32) &&& (1431655765 : Int32))) (fun x1 : Int32 =>
  zb_let ((x1 &&& (858993459 : Int32)) + (((Int32.toUInt32 x1 >>> (Int32.toUInt32 2 &&& Int32.toUInt32 31)).toInt32) &&& (858993459 : Int32))) (fun x2 : Int32 =>
  zb_let ((x2 + ((Int32.toUInt32 x2 >>> (Int32.toUInt32 4 &&& Int32.toUInt32 31)).toInt32)) &&& (252645135 : Int32)) (fun x3 : Int32 =>
  zb_let (x3 + ((Int32.toUInt32 x3 >>> (Int32.toUInt32 8 &&& Int32.toUInt32 31)).toInt32)) (fun x4 : Int32 =>
  zb_let (x4 + ((Int32.toUInt32 x4 >>> (Int32.toUInt32 16 &&& Int32.toUInt32 31)).toInt32)) (fun x5 : Int32 =>
  some (x5 &&& (63 : Int32), S))))))
set_option maxHeartbeats 4000000 in
set_option maxRecDepth 100000 in
theorem gJ6_bitCount_0f7a4_0 {l : Launch} {G : zb_G} (N : Nat) (S : zb_S) (a0 : Int32) : zb_Go zb_eI l G 0 RJ6 cJ6_bitCount_0f7a4 1 (some .int) 0 [(0, .int a0)] [] S (fJ6_bitCount_0f7a4_0 N S a0) := by
  unfold fJ6_bitCount_0f7a4_0
  refine zg_iload_n 0 dJ6_bitCount_0f7a4_0 rfl rfl ?_
  refine zg_iload_n 0 dJ6_bitCount_0f7a4_1 rfl rfl ?_
  refine zg_iconst (v := 1) dJ6_bitCount_0f7a4_2 (by decide) ?_
  refine zg_iushr dJ6_bitCount_0f7a4_3 ?_
  refine zg_ldcw zw_384 dJ6_bitCount_0f7a4_4 ?_
  refine zg_iand dJ6_bitCount_0f7a4_7 ?_
  refine zg_isub dJ6_bitCount_0f7a4_8 ?_
  refine zg_istore_nL (fun x1 => [(0, .int x1)]) dJ6_bitCount_0f7a4_9 rfl (by decide) (fun _ => rfl) (fun x1 => ?_)
  refine zg_iload_n 0 dJ6_bitCount_0f7a4_10 rfl rfl ?_
  refine zg_ldcw zw_385 dJ6_bitCount_0f7a4_11 ?_
  refine zg_iand dJ6_bitCount_0f7a4_14 ?_
  refine zg_iload_n 0 dJ6_bitCount_0f7a4_15 rfl rfl ?_
  refine zg_iconst (v := 2) dJ6_bitCount_0f7a4_16 (by decide) ?_
  refine zg_iushr dJ6_bitCount_0f7a4_17 ?_
  refine zg_ldcw zw_385 dJ6_bitCount_0f7a4_18 ?_
  refine zg_iand dJ6_bitCount_0f7a4_21 ?_
  refine zg_iadd dJ6_bitCount_0f7a4_22 ?_
  refine zg_istore_nL (fun x2 => [(0, .int x2)]) dJ6_bitCount_0f7a4_23 rfl (by decide) (fun _ => rfl) (fun x2 => ?_)
  refine zg_iload_n 0 dJ6_bitCount_0f7a4_24 rfl rfl ?_
  refine zg_iload_n 0 dJ6_bitCount_0f7a4_25 rfl rfl ?_
  refine zg_iconst (v := 4) dJ6_bitCount_0f7a4_26 (by decide) ?_
  refine zg_iushr dJ6_bitCount_0f7a4_27 ?_
  refine zg_iadd dJ6_bitCount_0f7a4_28 ?_
  refine zg_ldcw zw_386 dJ6_bitCount_0f7a4_29 ?_
  refine zg_iand dJ6_bitCount_0f7a4_32 ?_
  refine zg_istore_nL (fun x3 => [(0, .int x3)]) dJ6_bitCount_0f7a4_33 rfl (by decide) (fun _ => rfl) (fun x3 => ?_)
  refine zg_iload_n 0 dJ6_bitCount_0f7a4_34 rfl rfl ?_
  refine zg_iload_n 0 dJ6_bitCount_0f7a4_35 rfl rfl ?_
  refine zg_bipush (v := 8) dJ6_bitCount_0f7a4_36 (by decide) ?_
  refine zg_iushr dJ6_bitCount_0f7a4_38 ?_
  refine zg_iadd dJ6_bitCount_0f7a4_39 ?_
  refine zg_istore_nL (fun x4 => [(0, .int x4)]) dJ6_bitCount_0f7a4_40 rfl (by decide) (fun _ => rfl) (fun x4 => ?_)
  refine zg_iload_n 0 dJ6_bitCount_0f7a4_41 rfl rfl ?_
  refine zg_iload_n 0 dJ6_bitCount_0f7a4_42 rfl rfl ?_
  refine zg_bipush (v := 16) dJ6_bitCount_0f7a4_43 (by decide) ?_
  refine zg_iushr dJ6_bitCount_0f7a4_45 ?_
  refine zg_iadd dJ6_bitCount_0f7a4_46 ?_
  refine zg_istore_nL (fun x5 => [(0, .int x5)]) dJ6_bitCount_0f7a4_47 rfl (by decide) (fun _ => rfl) (fun x5 => ?_)
  refine zg_iload_n 0 dJ6_bitCount_0f7a4_48 rfl rfl ?_
  refine zg_bipush (v := 63) dJ6_bitCount_0f7a4_49 (by decide) ?_
  refine zg_iand dJ6_bitCount_0f7a4_51 ?_
  exact zg_iret rfl dJ6_bitCount_0f7a4_52
def fJ6_bitCount_0f7a4 (N : Nat) (S : zb_S) (a0 : Int32) : Option (Int32 × zb_S) := fJ6_bitCount_0f7a4_0 N S a0
theorem zcJ6_bitCount_0f7a4 {l : Launch} {G : zb_G} (N : Nat) (S : zb_S) (a0 : Int32) : zb_C zb_eI l G 0 yJ6_bitCount_0f7a4 cJ6_bitCount_0f7a4 1 (some .int) [.int a0] S (fJ6_bitCount_0f7a4 N S a0) :=
  zb_C.of (by decide +kernel) rfl (Nat.le_of_ble_eq_true rfl) rfl (gJ6_bitCount_0f7a4_0 N S a0)
