-- X6_in
def fX6_in_0 (N : Nat) (S : zb_S) (a0 : Int64) (a2 : Int64) (a4 : Int64) : Option (Int32 × zb_S) :=
  if (lg_cmp a0 a2) < 0 then
    if (0 : Int32) = 0 ∨ (0 : Int32) = 1 then some (0, S) else none
  else
    if 0 < (lg_cmp a0 a4) then
      if (0 : Int32) = 0 ∨ (0 : Int32) = 1 then some (0, S) else none
    else
      if (1 : Int32) = 0 ∨ (1 : Int32) = 1 then some (1, S) else none
set_option maxHeartbeats 4000000 in
set_option maxRecDepth 100000 in
theorem gX6_in_0 {l : Launch} {G : zb_G} (N : Nat) (S : zb_S) (a0 : Int64) (a2 : Int64) (a4 : Int64) : zb_Go zb_eI l G 0 RX6 cX6_in 6 (some .boolean) 0 [(0, .long a0), (2, .long a2), (4, .long a4)] [] S (fX6_in_0 N S a0 a2 a4) := by
  unfold fX6_in_0
  refine zg_lload_n 0 dX6_in_0 rfl rfl ?_
  refine zg_lload_n 1 dX6_in_1 rfl rfl ?_
  refine zg_lcmp dX6_in_2 ?_
  refine zg_if_lt 17 dX6_in_3 (by decide) ?_ ?_
  · refine zg_iconst (v := 0) dX6_in_17 (by decide) ?_
    exact zg_zret rfl dX6_in_18
  · refine zg_lload_n 0 dX6_in_6 rfl rfl ?_
    refine zg_lload 2 dX6_in_7 rfl ?_
    refine zg_lcmp dX6_in_9 ?_
    refine zg_if_gt 17 dX6_in_10 (by decide) ?_ ?_
    · refine zg_iconst (v := 0) dX6_in_17 (by decide) ?_
      exact zg_zret rfl dX6_in_18
    · refine zg_iconst (v := 1) dX6_in_13 (by decide) ?_
      refine zg_goto (tgt := 18) dX6_in_14 (by decide) ?_
      exact zg_zret rfl dX6_in_18
def fX6_in (N : Nat) (S : zb_S) (a0 : Int64) (a2 : Int64) (a4 : Int64) : Option (Int32 × zb_S) := fX6_in_0 N S a0 a2 a4
theorem zcX6_in {l : Launch} {G : zb_G} (N : Nat) (S : zb_S) (a0 : Int64) (a2 : Int64) (a4 : Int64) : zb_C zb_eI l G 0 yX6_in cX6_in 6 (some .boolean) [.long a0, .long a2, .long a4] S (fX6_in N S a0 a2 a4) :=
  zb_C.of (by decide +kernel) rfl (Nat.le_of_ble_eq_true rfl) rfl (gX6_in_0 N S a0 a2 a4)
-- X6_has
def fX6_has_0 (N : Nat) (S : zb_S) (a0 : Int32) (a1 : Int32) : Option (Int32 × zb_S) :=
  if ((a0 >>> (a1 &&& 31)) &&& (1 : Int32)) = 1 then
    if (1 : Int32) = 0 ∨ (1 : Int32) = 1 then some (1, S) else none
  else
    if (0 : Int32) = 0 ∨ (0 : Int32) = 1 then some (0, S) else none
set_option maxHeartbeats 4000000 in
set_option maxRecDepth 100000 in
theorem gX6_has_0 {l : Launch} {G : zb_G} (N : Nat) (S : zb_S) (a0 : Int32) (a1 : Int32) : zb_Go zb_eI l G 0 RX6 cX6_has 2 (some .boolean) 0 [(0, .int a0), (1, .int a1)] [] S (fX6_has_0 N S a0 a1) := by
  unfold fX6_has_0
  refine zg_iload_n 0 dX6_has_0 rfl rfl ?_
  refine zg_iload_n 1 dX6_has_1 rfl rfl ?_
  refine zg_ishr dX6_has_2 ?_
  refine zg_iconst (v := 1) dX6_has_3 (by decide) ?_
  refine zg_iand dX6_has_4 ?_
  refine zg_iconst (v := 1) dX6_has_5 (by decide) ?_
  refine zg_icmp_ne 13 dX6_has_6 (by decide) ?_ ?_
  · refine zg_iconst (v := 0) dX6_has_13 (by decide) ?_
    exact zg_zret rfl dX6_has_14
  · refine zg_iconst (v := 1) dX6_has_9 (by decide) ?_
    refine zg_goto (tgt := 14) dX6_has_10 (by decide) ?_
    exact zg_zret rfl dX6_has_14
def fX6_has (N : Nat) (S : zb_S) (a0 : Int32) (a1 : Int32) : Option (Int32 × zb_S) := fX6_has_0 N S a0 a1
theorem zcX6_has {l : Launch} {G : zb_G} (N : Nat) (S : zb_S) (a0 : Int32) (a1 : Int32) : zb_C zb_eI l G 0 yX6_has cX6_has 2 (some .boolean) [.int a0, .int a1] S (fX6_has N S a0 a1) :=
  zb_C.of (by decide +kernel) rfl (Nat.le_of_ble_eq_true rfl) rfl (gX6_has_0 N S a0 a1)
-- X6_ones
def fX6_ones_4b (N : Nat) (k4 : zb_S → Int32 → Int32 → Int32 → Option (Int32 × zb_S)) (S : zb_S) (l0 : Int32) (l1 : Int32) (l2 : Int32) : Option (Int32 × zb_S) :=
  if 12 ≤ l2 then
    some (l1, S)
  else
    zb_let (l1 + ((l0 >>> (l2 &&& 31)) &&& (1 : Int32))) (fun x1 : Int32 =>
    zb_let (l2 + 1) (fun x2 : Int32 =>
    k4 S l0 x1 x2))
set_option maxHeartbeats 4000000 in
set_option maxRecDepth 100000 in
theorem gX6_ones_4b {l : Launch} {G : zb_G} (N : Nat) (k4 : zb_S → Int32 → Int32 → Int32 → Option (Int32 × zb_S)) (hk4 : ∀ (S : zb_S) (l0 : Int32) (l1 : Int32) (l2 : Int32), zb_Go zb_eI l G 0 RX6 cX6_ones 3 (some .int) 4 [(0, .int l0), (1, .int l1), (2, .int l2)] [] S (k4 S l0 l1 l2)) (S : zb_S) (l0 : Int32) (l1 : Int32) (l2 : Int32) : zb_Go zb_eI l G 0 RX6 cX6_ones 3 (some .int) 4 [(0, .int l0), (1, .int l1), (2, .int l2)] [] S (fX6_ones_4b N k4 S l0 l1 l2) := by
  unfold fX6_ones_4b
  refine zg_iload_n 2 dX6_ones_4 rfl rfl ?_
  refine zg_bipush (v := 12) dX6_ones_5 (by decide) ?_
  refine zg_icmp_ge 24 dX6_ones_7 (by decide) ?_ ?_
  · refine zg_iload_n 1 dX6_ones_24 rfl rfl ?_
    exact zg_iret rfl dX6_ones_25
  · refine zg_iload_n 1 dX6_ones_10 rfl rfl ?_
    refine zg_iload_n 0 dX6_ones_11 rfl rfl ?_
    refine zg_iload_n 2 dX6_ones_12 rfl rfl ?_
    refine zg_ishr dX6_ones_13 ?_
    refine zg_iconst (v := 1) dX6_ones_14 (by decide) ?_
    refine zg_iand dX6_ones_15 ?_
    refine zg_iadd dX6_ones_16 ?_
    refine zg_istore_nL (fun x1 => [(1, .int x1), (0, .int l0), (2, .int l2)]) dX6_ones_17 rfl (by decide) (fun _ => rfl) (fun x1 => ?_)
    refine zg_iincL (fun x2 => [(2, .int x2), (1, .int x1), (0, .int l0)]) 2 dX6_ones_18 rfl rfl (by decide) (fun _ => rfl) (fun x2 => ?_)
    refine zg_goto (tgt := 4) dX6_ones_21 (by decide) ?_
    refine zg_sub [2, 1, 0] rfl ?_
    exact hk4 S l0 x1 x2
def fX6_ones_4 (N : Nat) : Nat → zb_S → Int32 → Int32 → Int32 → Option (Int32 × zb_S)
  | 0, _, _, _, _ => none
  | n + 1, S, l0, l1, l2 => fX6_ones_4b N (fX6_ones_4 N n) S l0 l1 l2
set_option maxHeartbeats 4000000 in
set_option maxRecDepth 100000 in
theorem gX6_ones_4 {l : Launch} {G : zb_G} (N : Nat) : ∀ (n : Nat) (S : zb_S) (l0 : Int32) (l1 : Int32) (l2 : Int32), zb_Go zb_eI l G 0 RX6 cX6_ones 3 (some .int) 4 [(0, .int l0), (1, .int l1), (2, .int l2)] [] S (fX6_ones_4 N n S l0 l1 l2) := by
  intro n
  induction n with
  | zero => intros; exact zg_none
  | succ n ih =>
    intro S l0 l1 l2
    exact gX6_ones_4b N (fX6_ones_4 N n) ih S l0 l1 l2
def fX6_ones_0 (N : Nat) (S : zb_S) (a0 : Int32) : Option (Int32 × zb_S) :=
  fX6_ones_4 N N S a0 0 0
set_option maxHeartbeats 4000000 in
set_option maxRecDepth 100000 in
theorem gX6_ones_0 {l : Launch} {G : zb_G} (N : Nat) (S : zb_S) (a0 : Int32) : zb_Go zb_eI l G 0 RX6 cX6_ones 3 (some .int) 0 [(0, .int a0)] [] S (fX6_ones_0 N S a0) := by
  unfold fX6_ones_0
  refine zg_iconst (v := 0) dX6_ones_0 (by decide) ?_
  refine zg_istore_n (lv' := [(1, .int 0), (0, .int a0)]) dX6_ones_1 rfl (by decide) rfl ?_
  refine zg_iconst (v := 0) dX6_ones_2 (by decide) ?_
  refine zg_istore_n (lv' := [(2, .int 0), (1, .int 0), (0, .int a0)]) dX6_ones_3 rfl (by decide) rfl ?_
  refine zg_sub [2, 1, 0] rfl ?_
  exact gX6_ones_4 N N S a0 0 0
def fX6_ones (N : Nat) (S : zb_S) (a0 : Int32) : Option (Int32 × zb_S) := fX6_ones_0 N S a0
theorem zcX6_ones {l : Launch} {G : zb_G} (N : Nat) (S : zb_S) (a0 : Int32) : zb_C zb_eI l G 0 yX6_ones cX6_ones 3 (some .int) [.int a0] S (fX6_ones N S a0) :=
  zb_C.of (by decide +kernel) rfl (Nat.le_of_ble_eq_true rfl) rfl (gX6_ones_0 N S a0)
-- X6_power
def fX6_power_4b (N : Nat) (k4 : zb_S → Int32 → Int32 → Int32 → Int32 → Option (Int32 × zb_S)) (S : zb_S) (l0 : Int32) (l1 : Int32) (l2 : Int32) (l3 : Int32) : Option (Int32 × zb_S) :=
  if l1 ≤ l3 then
    some (l2, S)
  else
    zb_let (l2 * l0) (fun x1 : Int32 =>
    zb_let (l3 + 1) (fun x2 : Int32 =>
    k4 S l0 l1 x1 x2))
set_option maxHeartbeats 4000000 in
set_option maxRecDepth 100000 in
theorem gX6_power_4b {l : Launch} {G : zb_G} (N : Nat) (k4 : zb_S → Int32 → Int32 → Int32 → Int32 → Option (Int32 × zb_S)) (hk4 : ∀ (S : zb_S) (l0 : Int32) (l1 : Int32) (l2 : Int32) (l3 : Int32), zb_Go zb_eI l G 0 RX6 cX6_power 4 (some .int) 4 [(0, .int l0), (1, .int l1), (2, .int l2), (3, .int l3)] [] S (k4 S l0 l1 l2 l3)) (S : zb_S) (l0 : Int32) (l1 : Int32) (l2 : Int32) (l3 : Int32) : zb_Go zb_eI l G 0 RX6 cX6_power 4 (some .int) 4 [(0, .int l0), (1, .int l1), (2, .int l2), (3, .int l3)] [] S (fX6_power_4b N k4 S l0 l1 l2 l3) := by
  unfold fX6_power_4b
  refine zg_iload_n 3 dX6_power_4 rfl rfl ?_
  refine zg_iload_n 1 dX6_power_5 rfl rfl ?_
  refine zg_icmp_ge 19 dX6_power_6 (by decide) ?_ ?_
  · refine zg_iload_n 2 dX6_power_19 rfl rfl ?_
    exact zg_iret rfl dX6_power_20
  · refine zg_iload_n 2 dX6_power_9 rfl rfl ?_
    refine zg_iload_n 0 dX6_power_10 rfl rfl ?_
    refine zg_imul dX6_power_11 ?_
    refine zg_istore_nL (fun x1 => [(2, .int x1), (0, .int l0), (1, .int l1), (3, .int l3)]) dX6_power_12 rfl (by decide) (fun _ => rfl) (fun x1 => ?_)
    refine zg_iincL (fun x2 => [(3, .int x2), (2, .int x1), (0, .int l0), (1, .int l1)]) 3 dX6_power_13 rfl rfl (by decide) (fun _ => rfl) (fun x2 => ?_)
    refine zg_goto (tgt := 4) dX6_power_16 (by decide) ?_
    refine zg_sub [2, 3, 1, 0] rfl ?_
    exact hk4 S l0 l1 x1 x2
def fX6_power_4 (N : Nat) : Nat → zb_S → Int32 → Int32 → Int32 → Int32 → Option (Int32 × zb_S)
  | 0, _, _, _, _, _ => none
  | n + 1, S, l0, l1, l2, l3 => fX6_power_4b N (fX6_power_4 N n) S l0 l1 l2 l3
set_option maxHeartbeats 4000000 in
set_option maxRecDepth 100000 in
theorem gX6_power_4 {l : Launch} {G : zb_G} (N : Nat) : ∀ (n : Nat) (S : zb_S) (l0 : Int32) (l1 : Int32) (l2 : Int32) (l3 : Int32), zb_Go zb_eI l G 0 RX6 cX6_power 4 (some .int) 4 [(0, .int l0), (1, .int l1), (2, .int l2), (3, .int l3)] [] S (fX6_power_4 N n S l0 l1 l2 l3) := by
  intro n
  induction n with
  | zero => intros; exact zg_none
  | succ n ih =>
    intro S l0 l1 l2 l3
    exact gX6_power_4b N (fX6_power_4 N n) ih S l0 l1 l2 l3
def fX6_power_0 (N : Nat) (S : zb_S) (a0 : Int32) (a1 : Int32) : Option (Int32 × zb_S) :=
  fX6_power_4 N N S a0 a1 1 0
set_option maxHeartbeats 4000000 in
set_option maxRecDepth 100000 in
theorem gX6_power_0 {l : Launch} {G : zb_G} (N : Nat) (S : zb_S) (a0 : Int32) (a1 : Int32) : zb_Go zb_eI l G 0 RX6 cX6_power 4 (some .int) 0 [(0, .int a0), (1, .int a1)] [] S (fX6_power_0 N S a0 a1) := by
  unfold fX6_power_0
  refine zg_iconst (v := 1) dX6_power_0 (by decide) ?_
  refine zg_istore_n (lv' := [(2, .int 1), (0, .int a0), (1, .int a1)]) dX6_power_1 rfl (by decide) rfl ?_
  refine zg_iconst (v := 0) dX6_power_2 (by decide) ?_
  refine zg_istore_n (lv' := [(3, .int 0), (2, .int 1), (0, .int a0), (1, .int a1)]) dX6_power_3 rfl (by decide) rfl ?_
  refine zg_sub [2, 3, 1, 0] rfl ?_
  exact gX6_power_4 N N S a0 a1 1 0
def fX6_power (N : Nat) (S : zb_S) (a0 : Int32) (a1 : Int32) : Option (Int32 × zb_S) := fX6_power_0 N S a0 a1
theorem zcX6_power {l : Launch} {G : zb_G} (N : Nat) (S : zb_S) (a0 : Int32) (a1 : Int32) : zb_C zb_eI l G 0 yX6_power cX6_power 4 (some .int) [.int a0, .int a1] S (fX6_power N S a0 a1) :=
  zb_C.of (by decide +kernel) rfl (Nat.le_of_ble_eq_true rfl) rfl (gX6_power_0 N S a0 a1)
-- X6_layTrial
def fX6_layTrial_2b (N : Nat) (k2 : zb_S → Int32 → Option (Unit × zb_S)) (S : zb_S) (l1 : Int32) : Option (Unit × zb_S) :=
  if 79 ≤ l1 then
    some ((), S)
  else
    if zb_in l1 (zb_sz 24) then
    if zb_in l1 (zb_sz 25) then zb_let (zb_pa S 25 (Int32.toNatClampNeg l1) (zb_a S 24 (Int32.toNatClampNeg l1))) (fun S1 : zb_S =>
    zb_let (l1 + 1) (fun x2 : Int32 =>
    k2 S1 x2)) else none else none
set_option maxHeartbeats 4000000 in
set_option maxRecDepth 100000 in
theorem gX6_layTrial_2b {l : Launch} {G : zb_G} (N : Nat) (k2 : zb_S → Int32 → Option (Unit × zb_S)) (hk2 : ∀ (S : zb_S) (l1 : Int32), zb_Go zb_eV l G 0 RX6 cX6_layTrial 2 none 2 [(0, .ref (zb_ad G 21)), (1, .int l1)] [] S (k2 S l1)) (S : zb_S) (l1 : Int32) : zb_Go zb_eV l G 0 RX6 cX6_layTrial 2 none 2 [(0, .ref (zb_ad G 21)), (1, .int l1)] [] S (fX6_layTrial_2b N k2 S l1) := by
  unfold fX6_layTrial_2b
  refine zg_iload_n 1 dX6_layTrial_2 rfl rfl ?_
  refine zg_bipush (v := 79) dX6_layTrial_3 (by decide) ?_
  refine zg_icmp_ge 26 dX6_layTrial_5 (by decide) ?_ ?_
  · exact zg_vret rfl dX6_layTrial_26
  · refine zg_aload_n 0 dX6_layTrial_8 rfl rfl ?_
    refine zq_X6_12 rfl rfl zw_93 dX6_layTrial_9 ?_
    refine zg_iload_n 1 dX6_layTrial_12 rfl rfl ?_
    refine zg_aload_n 0 dX6_layTrial_13 rfl rfl ?_
    refine zq_X6_11 rfl rfl zw_92 dX6_layTrial_14 ?_
    refine zg_iload_n 1 dX6_layTrial_17 rfl rfl ?_
    refine zg_iald rfl dX6_layTrial_18 ?_
    refine zg_iast rfl dX6_layTrial_19 (fun S1 => ?_)
    refine zg_iincL (fun x2 => [(1, .int x2), (0, .ref (zb_ad G 21))]) 1 dX6_layTrial_20 rfl rfl (by decide) (fun _ => rfl) (fun x2 => ?_)
    refine zg_goto (tgt := 2) dX6_layTrial_23 (by decide) ?_
    refine zg_sub [1, 0] rfl ?_
    exact hk2 S1 x2
def fX6_layTrial_2 (N : Nat) : Nat → zb_S → Int32 → Option (Unit × zb_S)
  | 0, _, _ => none
  | n + 1, S, l1 => fX6_layTrial_2b N (fX6_layTrial_2 N n) S l1
set_option maxHeartbeats 4000000 in
set_option maxRecDepth 100000 in
theorem gX6_layTrial_2 {l : Launch} {G : zb_G} (N : Nat) : ∀ (n : Nat) (S : zb_S) (l1 : Int32), zb_Go zb_eV l G 0 RX6 cX6_layTrial 2 none 2 [(0, .ref (zb_ad G 21)), (1, .int l1)] [] S (fX6_layTrial_2 N n S l1) := by
  intro n
  induction n with
  | zero => intros; exact zg_none
  | succ n ih =>
    intro S l1
    exact gX6_layTrial_2b N (fX6_layTrial_2 N n) ih S l1
def fX6_layTrial_0 (N : Nat) (S : zb_S) : Option (Unit × zb_S) :=
  fX6_layTrial_2 N N S 0
set_option maxHeartbeats 4000000 in
set_option maxRecDepth 100000 in
theorem gX6_layTrial_0 {l : Launch} {G : zb_G} (N : Nat) (S : zb_S) : zb_Go zb_eV l G 0 RX6 cX6_layTrial 2 none 0 [(0, .ref (zb_ad G 21))] [] S (fX6_layTrial_0 N S) := by
  unfold fX6_layTrial_0
  refine zg_iconst (v := 0) dX6_layTrial_0 (by decide) ?_
  refine zg_istore_n (lv' := [(1, .int 0), (0, .ref (zb_ad G 21))]) dX6_layTrial_1 rfl (by decide) rfl ?_
  refine zg_sub [1, 0] rfl ?_
  exact gX6_layTrial_2 N N S 0
def fX6_layTrial (N : Nat) (S : zb_S) : Option (Unit × zb_S) := fX6_layTrial_0 N S
theorem zcX6_layTrial {l : Launch} {G : zb_G} (N : Nat) (S : zb_S) : zb_C zb_eV l G 0 yX6_layTrial cX6_layTrial 2 none [.ref (zb_ad G 21)] S (fX6_layTrial N S) :=
  zb_C.of (by decide +kernel) rfl (Nat.le_of_ble_eq_true rfl) rfl (gX6_layTrial_0 N S)
-- X6_zones
def fX6_zones_0 (N : Nat) (S : zb_S) : Option (Int32 × zb_S) :=
  some ((zb_i S 21 4) + (zb_i S 21 5), S)
set_option maxHeartbeats 4000000 in
set_option maxRecDepth 100000 in
theorem gX6_zones_0 {l : Launch} {G : zb_G} (N : Nat) (S : zb_S) : zb_Go zb_eI l G 0 RX6 cX6_zones 1 (some .int) 0 [(0, .ref (zb_ad G 21))] [] S (fX6_zones_0 N S) := by
  unfold fX6_zones_0
  refine zg_aload_n 0 dX6_zones_0 rfl rfl ?_
  refine zq_X6_4 rfl zw_89 dX6_zones_1 ?_
  refine zg_aload_n 0 dX6_zones_4 rfl rfl ?_
  refine zq_X6_5 rfl zw_218 dX6_zones_5 ?_
  refine zg_iadd dX6_zones_8 ?_
  exact zg_iret rfl dX6_zones_9
def fX6_zones (N : Nat) (S : zb_S) : Option (Int32 × zb_S) := fX6_zones_0 N S
theorem zcX6_zones {l : Launch} {G : zb_G} (N : Nat) (S : zb_S) : zb_C zb_eI l G 0 yX6_zones cX6_zones 1 (some .int) [.ref (zb_ad G 21)] S (fX6_zones N S) :=
  zb_C.of (by decide +kernel) rfl (Nat.le_of_ble_eq_true rfl) rfl (gX6_zones_0 N S)
-- X6_noZone
def fX6_noZone_0 (N : Nat) (S : zb_S) (a1 : Int32) : Option (Int32 × zb_S) :=
  zb_bind (fX6_zones N S) (fun r2 S1 =>
  zb_bind (fX6_in N S1 (Int32.toInt64 a1) 0 (Int32.toInt64 (r2 - 1))) (fun r4 S3 =>
  if r4 = 0 then
    if (1 : Int32) = 0 ∨ (1 : Int32) = 1 then some (1, S3) else none
  else
    if (0 : Int32) = 0 ∨ (0 : Int32) = 1 then some (0, S3) else none))
set_option maxHeartbeats 4000000 in
set_option maxRecDepth 100000 in
theorem gX6_noZone_0 {l : Launch} {G : zb_G} (N : Nat) (S : zb_S) (a1 : Int32) : zb_Go zb_eI l G 1 RX6 cX6_noZone 2 (some .boolean) 0 [(0, .ref (zb_ad G 21)), (1, .int a1)] [] S (fX6_noZone_0 N S a1) := by
  unfold fX6_noZone_0
  refine zg_iload_n 1 dX6_noZone_0 rfl rfl ?_
  refine zg_i2l dX6_noZone_1 ?_
  refine zg_lconst (v := 0) dX6_noZone_2 (by decide) ?_
  refine zg_aload_n 0 dX6_noZone_3 rfl rfl ?_
  refine zg_callVI (As := []) (rest := [.long 0, .long (Int32.toInt64 a1)]) 0 (zcX6_zones N S) (by decide) (by decide) rfl (by decide) rfl zw_220 zw_221 zw_222 zw_5 zw_223 (by decide +kernel) rfl rfl (Nat.le_of_ble_eq_true rfl) dX6_noZone_4 (fun r2 S1 => ?_)
  refine zg_iconst (v := 1) dX6_noZone_7 (by decide) ?_
  refine zg_isub dX6_noZone_8 ?_
  refine zg_i2l dX6_noZone_9 ?_
  refine zg_callSI (As := [.long (Int32.toInt64 a1), .long 0, .long (Int32.toInt64 (r2 - 1))]) (rest := []) 3 (zcX6_in N S1 (Int32.toInt64 a1) 0 (Int32.toInt64 (r2 - 1))) (by decide) (by decide) zw_117 zw_118 zw_5 zw_119 (by decide +kernel) rfl rfl (Nat.le_of_ble_eq_true rfl) dX6_noZone_10 (fun r4 S3 => ?_)
  refine zg_if_ne 20 dX6_noZone_13 (by decide) ?_ ?_
  · refine zg_iconst (v := 0) dX6_noZone_20 (by decide) ?_
    exact zg_zret rfl dX6_noZone_21
  · refine zg_iconst (v := 1) dX6_noZone_16 (by decide) ?_
    refine zg_goto (tgt := 21) dX6_noZone_17 (by decide) ?_
    exact zg_zret rfl dX6_noZone_21
def fX6_noZone (N : Nat) (S : zb_S) (a1 : Int32) : Option (Int32 × zb_S) := fX6_noZone_0 N S a1
theorem zcX6_noZone {l : Launch} {G : zb_G} (N : Nat) (S : zb_S) (a1 : Int32) : zb_C zb_eI l G 1 yX6_noZone cX6_noZone 2 (some .boolean) [.ref (zb_ad G 21), .int a1] S (fX6_noZone N S a1) :=
  zb_C.of (by decide +kernel) rfl (Nat.le_of_ble_eq_true rfl) rfl (gX6_noZone_0 N S a1)
-- X6_write
def fX6_write_0 (N : Nat) (S : zb_S) (a1 : Int32) : Option (Int32 × zb_S) :=
  zb_let (zb_pi S 21 0 0) (fun S1 : zb_S =>
  zb_bind (fX6_in N S1 (Int32.toInt64 a1) 0 255) (fun r3 S2 =>
  if r3 = 0 then
    some ((-2), S2)
  else
    if (zb_i S2 21 2) = 40 then
      some ((-4), S2)
    else
      if zb_in (zb_i S2 21 2) (zb_sz 22) then zb_let (zb_pa S2 22 (Int32.toNatClampNeg (zb_i S2 21 2)) a1) (fun S4 : zb_S =>
      zb_let (zb_pi S4 21 2 ((zb_i S4 21 2) + 1)) (fun S5 : zb_S =>
      some (zb_i S5 21 2, S5))) else none))
set_option maxHeartbeats 4000000 in
set_option maxRecDepth 100000 in
theorem gX6_write_0 {l : Launch} {G : zb_G} (N : Nat) (S : zb_S) (a1 : Int32) : zb_Go zb_eI l G 1 RX6 cX6_write 2 (some .int) 0 [(0, .ref (zb_ad G 21)), (1, .int a1)] [] S (fX6_write_0 N S a1) := by
  unfold fX6_write_0
  refine zg_aload_n 0 dX6_write_0 rfl rfl ?_
  refine zg_iconst (v := 0) dX6_write_1 (by decide) ?_
  refine zp_X6_0 rfl zw_114 dX6_write_2 (fun S1 => ?_)
  refine zg_iload_n 1 dX6_write_5 rfl rfl ?_
  refine zg_i2l dX6_write_6 ?_
  refine zg_lconst (v := 0) dX6_write_7 (by decide) ?_
  refine zg_ldc2 zw_115 dX6_write_8 ?_
  refine zg_callSI (As := [.long (Int32.toInt64 a1), .long 0, .long 255]) (rest := []) 3 (zcX6_in N S1 (Int32.toInt64 a1) 0 255) (by decide) (by decide) zw_117 zw_118 zw_5 zw_119 (by decide +kernel) rfl rfl (Nat.le_of_ble_eq_true rfl) dX6_write_11 (fun r3 S2 => ?_)
  refine zg_if_ne 20 dX6_write_14 (by decide) ?_ ?_
  · refine zg_aload_n 0 dX6_write_20 rfl rfl ?_
    refine zq_X6_2 rfl zw_116 dX6_write_21 ?_
    refine zg_bipush (v := 40) dX6_write_24 (by decide) ?_
    refine zg_icmp_ne 32 dX6_write_26 (by decide) ?_ ?_
    · refine zg_aload_n 0 dX6_write_32 rfl rfl ?_
      refine zq_X6_1 rfl rfl zw_88 dX6_write_33 ?_
      refine zg_aload_n 0 dX6_write_36 rfl rfl ?_
      refine zq_X6_2 rfl zw_116 dX6_write_37 ?_
      refine zg_iload_n 1 dX6_write_40 rfl rfl ?_
      refine zg_iast rfl dX6_write_41 (fun S4 => ?_)
      refine zg_aload_n 0 dX6_write_42 rfl rfl ?_
      refine zg_dup dX6_write_43 rfl ?_
      refine zq_X6_2 rfl zw_116 dX6_write_44 ?_
      refine zg_iconst (v := 1) dX6_write_47 (by decide) ?_
      refine zg_iadd dX6_write_48 ?_
      refine zp_X6_2 rfl zw_116 dX6_write_49 (fun S5 => ?_)
      refine zg_aload_n 0 dX6_write_52 rfl rfl ?_
      refine zq_X6_2 rfl zw_116 dX6_write_53 ?_
      exact zg_iret rfl dX6_write_56
    · refine zg_bipush (v := (-4)) dX6_write_29 (by decide) ?_
      exact zg_iret rfl dX6_write_31
  · refine zg_bipush (v := (-2)) dX6_write_17 (by decide) ?_
    exact zg_iret rfl dX6_write_19
def fX6_write (N : Nat) (S : zb_S) (a1 : Int32) : Option (Int32 × zb_S) := fX6_write_0 N S a1
theorem zcX6_write {l : Launch} {G : zb_G} (N : Nat) (S : zb_S) (a1 : Int32) : zb_C zb_eI l G 1 yX6_write cX6_write 2 (some .int) [.ref (zb_ad G 21), .int a1] S (fX6_write N S a1) :=
  zb_C.of (by decide +kernel) rfl (Nat.le_of_ble_eq_true rfl) rfl (gX6_write_0 N S a1)
-- X6_wipe
def fX6_wipe_0 (N : Nat) (S : zb_S) : Option (Int32 × zb_S) :=
  zb_let (zb_pi S 21 0 0) (fun S1 : zb_S =>
  zb_let (zb_i S1 21 2) (fun x2 : Int32 =>
  zb_let (zb_pi S1 21 2 0) (fun S3 : zb_S =>
  some (x2, S3))))
set_option maxHeartbeats 4000000 in
set_option maxRecDepth 100000 in
theorem gX6_wipe_0 {l : Launch} {G : zb_G} (N : Nat) (S : zb_S) : zb_Go zb_eI l G 0 RX6 cX6_wipe 2 (some .int) 0 [(0, .ref (zb_ad G 21))] [] S (fX6_wipe_0 N S) := by
  unfold fX6_wipe_0
  refine zg_aload_n 0 dX6_wipe_0 rfl rfl ?_
  refine zg_iconst (v := 0) dX6_wipe_1 (by decide) ?_
  refine zp_X6_0 rfl zw_114 dX6_wipe_2 (fun S1 => ?_)
  refine zg_aload_n 0 dX6_wipe_5 rfl rfl ?_
  refine zq_X6_2 rfl zw_116 dX6_wipe_6 ?_
  refine zg_istore_nL (fun x2 => [(1, .int x2), (0, .ref (zb_ad G 21))]) dX6_wipe_9 rfl (by decide) (fun _ => rfl) (fun x2 => ?_)
  refine zg_aload_n 1 dX6_wipe_10 rfl rfl ?_
  refine zg_iconst (v := 0) dX6_wipe_11 (by decide) ?_
  refine zp_X6_2 rfl zw_116 dX6_wipe_12 (fun S3 => ?_)
  refine zg_iload_n 0 dX6_wipe_15 rfl rfl ?_
  exact zg_iret rfl dX6_wipe_16
def fX6_wipe (N : Nat) (S : zb_S) : Option (Int32 × zb_S) := fX6_wipe_0 N S
theorem zcX6_wipe {l : Launch} {G : zb_G} (N : Nat) (S : zb_S) : zb_C zb_eI l G 0 yX6_wipe cX6_wipe 2 (some .int) [.ref (zb_ad G 21)] S (fX6_wipe N S) :=
  zb_C.of (by decide +kernel) rfl (Nat.le_of_ble_eq_true rfl) rfl (gX6_wipe_0 N S)
-- X6_figure
def fX6_figure_28 (N : Nat) (S : zb_S) (l1 : Int32) (l2 : Int32) (s0 : Int32) : Option (Int32 × zb_S) :=
  zb_bind (fX6_in N S (Int32.toInt64 s0) (Int32.toInt64 l1) (Int32.toInt64 l2)) (fun r2 S1 =>
  if r2 = 0 then
    some ((-9), S1)
  else
    zb_let (zb_pi S1 21 3 ((zb_i S1 21 3) + 1)) (fun S3 : zb_S =>
    some (s0, S3)))
set_option maxHeartbeats 4000000 in
set_option maxRecDepth 100000 in
theorem gX6_figure_28 {l : Launch} {G : zb_G} (N : Nat) (S : zb_S) (l1 : Int32) (l2 : Int32) (s0 : Int32) : zb_Go zb_eI l G 1 RX6 cX6_figure 4 (some .int) 28 [(0, .ref (zb_ad G 21)), (1, .int l1), (2, .int l2)] [.int s0] S (fX6_figure_28 N S l1 l2 s0) := by
  unfold fX6_figure_28
  refine zg_istore_n (lv' := [(3, .int s0), (0, .ref (zb_ad G 21)), (1, .int l1), (2, .int l2)]) dX6_figure_28 rfl (by decide) rfl ?_
  refine zg_iload_n 0 dX6_figure_29 rfl rfl ?_
  refine zg_i2l dX6_figure_30 ?_
  refine zg_iload_n 2 dX6_figure_31 rfl rfl ?_
  refine zg_i2l dX6_figure_32 ?_
  refine zg_iload_n 3 dX6_figure_33 rfl rfl ?_
  refine zg_i2l dX6_figure_34 ?_
  refine zg_callSI (As := [.long (Int32.toInt64 s0), .long (Int32.toInt64 l1), .long (Int32.toInt64 l2)]) (rest := []) 3 (zcX6_in N S (Int32.toInt64 s0) (Int32.toInt64 l1) (Int32.toInt64 l2)) (by decide) (by decide) zw_117 zw_118 zw_5 zw_119 (by decide +kernel) rfl rfl (Nat.le_of_ble_eq_true rfl) dX6_figure_35 (fun r2 S1 => ?_)
  refine zg_if_ne 44 dX6_figure_38 (by decide) ?_ ?_
  · refine zg_aload_n 1 dX6_figure_44 rfl rfl ?_
    refine zg_dup dX6_figure_45 rfl ?_
    refine zq_X6_3 rfl zw_167 dX6_figure_46 ?_
    refine zg_iconst (v := 1) dX6_figure_49 (by decide) ?_
    refine zg_iadd dX6_figure_50 ?_
    refine zp_X6_3 rfl zw_167 dX6_figure_51 (fun S3 => ?_)
    refine zg_iload_n 0 dX6_figure_54 rfl rfl ?_
    exact zg_iret rfl dX6_figure_55
  · refine zg_bipush (v := (-9)) dX6_figure_41 (by decide) ?_
    exact zg_iret rfl dX6_figure_43
def fX6_figure_0 (N : Nat) (S : zb_S) (a1 : Int32) (a2 : Int32) : Option (Int32 × zb_S) :=
  if (zb_i S 21 2) ≤ (zb_i S 21 3) then
    fX6_figure_28 N S a1 a2 (-9)
  else
    if zb_in (zb_i S 21 3) (zb_sz 22) then
    fX6_figure_28 N S a1 a2 ((zb_a S 22 (Int32.toNatClampNeg (zb_i S 21 3))) - 48) else none
set_option maxHeartbeats 4000000 in
set_option maxRecDepth 100000 in
theorem gX6_figure_0 {l : Launch} {G : zb_G} (N : Nat) (S : zb_S) (a1 : Int32) (a2 : Int32) : zb_Go zb_eI l G 1 RX6 cX6_figure 4 (some .int) 0 [(0, .ref (zb_ad G 21)), (1, .int a1), (2, .int a2)] [] S (fX6_figure_0 N S a1 a2) := by
  unfold fX6_figure_0
  refine zg_aload_n 0 dX6_figure_0 rfl rfl ?_
  refine zq_X6_3 rfl zw_167 dX6_figure_1 ?_
  refine zg_aload_n 0 dX6_figure_4 rfl rfl ?_
  refine zq_X6_2 rfl zw_116 dX6_figure_5 ?_
  refine zg_icmp_ge 26 dX6_figure_8 (by decide) ?_ ?_
  · refine zg_bipush (v := (-9)) dX6_figure_26 (by decide) ?_
    exact gX6_figure_28 N S a1 a2 (-9)
  · refine zg_aload_n 0 dX6_figure_11 rfl rfl ?_
    refine zq_X6_1 rfl rfl zw_88 dX6_figure_12 ?_
    refine zg_aload_n 0 dX6_figure_15 rfl rfl ?_
    refine zq_X6_3 rfl zw_167 dX6_figure_16 ?_
    refine zg_iald rfl dX6_figure_19 ?_
    refine zg_bipush (v := 48) dX6_figure_20 (by decide) ?_
    refine zg_isub dX6_figure_22 ?_
    refine zg_goto (tgt := 28) dX6_figure_23 (by decide) ?_
    exact gX6_figure_28 N S a1 a2 ((zb_a S 22 (Int32.toNatClampNeg (zb_i S 21 3))) - 48)
def fX6_figure (N : Nat) (S : zb_S) (a1 : Int32) (a2 : Int32) : Option (Int32 × zb_S) := fX6_figure_0 N S a1 a2
theorem zcX6_figure {l : Launch} {G : zb_G} (N : Nat) (S : zb_S) (a1 : Int32) (a2 : Int32) : zb_C zb_eI l G 1 yX6_figure cX6_figure 4 (some .int) [.ref (zb_ad G 21), .int a1, .int a2] S (fX6_figure N S a1 a2) :=
  zb_C.of (by decide +kernel) rfl (Nat.le_of_ble_eq_true rfl) rfl (gX6_figure_0 N S a1 a2)
-- X6_readHead
def fX6_readHead_121 (N : Nat) (S : zb_S) (s0 : Int32) : Option (Int32 × zb_S) :=
  if zb_in 74 (zb_sz 23) then zb_let (zb_pa S 23 (Int32.toNatClampNeg 74) s0) (fun S1 : zb_S =>
  if zb_in 74 (zb_sz 23) then
  if (zb_a S1 23 (Int32.toNatClampNeg 74)) = (-9) then
    if (0 : Int32) = 0 ∨ (0 : Int32) = 1 then some (0, S1) else none
  else
    if (1 : Int32) = 0 ∨ (1 : Int32) = 1 then some (1, S1) else none else none) else none
set_option maxHeartbeats 4000000 in
set_option maxRecDepth 100000 in
theorem gX6_readHead_121 {l : Launch} {G : zb_G} (N : Nat) (S : zb_S) (s0 : Int32) : zb_Go zb_eI l G 2 RX6 cX6_readHead 1 (some .boolean) 121 [(0, .ref (zb_ad G 21))] [.int s0, .int 74, .ref (zb_ad G 23)] S (fX6_readHead_121 N S s0) := by
  unfold fX6_readHead_121
  refine zg_iast rfl dX6_readHead_121 (fun S1 => ?_)
  refine zg_aload_n 0 dX6_readHead_122 rfl rfl ?_
  refine zq_X6_10 rfl rfl zw_91 dX6_readHead_123 ?_
  refine zg_bipush (v := 74) dX6_readHead_126 (by decide) ?_
  refine zg_iald rfl dX6_readHead_128 ?_
  refine zg_bipush (v := (-9)) dX6_readHead_129 (by decide) ?_
  refine zg_icmp_eq 138 dX6_readHead_131 (by decide) ?_ ?_
  · refine zg_iconst (v := 0) dX6_readHead_138 (by decide) ?_
    exact zg_zret rfl dX6_readHead_139
  · refine zg_iconst (v := 1) dX6_readHead_134 (by decide) ?_
    refine zg_goto (tgt := 139) dX6_readHead_135 (by decide) ?_
    exact zg_zret rfl dX6_readHead_139
def fX6_readHead_90 (N : Nat) (S : zb_S) (s0 : Int32) : Option (Int32 × zb_S) :=
  if zb_in 73 (zb_sz 23) then zb_let (zb_pa S 23 (Int32.toNatClampNeg 73) s0) (fun S1 : zb_S =>
  if zb_in 73 (zb_sz 23) then
  if (zb_a S1 23 (Int32.toNatClampNeg 73)) = (-9) then
    fX6_readHead_121 N S1 (-9)
  else
    zb_bind (fX6_figure N S1 0 9) (fun r3 S2 =>
    fX6_readHead_121 N S2 r3) else none) else none
set_option maxHeartbeats 4000000 in
set_option maxRecDepth 100000 in
theorem gX6_readHead_90 {l : Launch} {G : zb_G} (N : Nat) (S : zb_S) (s0 : Int32) : zb_Go zb_eI l G 2 RX6 cX6_readHead 1 (some .boolean) 90 [(0, .ref (zb_ad G 21))] [.int s0, .int 73, .ref (zb_ad G 23)] S (fX6_readHead_90 N S s0) := by
  unfold fX6_readHead_90
  refine zg_iast rfl dX6_readHead_90 (fun S1 => ?_)
  refine zg_aload_n 0 dX6_readHead_91 rfl rfl ?_
  refine zq_X6_10 rfl rfl zw_91 dX6_readHead_92 ?_
  refine zg_bipush (v := 74) dX6_readHead_95 (by decide) ?_
  refine zg_aload_n 0 dX6_readHead_97 rfl rfl ?_
  refine zq_X6_10 rfl rfl zw_91 dX6_readHead_98 ?_
  refine zg_bipush (v := 73) dX6_readHead_101 (by decide) ?_
  refine zg_iald rfl dX6_readHead_103 ?_
  refine zg_bipush (v := (-9)) dX6_readHead_104 (by decide) ?_
  refine zg_icmp_ne 114 dX6_readHead_106 (by decide) ?_ ?_
  · refine zg_aload_n 0 dX6_readHead_114 rfl rfl ?_
    refine zg_iconst (v := 0) dX6_readHead_115 (by decide) ?_
    refine zg_bipush (v := 9) dX6_readHead_116 (by decide) ?_
    refine zg_callVI (As := [.int 0, .int 9]) (rest := [.int 74, .ref (zb_ad G 23)]) 2 (zcX6_figure N S1 0 9) (by decide) (by decide) rfl (by decide) rfl zw_175 zw_176 zw_177 zw_5 zw_178 (by decide +kernel) rfl rfl (Nat.le_of_ble_eq_true rfl) dX6_readHead_118 (fun r3 S2 => ?_)
    exact gX6_readHead_121 N S2 r3
  · refine zg_bipush (v := (-9)) dX6_readHead_109 (by decide) ?_
    refine zg_goto (tgt := 121) dX6_readHead_111 (by decide) ?_
    exact gX6_readHead_121 N S1 (-9)
def fX6_readHead_61 (N : Nat) (S : zb_S) (s0 : Int32) : Option (Int32 × zb_S) :=
  zb_let (zb_pi S 21 9 s0) (fun S1 : zb_S =>
  if (zb_i S1 21 9) = (-9) then
    fX6_readHead_90 N S1 (-9)
  else
    zb_bind (fX6_figure N S1 0 1) (fun r3 S2 =>
    fX6_readHead_90 N S2 r3))
set_option maxHeartbeats 4000000 in
set_option maxRecDepth 100000 in
theorem gX6_readHead_61 {l : Launch} {G : zb_G} (N : Nat) (S : zb_S) (s0 : Int32) : zb_Go zb_eI l G 2 RX6 cX6_readHead 1 (some .boolean) 61 [(0, .ref (zb_ad G 21))] [.int s0, .ref (zb_ad G 21)] S (fX6_readHead_61 N S s0) := by
  unfold fX6_readHead_61
  refine zp_X6_9 rfl zw_174 dX6_readHead_61 (fun S1 => ?_)
  refine zg_aload_n 0 dX6_readHead_64 rfl rfl ?_
  refine zq_X6_10 rfl rfl zw_91 dX6_readHead_65 ?_
  refine zg_bipush (v := 73) dX6_readHead_68 (by decide) ?_
  refine zg_aload_n 0 dX6_readHead_70 rfl rfl ?_
  refine zq_X6_9 rfl zw_174 dX6_readHead_71 ?_
  refine zg_bipush (v := (-9)) dX6_readHead_74 (by decide) ?_
  refine zg_icmp_ne 84 dX6_readHead_76 (by decide) ?_ ?_
  · refine zg_aload_n 0 dX6_readHead_84 rfl rfl ?_
    refine zg_iconst (v := 0) dX6_readHead_85 (by decide) ?_
    refine zg_iconst (v := 1) dX6_readHead_86 (by decide) ?_
    refine zg_callVI (As := [.int 0, .int 1]) (rest := [.int 73, .ref (zb_ad G 23)]) 2 (zcX6_figure N S1 0 1) (by decide) (by decide) rfl (by decide) rfl zw_175 zw_176 zw_177 zw_5 zw_178 (by decide +kernel) rfl rfl (Nat.le_of_ble_eq_true rfl) dX6_readHead_87 (fun r3 S2 => ?_)
    exact gX6_readHead_90 N S2 r3
  · refine zg_bipush (v := (-9)) dX6_readHead_79 (by decide) ?_
    refine zg_goto (tgt := 90) dX6_readHead_81 (by decide) ?_
    exact gX6_readHead_90 N S1 (-9)
def fX6_readHead_32 (N : Nat) (S : zb_S) (s0 : Int32) : Option (Int32 × zb_S) :=
  zb_let (zb_pi S 21 8 s0) (fun S1 : zb_S =>
  if (zb_i S1 21 8) = (-9) then
    fX6_readHead_61 N S1 (-9)
  else
    zb_bind (fX6_figure N S1 1 ((zb_i S1 21 7) - 1)) (fun r3 S2 =>
    fX6_readHead_61 N S2 r3))
set_option maxHeartbeats 4000000 in
set_option maxRecDepth 100000 in
theorem gX6_readHead_32 {l : Launch} {G : zb_G} (N : Nat) (S : zb_S) (s0 : Int32) : zb_Go zb_eI l G 2 RX6 cX6_readHead 1 (some .boolean) 32 [(0, .ref (zb_ad G 21))] [.int s0, .ref (zb_ad G 21)] S (fX6_readHead_32 N S s0) := by
  unfold fX6_readHead_32
  refine zp_X6_8 rfl zw_173 dX6_readHead_32 (fun S1 => ?_)
  refine zg_aload_n 0 dX6_readHead_35 rfl rfl ?_
  refine zg_aload_n 0 dX6_readHead_36 rfl rfl ?_
  refine zq_X6_8 rfl zw_173 dX6_readHead_37 ?_
  refine zg_bipush (v := (-9)) dX6_readHead_40 (by decide) ?_
  refine zg_icmp_ne 50 dX6_readHead_42 (by decide) ?_ ?_
  · refine zg_aload_n 0 dX6_readHead_50 rfl rfl ?_
    refine zg_iconst (v := 1) dX6_readHead_51 (by decide) ?_
    refine zg_aload_n 0 dX6_readHead_52 rfl rfl ?_
    refine zq_X6_7 rfl zw_172 dX6_readHead_53 ?_
    refine zg_iconst (v := 1) dX6_readHead_56 (by decide) ?_
    refine zg_isub dX6_readHead_57 ?_
    refine zg_callVI (As := [.int 1, .int ((zb_i S1 21 7) - 1)]) (rest := [.ref (zb_ad G 21)]) 2 (zcX6_figure N S1 1 ((zb_i S1 21 7) - 1)) (by decide) (by decide) rfl (by decide) rfl zw_175 zw_176 zw_177 zw_5 zw_178 (by decide +kernel) rfl rfl (Nat.le_of_ble_eq_true rfl) dX6_readHead_58 (fun r3 S2 => ?_)
    exact gX6_readHead_61 N S2 r3
  · refine zg_bipush (v := (-9)) dX6_readHead_45 (by decide) ?_
    refine zg_goto (tgt := 61) dX6_readHead_47 (by decide) ?_
    exact gX6_readHead_61 N S1 (-9)
def fX6_readHead_0 (N : Nat) (S : zb_S) : Option (Int32 × zb_S) :=
  zb_bind (fX6_figure N S 2 8) (fun r2 S1 =>
  zb_let (zb_pi S1 21 7 r2) (fun S3 : zb_S =>
  if (zb_i S3 21 7) = (-9) then
    fX6_readHead_32 N S3 (-9)
  else
    zb_bind (fX6_figure N S3 0 4) (fun r5 S4 =>
    fX6_readHead_32 N S4 r5)))
set_option maxHeartbeats 4000000 in
set_option maxRecDepth 100000 in
theorem gX6_readHead_0 {l : Launch} {G : zb_G} (N : Nat) (S : zb_S) : zb_Go zb_eI l G 2 RX6 cX6_readHead 1 (some .boolean) 0 [(0, .ref (zb_ad G 21))] [] S (fX6_readHead_0 N S) := by
  unfold fX6_readHead_0
  refine zg_aload_n 0 dX6_readHead_0 rfl rfl ?_
  refine zg_aload_n 0 dX6_readHead_1 rfl rfl ?_
  refine zg_iconst (v := 2) dX6_readHead_2 (by decide) ?_
  refine zg_bipush (v := 8) dX6_readHead_3 (by decide) ?_
  refine zg_callVI (As := [.int 2, .int 8]) (rest := [.ref (zb_ad G 21)]) 2 (zcX6_figure N S 2 8) (by decide) (by decide) rfl (by decide) rfl zw_175 zw_176 zw_177 zw_5 zw_178 (by decide +kernel) rfl rfl (Nat.le_of_ble_eq_true rfl) dX6_readHead_5 (fun r2 S1 => ?_)
  refine zp_X6_7 rfl zw_172 dX6_readHead_8 (fun S3 => ?_)
  refine zg_aload_n 0 dX6_readHead_11 rfl rfl ?_
  refine zg_aload_n 0 dX6_readHead_12 rfl rfl ?_
  refine zq_X6_7 rfl zw_172 dX6_readHead_13 ?_
  refine zg_bipush (v := (-9)) dX6_readHead_16 (by decide) ?_
  refine zg_icmp_ne 26 dX6_readHead_18 (by decide) ?_ ?_
  · refine zg_aload_n 0 dX6_readHead_26 rfl rfl ?_
    refine zg_iconst (v := 0) dX6_readHead_27 (by decide) ?_
    refine zg_iconst (v := 4) dX6_readHead_28 (by decide) ?_
    refine zg_callVI (As := [.int 0, .int 4]) (rest := [.ref (zb_ad G 21)]) 2 (zcX6_figure N S3 0 4) (by decide) (by decide) rfl (by decide) rfl zw_175 zw_176 zw_177 zw_5 zw_178 (by decide +kernel) rfl rfl (Nat.le_of_ble_eq_true rfl) dX6_readHead_29 (fun r5 S4 => ?_)
    exact gX6_readHead_32 N S4 r5
  · refine zg_bipush (v := (-9)) dX6_readHead_21 (by decide) ?_
    refine zg_goto (tgt := 32) dX6_readHead_23 (by decide) ?_
    exact gX6_readHead_32 N S3 (-9)
def fX6_readHead (N : Nat) (S : zb_S) : Option (Int32 × zb_S) := fX6_readHead_0 N S
theorem zcX6_readHead {l : Launch} {G : zb_G} (N : Nat) (S : zb_S) : zb_C zb_eI l G 2 yX6_readHead cX6_readHead 1 (some .boolean) [.ref (zb_ad G 21)] S (fX6_readHead N S) :=
  zb_C.of (by decide +kernel) rfl (Nat.le_of_ble_eq_true rfl) rfl (gX6_readHead_0 N S)
-- X6_isFree
def fX6_isFree_0 (N : Nat) (S : zb_S) (a1 : Int32) : Option (Int32 × zb_S) :=
  zb_bind (fX6_in N S (Int32.toInt64 a1) 0 (Int32.toInt64 (((zb_i S 21 7) + (zb_i S 21 8)) - 1))) (fun r2 S1 =>
  if r2 = 0 then
    if (0 : Int32) = 0 ∨ (0 : Int32) = 1 then some (0, S1) else none
  else
    if zb_in ((6 * a1) + 0) (zb_sz 23) then
    if (zb_a S1 23 (Int32.toNatClampNeg ((6 * a1) + 0))) = 0 then
      if (1 : Int32) = 0 ∨ (1 : Int32) = 1 then some (1, S1) else none
    else
      if (0 : Int32) = 0 ∨ (0 : Int32) = 1 then some (0, S1) else none else none)
set_option maxHeartbeats 4000000 in
set_option maxRecDepth 100000 in
theorem gX6_isFree_0 {l : Launch} {G : zb_G} (N : Nat) (S : zb_S) (a1 : Int32) : zb_Go zb_eI l G 1 RX6 cX6_isFree 2 (some .boolean) 0 [(0, .ref (zb_ad G 21)), (1, .int a1)] [] S (fX6_isFree_0 N S a1) := by
  unfold fX6_isFree_0
  refine zg_iload_n 1 dX6_isFree_0 rfl rfl ?_
  refine zg_i2l dX6_isFree_1 ?_
  refine zg_lconst (v := 0) dX6_isFree_2 (by decide) ?_
  refine zg_aload_n 0 dX6_isFree_3 rfl rfl ?_
  refine zq_X6_7 rfl zw_172 dX6_isFree_4 ?_
  refine zg_aload_n 0 dX6_isFree_7 rfl rfl ?_
  refine zq_X6_8 rfl zw_173 dX6_isFree_8 ?_
  refine zg_iadd dX6_isFree_11 ?_
  refine zg_iconst (v := 1) dX6_isFree_12 (by decide) ?_
  refine zg_isub dX6_isFree_13 ?_
  refine zg_i2l dX6_isFree_14 ?_
  refine zg_callSI (As := [.long (Int32.toInt64 a1), .long 0, .long (Int32.toInt64 (((zb_i S 21 7) + (zb_i S 21 8)) - 1))]) (rest := []) 3 (zcX6_in N S (Int32.toInt64 a1) 0 (Int32.toInt64 (((zb_i S 21 7) + (zb_i S 21 8)) - 1))) (by decide) (by decide) zw_117 zw_118 zw_5 zw_119 (by decide +kernel) rfl rfl (Nat.le_of_ble_eq_true rfl) dX6_isFree_15 (fun r2 S1 => ?_)
  refine zg_if_eq 39 dX6_isFree_18 (by decide) ?_ ?_
  · refine zg_iconst (v := 0) dX6_isFree_39 (by decide) ?_
    exact zg_zret rfl dX6_isFree_40
  · refine zg_aload_n 0 dX6_isFree_21 rfl rfl ?_
    refine zq_X6_10 rfl rfl zw_91 dX6_isFree_22 ?_
    refine zg_bipush (v := 6) dX6_isFree_25 (by decide) ?_
    refine zg_iload_n 1 dX6_isFree_27 rfl rfl ?_
    refine zg_imul dX6_isFree_28 ?_
    refine zg_iconst (v := 0) dX6_isFree_29 (by decide) ?_
    refine zg_iadd dX6_isFree_30 ?_
    refine zg_iald rfl dX6_isFree_31 ?_
    refine zg_if_ne 39 dX6_isFree_32 (by decide) ?_ ?_
    · refine zg_iconst (v := 0) dX6_isFree_39 (by decide) ?_
      exact zg_zret rfl dX6_isFree_40
    · refine zg_iconst (v := 1) dX6_isFree_35 (by decide) ?_
      refine zg_goto (tgt := 40) dX6_isFree_36 (by decide) ?_
      exact zg_zret rfl dX6_isFree_40
def fX6_isFree (N : Nat) (S : zb_S) (a1 : Int32) : Option (Int32 × zb_S) := fX6_isFree_0 N S a1
theorem zcX6_isFree {l : Launch} {G : zb_G} (N : Nat) (S : zb_S) (a1 : Int32) : zb_C zb_eI l G 1 yX6_isFree cX6_isFree 2 (some .boolean) [.ref (zb_ad G 21), .int a1] S (fX6_isFree N S a1) :=
  zb_C.of (by decide +kernel) rfl (Nat.le_of_ble_eq_true rfl) rfl (gX6_isFree_0 N S a1)
-- X6_readCarton
def fX6_readCarton_167 (N : Nat) (S : zb_S) (l1 : Int32) (s0 : Int32) : Option (Int32 × zb_S) :=
  zb_bind (fX6_in N S (Int32.toInt64 s0) 0 9) (fun r2 S1 =>
  if r2 = 0 then
    if (0 : Int32) = 0 ∨ (0 : Int32) = 1 then some (0, S1) else none
  else
    zb_bind (fX6_isFree N S1 ((10 * l1) + s0)) (fun r4 S3 =>
    if r4 = 0 then
      if (0 : Int32) = 0 ∨ (0 : Int32) = 1 then some (0, S3) else none
    else
      zb_let (zb_pi S3 21 3 ((zb_i S3 21 3) + 1)) (fun S5 : zb_S =>
      if zb_in 76 (zb_sz 23) then
      if zb_in 76 (zb_sz 23) then zb_let (zb_pa S5 23 (Int32.toNatClampNeg 76) ((zb_a S5 23 (Int32.toNatClampNeg 76)) + 1)) (fun S6 : zb_S =>
      if zb_in 76 (zb_sz 23) then
      if zb_in ((6 * ((10 * l1) + s0)) + 0) (zb_sz 23) then zb_let (zb_pa S6 23 (Int32.toNatClampNeg ((6 * ((10 * l1) + s0)) + 0)) (zb_a S6 23 (Int32.toNatClampNeg 76))) (fun S7 : zb_S =>
      if (1 : Int32) = 0 ∨ (1 : Int32) = 1 then some (1, S7) else none) else none else none) else none else none)))
set_option maxHeartbeats 4000000 in
set_option maxRecDepth 100000 in
theorem gX6_readCarton_167 {l : Launch} {G : zb_G} (N : Nat) (S : zb_S) (l1 : Int32) (s0 : Int32) : zb_Go zb_eI l G 2 RX6 cX6_readCarton 4 (some .boolean) 167 [(0, .ref (zb_ad G 21)), (1, .int l1)] [.int s0] S (fX6_readCarton_167 N S l1 s0) := by
  unfold fX6_readCarton_167
  refine zg_istore_n (lv' := [(3, .int s0), (0, .ref (zb_ad G 21)), (1, .int l1)]) dX6_readCarton_167 rfl (by decide) rfl ?_
  refine zg_iload_n 0 dX6_readCarton_168 rfl rfl ?_
  refine zg_i2l dX6_readCarton_169 ?_
  refine zg_lconst (v := 0) dX6_readCarton_170 (by decide) ?_
  refine zg_ldc2 zw_183 dX6_readCarton_171 ?_
  refine zg_callSI (As := [.long (Int32.toInt64 s0), .long 0, .long 9]) (rest := []) 3 (zcX6_in N S (Int32.toInt64 s0) 0 9) (by decide) (by decide) zw_117 zw_118 zw_5 zw_119 (by decide +kernel) rfl rfl (Nat.le_of_ble_eq_true rfl) dX6_readCarton_174 (fun r2 S1 => ?_)
  refine zg_if_eq 193 dX6_readCarton_177 (by decide) ?_ ?_
  · refine zg_iconst (v := 0) dX6_readCarton_193 (by decide) ?_
    exact zg_zret rfl dX6_readCarton_194
  · refine zg_aload_n 1 dX6_readCarton_180 rfl rfl ?_
    refine zg_bipush (v := 10) dX6_readCarton_181 (by decide) ?_
    refine zg_iload_n 2 dX6_readCarton_183 rfl rfl ?_
    refine zg_imul dX6_readCarton_184 ?_
    refine zg_iload_n 0 dX6_readCarton_185 rfl rfl ?_
    refine zg_iadd dX6_readCarton_186 ?_
    refine zg_callVI (As := [.int ((10 * l1) + s0)]) (rest := []) 1 (zcX6_isFree N S1 ((10 * l1) + s0)) (by decide) (by decide) rfl (by decide) rfl zw_184 zw_185 zw_186 zw_5 zw_187 (by decide +kernel) rfl rfl (Nat.le_of_ble_eq_true rfl) dX6_readCarton_187 (fun r4 S3 => ?_)
    refine zg_if_ne 195 dX6_readCarton_190 (by decide) ?_ ?_
    · refine zg_aload_n 1 dX6_readCarton_195 rfl rfl ?_
      refine zg_dup dX6_readCarton_196 rfl ?_
      refine zq_X6_3 rfl zw_167 dX6_readCarton_197 ?_
      refine zg_iconst (v := 1) dX6_readCarton_200 (by decide) ?_
      refine zg_iadd dX6_readCarton_201 ?_
      refine zp_X6_3 rfl zw_167 dX6_readCarton_202 (fun S5 => ?_)
      refine zg_aload_n 1 dX6_readCarton_205 rfl rfl ?_
      refine zq_X6_10 rfl rfl zw_91 dX6_readCarton_206 ?_
      refine zg_bipush (v := 76) dX6_readCarton_209 (by decide) ?_
      refine zg_dup2 dX6_readCarton_211 rfl rfl ?_
      refine zg_iald rfl dX6_readCarton_212 ?_
      refine zg_iconst (v := 1) dX6_readCarton_213 (by decide) ?_
      refine zg_iadd dX6_readCarton_214 ?_
      refine zg_iast rfl dX6_readCarton_215 (fun S6 => ?_)
      refine zg_aload_n 1 dX6_readCarton_216 rfl rfl ?_
      refine zq_X6_10 rfl rfl zw_91 dX6_readCarton_217 ?_
      refine zg_bipush (v := 6) dX6_readCarton_220 (by decide) ?_
      refine zg_bipush (v := 10) dX6_readCarton_222 (by decide) ?_
      refine zg_iload_n 2 dX6_readCarton_224 rfl rfl ?_
      refine zg_imul dX6_readCarton_225 ?_
      refine zg_iload_n 0 dX6_readCarton_226 rfl rfl ?_
      refine zg_iadd dX6_readCarton_227 ?_
      refine zg_imul dX6_readCarton_228 ?_
      refine zg_iconst (v := 0) dX6_readCarton_229 (by decide) ?_
      refine zg_iadd dX6_readCarton_230 ?_
      refine zg_aload_n 1 dX6_readCarton_231 rfl rfl ?_
      refine zq_X6_10 rfl rfl zw_91 dX6_readCarton_232 ?_
      refine zg_bipush (v := 76) dX6_readCarton_235 (by decide) ?_
      refine zg_iald rfl dX6_readCarton_237 ?_
      refine zg_iast rfl dX6_readCarton_238 (fun S7 => ?_)
      refine zg_iconst (v := 1) dX6_readCarton_239 (by decide) ?_
      exact zg_zret rfl dX6_readCarton_240
    · refine zg_iconst (v := 0) dX6_readCarton_193 (by decide) ?_
      exact zg_zret rfl dX6_readCarton_194
def fX6_readCarton_116 (N : Nat) (k78 : zb_S → Int32 → Int32 → Int32 → Option (Int32 × zb_S)) (S : zb_S) (l1 : Int32) (l3 : Int32) (s0 : Int32) : Option (Int32 × zb_S) :=
  zb_let (l3 + 1) (fun x1 : Int32 =>
  k78 S l1 s0 x1)
set_option maxHeartbeats 4000000 in
set_option maxRecDepth 100000 in
theorem gX6_readCarton_116 {l : Launch} {G : zb_G} (N : Nat) (k78 : zb_S → Int32 → Int32 → Int32 → Option (Int32 × zb_S)) (hk78 : ∀ (S : zb_S) (l1 : Int32) (l2 : Int32) (l3 : Int32), zb_Go zb_eI l G 2 RX6 cX6_readCarton 4 (some .boolean) 78 [(0, .ref (zb_ad G 21)), (1, .int l1), (2, .int l2), (3, .int l3)] [] S (k78 S l1 l2 l3)) (S : zb_S) (l1 : Int32) (l3 : Int32) (s0 : Int32) : zb_Go zb_eI l G 2 RX6 cX6_readCarton 4 (some .boolean) 116 [(0, .ref (zb_ad G 21)), (1, .int l1), (3, .int l3)] [.int s0] S (fX6_readCarton_116 N k78 S l1 l3 s0) := by
  unfold fX6_readCarton_116
  refine zg_istore_n (lv' := [(2, .int s0), (0, .ref (zb_ad G 21)), (1, .int l1), (3, .int l3)]) dX6_readCarton_116 rfl (by decide) rfl ?_
  refine zg_iincL (fun x1 => [(3, .int x1), (2, .int s0), (0, .ref (zb_ad G 21)), (1, .int l1)]) 3 dX6_readCarton_117 rfl rfl (by decide) (fun _ => rfl) (fun x1 => ?_)
  refine zg_goto (tgt := 78) dX6_readCarton_120 (by decide) ?_
  refine zg_sub [2, 3, 1, 0] rfl ?_
  exact hk78 S l1 s0 x1
def fX6_readCarton_115 (N : Nat) (k78 : zb_S → Int32 → Int32 → Int32 → Option (Int32 × zb_S)) (S : zb_S) (l1 : Int32) (l3 : Int32) : Option (Int32 × zb_S) :=
  fX6_readCarton_116 N k78 S l1 l3 0
set_option maxHeartbeats 4000000 in
set_option maxRecDepth 100000 in
theorem gX6_readCarton_115 {l : Launch} {G : zb_G} (N : Nat) (k78 : zb_S → Int32 → Int32 → Int32 → Option (Int32 × zb_S)) (hk78 : ∀ (S : zb_S) (l1 : Int32) (l2 : Int32) (l3 : Int32), zb_Go zb_eI l G 2 RX6 cX6_readCarton 4 (some .boolean) 78 [(0, .ref (zb_ad G 21)), (1, .int l1), (2, .int l2), (3, .int l3)] [] S (k78 S l1 l2 l3)) (S : zb_S) (l1 : Int32) (l3 : Int32) : zb_Go zb_eI l G 2 RX6 cX6_readCarton 4 (some .boolean) 115 [(0, .ref (zb_ad G 21)), (1, .int l1), (3, .int l3)] [] S (fX6_readCarton_115 N k78 S l1 l3) := by
  unfold fX6_readCarton_115
  refine zg_iconst (v := 0) dX6_readCarton_115 (by decide) ?_
  exact gX6_readCarton_116 N k78 hk78 S l1 l3 0
def fX6_readCarton_111 (N : Nat) (k78 : zb_S → Int32 → Int32 → Int32 → Option (Int32 × zb_S)) (S : zb_S) (l1 : Int32) (l3 : Int32) : Option (Int32 × zb_S) :=
  fX6_readCarton_116 N k78 S l1 l3 1
set_option maxHeartbeats 4000000 in
set_option maxRecDepth 100000 in
theorem gX6_readCarton_111 {l : Launch} {G : zb_G} (N : Nat) (k78 : zb_S → Int32 → Int32 → Int32 → Option (Int32 × zb_S)) (hk78 : ∀ (S : zb_S) (l1 : Int32) (l2 : Int32) (l3 : Int32), zb_Go zb_eI l G 2 RX6 cX6_readCarton 4 (some .boolean) 78 [(0, .ref (zb_ad G 21)), (1, .int l1), (2, .int l2), (3, .int l3)] [] S (k78 S l1 l2 l3)) (S : zb_S) (l1 : Int32) (l3 : Int32) : zb_Go zb_eI l G 2 RX6 cX6_readCarton 4 (some .boolean) 111 [(0, .ref (zb_ad G 21)), (1, .int l1), (3, .int l3)] [] S (fX6_readCarton_111 N k78 S l1 l3) := by
  unfold fX6_readCarton_111
  refine zg_iconst (v := 1) dX6_readCarton_111 (by decide) ?_
  refine zg_goto (tgt := 116) dX6_readCarton_112 (by decide) ?_
  exact gX6_readCarton_116 N k78 hk78 S l1 l3 1
def fX6_readCarton_78b (N : Nat) (k78 : zb_S → Int32 → Int32 → Int32 → Option (Int32 × zb_S)) (S : zb_S) (l1 : Int32) (l2 : Int32) (l3 : Int32) : Option (Int32 × zb_S) :=
  if 10 ≤ l3 then
    if l2 = 0 then
      if (0 : Int32) = 0 ∨ (0 : Int32) = 1 then some (0, S) else none
    else
      zb_let (zb_pi S 21 3 ((zb_i S 21 3) + 1)) (fun S1 : zb_S =>
      if (zb_i S1 21 2) ≤ (zb_i S1 21 3) then
        fX6_readCarton_167 N S1 l1 (-9)
      else
        if zb_in (zb_i S1 21 3) (zb_sz 22) then
        fX6_readCarton_167 N S1 l1 ((zb_a S1 22 (Int32.toNatClampNeg (zb_i S1 21 3))) - 48) else none)
  else
    if l2 = 0 then
      zb_bind (fX6_in N S (Int32.toInt64 l1) 0 1) (fun r3 S2 =>
      if r3 = 0 then
        fX6_readCarton_115 N k78 S2 l1 l3
      else
        zb_bind (fX6_isFree N S2 ((10 * l1) + l3)) (fun r5 S4 =>
        if r5 = 0 then
          fX6_readCarton_115 N k78 S4 l1 l3
        else
          fX6_readCarton_111 N k78 S4 l1 l3))
    else
      fX6_readCarton_111 N k78 S l1 l3
set_option maxHeartbeats 4000000 in
set_option maxRecDepth 100000 in
theorem gX6_readCarton_78b {l : Launch} {G : zb_G} (N : Nat) (k78 : zb_S → Int32 → Int32 → Int32 → Option (Int32 × zb_S)) (hk78 : ∀ (S : zb_S) (l1 : Int32) (l2 : Int32) (l3 : Int32), zb_Go zb_eI l G 2 RX6 cX6_readCarton 4 (some .boolean) 78 [(0, .ref (zb_ad G 21)), (1, .int l1), (2, .int l2), (3, .int l3)] [] S (k78 S l1 l2 l3)) (S : zb_S) (l1 : Int32) (l2 : Int32) (l3 : Int32) : zb_Go zb_eI l G 2 RX6 cX6_readCarton 4 (some .boolean) 78 [(0, .ref (zb_ad G 21)), (1, .int l1), (2, .int l2), (3, .int l3)] [] S (fX6_readCarton_78b N k78 S l1 l2 l3) := by
  unfold fX6_readCarton_78b
  refine zg_iload_n 3 dX6_readCarton_78 rfl rfl ?_
  refine zg_bipush (v := 10) dX6_readCarton_79 (by decide) ?_
  refine zg_icmp_ge 123 dX6_readCarton_81 (by decide) ?_ ?_
  · refine zg_iload_n 2 dX6_readCarton_123 rfl rfl ?_
    refine zg_if_ne 129 dX6_readCarton_124 (by decide) ?_ ?_
    · refine zg_aload_n 0 dX6_readCarton_129 rfl rfl ?_
      refine zg_dup dX6_readCarton_130 rfl ?_
      refine zq_X6_3 rfl zw_167 dX6_readCarton_131 ?_
      refine zg_iconst (v := 1) dX6_readCarton_134 (by decide) ?_
      refine zg_iadd dX6_readCarton_135 ?_
      refine zp_X6_3 rfl zw_167 dX6_readCarton_136 (fun S1 => ?_)
      refine zg_aload_n 0 dX6_readCarton_139 rfl rfl ?_
      refine zq_X6_3 rfl zw_167 dX6_readCarton_140 ?_
      refine zg_aload_n 0 dX6_readCarton_143 rfl rfl ?_
      refine zq_X6_2 rfl zw_116 dX6_readCarton_144 ?_
      refine zg_icmp_ge 165 dX6_readCarton_147 (by decide) ?_ ?_
      · refine zg_bipush (v := (-9)) dX6_readCarton_165 (by decide) ?_
        refine zg_sub [0, 1] rfl ?_
        exact gX6_readCarton_167 N S1 l1 (-9)
      · refine zg_aload_n 0 dX6_readCarton_150 rfl rfl ?_
        refine zq_X6_1 rfl rfl zw_88 dX6_readCarton_151 ?_
        refine zg_aload_n 0 dX6_readCarton_154 rfl rfl ?_
        refine zq_X6_3 rfl zw_167 dX6_readCarton_155 ?_
        refine zg_iald rfl dX6_readCarton_158 ?_
        refine zg_bipush (v := 48) dX6_readCarton_159 (by decide) ?_
        refine zg_isub dX6_readCarton_161 ?_
        refine zg_goto (tgt := 167) dX6_readCarton_162 (by decide) ?_
        refine zg_sub [0, 1] rfl ?_
        exact gX6_readCarton_167 N S1 l1 ((zb_a S1 22 (Int32.toNatClampNeg (zb_i S1 21 3))) - 48)
    · refine zg_iconst (v := 0) dX6_readCarton_127 (by decide) ?_
      exact zg_zret rfl dX6_readCarton_128
  · refine zg_iload_n 2 dX6_readCarton_84 rfl rfl ?_
    refine zg_if_ne 111 dX6_readCarton_85 (by decide) ?_ ?_
    · refine zg_sub [0, 1, 3] rfl ?_
      exact gX6_readCarton_111 N k78 hk78 S l1 l3
    · refine zg_iload_n 1 dX6_readCarton_88 rfl rfl ?_
      refine zg_i2l dX6_readCarton_89 ?_
      refine zg_lconst (v := 0) dX6_readCarton_90 (by decide) ?_
      refine zg_lconst (v := 1) dX6_readCarton_91 (by decide) ?_
      refine zg_callSI (As := [.long (Int32.toInt64 l1), .long 0, .long 1]) (rest := []) 3 (zcX6_in N S (Int32.toInt64 l1) 0 1) (by decide) (by decide) zw_117 zw_118 zw_5 zw_119 (by decide +kernel) rfl rfl (Nat.le_of_ble_eq_true rfl) dX6_readCarton_92 (fun r3 S2 => ?_)
      refine zg_if_eq 115 dX6_readCarton_95 (by decide) ?_ ?_
      · refine zg_sub [0, 1, 3] rfl ?_
        exact gX6_readCarton_115 N k78 hk78 S2 l1 l3
      · refine zg_aload_n 0 dX6_readCarton_98 rfl rfl ?_
        refine zg_bipush (v := 10) dX6_readCarton_99 (by decide) ?_
        refine zg_iload_n 1 dX6_readCarton_101 rfl rfl ?_
        refine zg_imul dX6_readCarton_102 ?_
        refine zg_iload_n 3 dX6_readCarton_103 rfl rfl ?_
        refine zg_iadd dX6_readCarton_104 ?_
        refine zg_callVI (As := [.int ((10 * l1) + l3)]) (rest := []) 1 (zcX6_isFree N S2 ((10 * l1) + l3)) (by decide) (by decide) rfl (by decide) rfl zw_184 zw_185 zw_186 zw_5 zw_187 (by decide +kernel) rfl rfl (Nat.le_of_ble_eq_true rfl) dX6_readCarton_105 (fun r5 S4 => ?_)
        refine zg_if_eq 115 dX6_readCarton_108 (by decide) ?_ ?_
        · refine zg_sub [0, 1, 3] rfl ?_
          exact gX6_readCarton_115 N k78 hk78 S4 l1 l3
        · refine zg_sub [0, 1, 3] rfl ?_
          exact gX6_readCarton_111 N k78 hk78 S4 l1 l3
def fX6_readCarton_78 (N : Nat) : Nat → zb_S → Int32 → Int32 → Int32 → Option (Int32 × zb_S)
  | 0, _, _, _, _ => none
  | n + 1, S, l1, l2, l3 => fX6_readCarton_78b N (fX6_readCarton_78 N n) S l1 l2 l3
set_option maxHeartbeats 4000000 in
set_option maxRecDepth 100000 in
theorem gX6_readCarton_78 {l : Launch} {G : zb_G} (N : Nat) : ∀ (n : Nat) (S : zb_S) (l1 : Int32) (l2 : Int32) (l3 : Int32), zb_Go zb_eI l G 2 RX6 cX6_readCarton 4 (some .boolean) 78 [(0, .ref (zb_ad G 21)), (1, .int l1), (2, .int l2), (3, .int l3)] [] S (fX6_readCarton_78 N n S l1 l2 l3) := by
  intro n
  induction n with
  | zero => intros; exact zg_none
  | succ n ih =>
    intro S l1 l2 l3
    exact gX6_readCarton_78b N (fX6_readCarton_78 N n) ih S l1 l2 l3
def fX6_readCarton_73 (N : Nat) (S : zb_S) (s0 : Int32) : Option (Int32 × zb_S) :=
  fX6_readCarton_78 N N S s0 0 0
set_option maxHeartbeats 4000000 in
set_option maxRecDepth 100000 in
theorem gX6_readCarton_73 {l : Launch} {G : zb_G} (N : Nat) (S : zb_S) (s0 : Int32) : zb_Go zb_eI l G 2 RX6 cX6_readCarton 4 (some .boolean) 73 [(0, .ref (zb_ad G 21))] [.int s0] S (fX6_readCarton_73 N S s0) := by
  unfold fX6_readCarton_73
  refine zg_istore_n (lv' := [(1, .int s0), (0, .ref (zb_ad G 21))]) dX6_readCarton_73 rfl (by decide) rfl ?_
  refine zg_iconst (v := 0) dX6_readCarton_74 (by decide) ?_
  refine zg_istore_n (lv' := [(2, .int 0), (1, .int s0), (0, .ref (zb_ad G 21))]) dX6_readCarton_75 rfl (by decide) rfl ?_
  refine zg_iconst (v := 0) dX6_readCarton_76 (by decide) ?_
  refine zg_istore_n (lv' := [(3, .int 0), (2, .int 0), (1, .int s0), (0, .ref (zb_ad G 21))]) dX6_readCarton_77 rfl (by decide) rfl ?_
  refine zg_sub [3, 2, 1, 0] rfl ?_
  exact gX6_readCarton_78 N N S s0 0 0
def fX6_readCarton_0 (N : Nat) (S : zb_S) : Option (Int32 × zb_S) :=
  if zb_in (zb_i S 21 3) (zb_sz 22) then
  if (zb_a S 22 (Int32.toNatClampNeg (zb_i S 21 3))) = 99 then
    if zb_in 76 (zb_sz 23) then
    if (zb_a S 23 (Int32.toNatClampNeg 76)) = ((zb_i S 21 7) + (zb_i S 21 8)) then
      if (0 : Int32) = 0 ∨ (0 : Int32) = 1 then some (0, S) else none
    else
      zb_let (zb_pi S 21 3 ((zb_i S 21 3) + 1)) (fun S1 : zb_S =>
      if (zb_i S1 21 2) ≤ (zb_i S1 21 3) then
        fX6_readCarton_73 N S1 (-9)
      else
        if zb_in (zb_i S1 21 3) (zb_sz 22) then
        fX6_readCarton_73 N S1 ((zb_a S1 22 (Int32.toNatClampNeg (zb_i S1 21 3))) - 48) else none) else none
  else
    if (0 : Int32) = 0 ∨ (0 : Int32) = 1 then some (0, S) else none else none
set_option maxHeartbeats 4000000 in
set_option maxRecDepth 100000 in
theorem gX6_readCarton_0 {l : Launch} {G : zb_G} (N : Nat) (S : zb_S) : zb_Go zb_eI l G 2 RX6 cX6_readCarton 4 (some .boolean) 0 [(0, .ref (zb_ad G 21))] [] S (fX6_readCarton_0 N S) := by
  unfold fX6_readCarton_0
  refine zg_aload_n 0 dX6_readCarton_0 rfl rfl ?_
  refine zq_X6_1 rfl rfl zw_88 dX6_readCarton_1 ?_
  refine zg_aload_n 0 dX6_readCarton_4 rfl rfl ?_
  refine zq_X6_3 rfl zw_167 dX6_readCarton_5 ?_
  refine zg_iald rfl dX6_readCarton_8 ?_
  refine zg_bipush (v := 99) dX6_readCarton_9 (by decide) ?_
  refine zg_icmp_ne 33 dX6_readCarton_11 (by decide) ?_ ?_
  · refine zg_iconst (v := 0) dX6_readCarton_33 (by decide) ?_
    exact zg_zret rfl dX6_readCarton_34
  · refine zg_aload_n 0 dX6_readCarton_14 rfl rfl ?_
    refine zq_X6_10 rfl rfl zw_91 dX6_readCarton_15 ?_
    refine zg_bipush (v := 76) dX6_readCarton_18 (by decide) ?_
    refine zg_iald rfl dX6_readCarton_20 ?_
    refine zg_aload_n 0 dX6_readCarton_21 rfl rfl ?_
    refine zq_X6_7 rfl zw_172 dX6_readCarton_22 ?_
    refine zg_aload_n 0 dX6_readCarton_25 rfl rfl ?_
    refine zq_X6_8 rfl zw_173 dX6_readCarton_26 ?_
    refine zg_iadd dX6_readCarton_29 ?_
    refine zg_icmp_ne 35 dX6_readCarton_30 (by decide) ?_ ?_
    · refine zg_aload_n 0 dX6_readCarton_35 rfl rfl ?_
      refine zg_dup dX6_readCarton_36 rfl ?_
      refine zq_X6_3 rfl zw_167 dX6_readCarton_37 ?_
      refine zg_iconst (v := 1) dX6_readCarton_40 (by decide) ?_
      refine zg_iadd dX6_readCarton_41 ?_
      refine zp_X6_3 rfl zw_167 dX6_readCarton_42 (fun S1 => ?_)
      refine zg_aload_n 0 dX6_readCarton_45 rfl rfl ?_
      refine zq_X6_3 rfl zw_167 dX6_readCarton_46 ?_
      refine zg_aload_n 0 dX6_readCarton_49 rfl rfl ?_
      refine zq_X6_2 rfl zw_116 dX6_readCarton_50 ?_
      refine zg_icmp_ge 71 dX6_readCarton_53 (by decide) ?_ ?_
      · refine zg_bipush (v := (-9)) dX6_readCarton_71 (by decide) ?_
        exact gX6_readCarton_73 N S1 (-9)
      · refine zg_aload_n 0 dX6_readCarton_56 rfl rfl ?_
        refine zq_X6_1 rfl rfl zw_88 dX6_readCarton_57 ?_
        refine zg_aload_n 0 dX6_readCarton_60 rfl rfl ?_
        refine zq_X6_3 rfl zw_167 dX6_readCarton_61 ?_
        refine zg_iald rfl dX6_readCarton_64 ?_
        refine zg_bipush (v := 48) dX6_readCarton_65 (by decide) ?_
        refine zg_isub dX6_readCarton_67 ?_
        refine zg_goto (tgt := 73) dX6_readCarton_68 (by decide) ?_
        exact gX6_readCarton_73 N S1 ((zb_a S1 22 (Int32.toNatClampNeg (zb_i S1 21 3))) - 48)
    · refine zg_iconst (v := 0) dX6_readCarton_33 (by decide) ?_
      exact zg_zret rfl dX6_readCarton_34
def fX6_readCarton (N : Nat) (S : zb_S) : Option (Int32 × zb_S) := fX6_readCarton_0 N S
theorem zcX6_readCarton {l : Launch} {G : zb_G} (N : Nat) (S : zb_S) : zb_C zb_eI l G 2 yX6_readCarton cX6_readCarton 4 (some .boolean) [.ref (zb_ad G 21)] S (fX6_readCarton N S) :=
  zb_C.of (by decide +kernel) rfl (Nat.le_of_ble_eq_true rfl) rfl (gX6_readCarton_0 N S)
-- X6_readBelt
def fX6_readBelt_63b (N : Nat) (k63 : zb_S → Option (Int32 × zb_S)) (S : zb_S) : Option (Int32 × zb_S) :=
  if (zb_i S 21 2) ≤ (zb_i S 21 3) then
    some ((-9), S)
  else
    zb_bind (fX6_readCarton N S) (fun r2 S1 =>
    if r2 = 0 then
      some (zb_i S1 21 3, S1)
    else
      k63 S1)
set_option maxHeartbeats 4000000 in
set_option maxRecDepth 100000 in
theorem gX6_readBelt_63b {l : Launch} {G : zb_G} (N : Nat) (k63 : zb_S → Option (Int32 × zb_S)) (hk63 : ∀ (S : zb_S), zb_Go zb_eI l G 3 RX6 cX6_readBelt 2 (some .int) 63 [(0, .ref (zb_ad G 21))] [] S (k63 S)) (S : zb_S) : zb_Go zb_eI l G 3 RX6 cX6_readBelt 2 (some .int) 63 [(0, .ref (zb_ad G 21))] [] S (fX6_readBelt_63b N k63 S) := by
  unfold fX6_readBelt_63b
  refine zg_aload_n 0 dX6_readBelt_63 rfl rfl ?_
  refine zq_X6_3 rfl zw_167 dX6_readBelt_64 ?_
  refine zg_aload_n 0 dX6_readBelt_67 rfl rfl ?_
  refine zq_X6_2 rfl zw_116 dX6_readBelt_68 ?_
  refine zg_icmp_ge 86 dX6_readBelt_71 (by decide) ?_ ?_
  · refine zg_bipush (v := (-9)) dX6_readBelt_86 (by decide) ?_
    exact zg_iret rfl dX6_readBelt_88
  · refine zg_aload_n 0 dX6_readBelt_74 rfl rfl ?_
    refine zg_callVI (As := []) (rest := []) 0 (zcX6_readCarton N S) (by decide) (by decide) rfl (by decide) rfl zw_179 zw_180 zw_181 zw_5 zw_182 (by decide +kernel) rfl rfl (Nat.le_of_ble_eq_true rfl) dX6_readBelt_75 (fun r2 S1 => ?_)
    refine zg_if_ne 63 dX6_readBelt_78 (by decide) ?_ ?_
    · exact hk63 S1
    · refine zg_aload_n 0 dX6_readBelt_81 rfl rfl ?_
      refine zq_X6_3 rfl zw_167 dX6_readBelt_82 ?_
      exact zg_iret rfl dX6_readBelt_85
def fX6_readBelt_63 (N : Nat) : Nat → zb_S → Option (Int32 × zb_S)
  | 0, _ => none
  | n + 1, S => fX6_readBelt_63b N (fX6_readBelt_63 N n) S
set_option maxHeartbeats 4000000 in
set_option maxRecDepth 100000 in
theorem gX6_readBelt_63 {l : Launch} {G : zb_G} (N : Nat) : ∀ (n : Nat) (S : zb_S), zb_Go zb_eI l G 3 RX6 cX6_readBelt 2 (some .int) 63 [(0, .ref (zb_ad G 21))] [] S (fX6_readBelt_63 N n S) := by
  intro n
  induction n with
  | zero => intros; exact zg_none
  | succ n ih =>
    intro S
    exact gX6_readBelt_63b N (fX6_readBelt_63 N n) ih S
def fX6_readBelt_7b (N : Nat) (k7 : zb_S → Int32 → Option (Int32 × zb_S)) (S : zb_S) (l1 : Int32) : Option (Int32 × zb_S) :=
  if 79 ≤ l1 then
    if (zb_i S 21 2) = 0 then
      some (0, S)
    else
      if zb_in 0 (zb_sz 22) then
      if (zb_a S 22 (Int32.toNatClampNeg 0)) = 90 then
        zb_let (zb_pi S 21 3 1) (fun S1 : zb_S =>
        zb_bind (fX6_readHead N S1) (fun r3 S2 =>
        if r3 = 0 then
          some (zb_i S2 21 3, S2)
        else
          fX6_readBelt_63 N N S2))
      else
        some (0, S) else none
  else
    if zb_in l1 (zb_sz 23) then zb_let (zb_pa S 23 (Int32.toNatClampNeg l1) 0) (fun S4 : zb_S =>
    zb_let (l1 + 1) (fun x5 : Int32 =>
    k7 S4 x5)) else none
set_option maxHeartbeats 4000000 in
set_option maxRecDepth 100000 in
theorem gX6_readBelt_7b {l : Launch} {G : zb_G} (N : Nat) (k7 : zb_S → Int32 → Option (Int32 × zb_S)) (hk7 : ∀ (S : zb_S) (l1 : Int32), zb_Go zb_eI l G 3 RX6 cX6_readBelt 2 (some .int) 7 [(0, .ref (zb_ad G 21)), (1, .int l1)] [] S (k7 S l1)) (S : zb_S) (l1 : Int32) : zb_Go zb_eI l G 3 RX6 cX6_readBelt 2 (some .int) 7 [(0, .ref (zb_ad G 21)), (1, .int l1)] [] S (fX6_readBelt_7b N k7 S l1) := by
  unfold fX6_readBelt_7b
  refine zg_iload_n 1 dX6_readBelt_7 rfl rfl ?_
  refine zg_bipush (v := 79) dX6_readBelt_8 (by decide) ?_
  refine zg_icmp_ge 26 dX6_readBelt_10 (by decide) ?_ ?_
  · refine zg_aload_n 0 dX6_readBelt_26 rfl rfl ?_
    refine zq_X6_2 rfl zw_116 dX6_readBelt_27 ?_
    refine zg_if_eq 44 dX6_readBelt_30 (by decide) ?_ ?_
    · refine zg_iconst (v := 0) dX6_readBelt_44 (by decide) ?_
      exact zg_iret rfl dX6_readBelt_45
    · refine zg_aload_n 0 dX6_readBelt_33 rfl rfl ?_
      refine zq_X6_1 rfl rfl zw_88 dX6_readBelt_34 ?_
      refine zg_iconst (v := 0) dX6_readBelt_37 (by decide) ?_
      refine zg_iald rfl dX6_readBelt_38 ?_
      refine zg_bipush (v := 90) dX6_readBelt_39 (by decide) ?_
      refine zg_icmp_eq 46 dX6_readBelt_41 (by decide) ?_ ?_
      · refine zg_aload_n 0 dX6_readBelt_46 rfl rfl ?_
        refine zg_iconst (v := 1) dX6_readBelt_47 (by decide) ?_
        refine zp_X6_3 rfl zw_167 dX6_readBelt_48 (fun S1 => ?_)
        refine zg_aload_n 0 dX6_readBelt_51 rfl rfl ?_
        refine zg_callVI (As := []) (rest := []) 0 (zcX6_readHead N S1) (by decide) (by decide) rfl (by decide) rfl zw_168 zw_169 zw_170 zw_5 zw_171 (by decide +kernel) rfl rfl (Nat.le_of_ble_eq_true rfl) dX6_readBelt_52 (fun r3 S2 => ?_)
        refine zg_if_ne 63 dX6_readBelt_55 (by decide) ?_ ?_
        · refine zg_sub [0] rfl ?_
          exact gX6_readBelt_63 N N S2
        · refine zg_aload_n 0 dX6_readBelt_58 rfl rfl ?_
          refine zq_X6_3 rfl zw_167 dX6_readBelt_59 ?_
          exact zg_iret rfl dX6_readBelt_62
      · refine zg_iconst (v := 0) dX6_readBelt_44 (by decide) ?_
        exact zg_iret rfl dX6_readBelt_45
  · refine zg_aload_n 0 dX6_readBelt_13 rfl rfl ?_
    refine zq_X6_10 rfl rfl zw_91 dX6_readBelt_14 ?_
    refine zg_iload_n 1 dX6_readBelt_17 rfl rfl ?_
    refine zg_iconst (v := 0) dX6_readBelt_18 (by decide) ?_
    refine zg_iast rfl dX6_readBelt_19 (fun S4 => ?_)
    refine zg_iincL (fun x5 => [(1, .int x5), (0, .ref (zb_ad G 21))]) 1 dX6_readBelt_20 rfl rfl (by decide) (fun _ => rfl) (fun x5 => ?_)
    refine zg_goto (tgt := 7) dX6_readBelt_23 (by decide) ?_
    refine zg_sub [1, 0] rfl ?_
    exact hk7 S4 x5
def fX6_readBelt_7 (N : Nat) : Nat → zb_S → Int32 → Option (Int32 × zb_S)
  | 0, _, _ => none
  | n + 1, S, l1 => fX6_readBelt_7b N (fX6_readBelt_7 N n) S l1
set_option maxHeartbeats 4000000 in
set_option maxRecDepth 100000 in
theorem gX6_readBelt_7 {l : Launch} {G : zb_G} (N : Nat) : ∀ (n : Nat) (S : zb_S) (l1 : Int32), zb_Go zb_eI l G 3 RX6 cX6_readBelt 2 (some .int) 7 [(0, .ref (zb_ad G 21)), (1, .int l1)] [] S (fX6_readBelt_7 N n S l1) := by
  intro n
  induction n with
  | zero => intros; exact zg_none
  | succ n ih =>
    intro S l1
    exact gX6_readBelt_7b N (fX6_readBelt_7 N n) ih S l1
def fX6_readBelt_0 (N : Nat) (S : zb_S) : Option (Int32 × zb_S) :=
  zb_let (zb_pi S 21 3 0) (fun S1 : zb_S =>
  fX6_readBelt_7 N N S1 0)
set_option maxHeartbeats 4000000 in
set_option maxRecDepth 100000 in
theorem gX6_readBelt_0 {l : Launch} {G : zb_G} (N : Nat) (S : zb_S) : zb_Go zb_eI l G 3 RX6 cX6_readBelt 2 (some .int) 0 [(0, .ref (zb_ad G 21))] [] S (fX6_readBelt_0 N S) := by
  unfold fX6_readBelt_0
  refine zg_aload_n 0 dX6_readBelt_0 rfl rfl ?_
  refine zg_iconst (v := 0) dX6_readBelt_1 (by decide) ?_
  refine zp_X6_3 rfl zw_167 dX6_readBelt_2 (fun S1 => ?_)
  refine zg_iconst (v := 0) dX6_readBelt_5 (by decide) ?_
  refine zg_istore_n (lv' := [(1, .int 0), (0, .ref (zb_ad G 21))]) dX6_readBelt_6 rfl (by decide) rfl ?_
  refine zg_sub [1, 0] rfl ?_
  exact gX6_readBelt_7 N N S1 0
def fX6_readBelt (N : Nat) (S : zb_S) : Option (Int32 × zb_S) := fX6_readBelt_0 N S
theorem zcX6_readBelt {l : Launch} {G : zb_G} (N : Nat) (S : zb_S) : zb_C zb_eI l G 3 yX6_readBelt cX6_readBelt 2 (some .int) [.ref (zb_ad G 21)] S (fX6_readBelt N S) :=
  zb_C.of (by decide +kernel) rfl (Nat.le_of_ble_eq_true rfl) rfl (gX6_readBelt_0 N S)
-- X6_fault
def fX6_fault_0 (N : Nat) (S : zb_S) : Option (Int32 × zb_S) :=
  zb_let (zb_pi S 21 0 0) (fun S1 : zb_S =>
  zb_bind (fX6_readBelt N S1) (fun r3 S2 =>
  some (r3, S2)))
set_option maxHeartbeats 4000000 in
set_option maxRecDepth 100000 in
theorem gX6_fault_0 {l : Launch} {G : zb_G} (N : Nat) (S : zb_S) : zb_Go zb_eI l G 4 RX6 cX6_fault 1 (some .int) 0 [(0, .ref (zb_ad G 21))] [] S (fX6_fault_0 N S) := by
  unfold fX6_fault_0
  refine zg_aload_n 0 dX6_fault_0 rfl rfl ?_
  refine zg_iconst (v := 0) dX6_fault_1 (by decide) ?_
  refine zp_X6_0 rfl zw_114 dX6_fault_2 (fun S1 => ?_)
  refine zg_aload_n 0 dX6_fault_5 rfl rfl ?_
  refine zg_callVI (As := []) (rest := []) 0 (zcX6_readBelt N S1) (by decide) (by decide) rfl (by decide) rfl zw_163 zw_164 zw_165 zw_5 zw_166 (by decide +kernel) rfl rfl (Nat.le_of_ble_eq_true rfl) dX6_fault_6 (fun r3 S2 => ?_)
  exact zg_iret rfl dX6_fault_9
def fX6_fault (N : Nat) (S : zb_S) : Option (Int32 × zb_S) := fX6_fault_0 N S
theorem zcX6_fault {l : Launch} {G : zb_G} (N : Nat) (S : zb_S) : zb_C zb_eI l G 4 yX6_fault cX6_fault 1 (some .int) [.ref (zb_ad G 21)] S (fX6_fault N S) :=
  zb_C.of (by decide +kernel) rfl (Nat.le_of_ble_eq_true rfl) rfl (gX6_fault_0 N S)
-- X6_belt
def fX6_belt_43b (N : Nat) (k43 : zb_S → Int32 → Option (Int32 × zb_S)) (S : zb_S) (l1 : Int32) : Option (Int32 × zb_S) :=
  if 79 ≤ l1 then
    if zb_in 72 (zb_sz 24) then zb_let (zb_pa S 24 (Int32.toNatClampNeg 72) 1) (fun S1 : zb_S =>
    zb_let (zb_pi S1 21 14 0) (fun S2 : zb_S =>
    if zb_in 0 (zb_sz 28) then zb_let (zb_pa S2 28 (Int32.toNatClampNeg 0) (vp_nar .boolean 0)) (fun S3 : zb_S =>
    if zb_in 1 (zb_sz 28) then zb_let (zb_pa S3 28 (Int32.toNatClampNeg 1) (vp_nar .boolean 0)) (fun S4 : zb_S =>
    zb_bind (fX6_zones N S4) (fun r6 S5 =>
    some (r6, S5))) else none) else none)) else none
  else
    if zb_in l1 (zb_sz 23) then
    if zb_in l1 (zb_sz 24) then zb_let (zb_pa S 24 (Int32.toNatClampNeg l1) (zb_a S 23 (Int32.toNatClampNeg l1))) (fun S7 : zb_S =>
    zb_let (l1 + 1) (fun x8 : Int32 =>
    k43 S7 x8)) else none else none
set_option maxHeartbeats 4000000 in
set_option maxRecDepth 100000 in
theorem gX6_belt_43b {l : Launch} {G : zb_G} (N : Nat) (k43 : zb_S → Int32 → Option (Int32 × zb_S)) (hk43 : ∀ (S : zb_S) (l1 : Int32), zb_Go zb_eI l G 4 RX6 cX6_belt 2 (some .int) 43 [(0, .ref (zb_ad G 21)), (1, .int l1)] [] S (k43 S l1)) (S : zb_S) (l1 : Int32) : zb_Go zb_eI l G 4 RX6 cX6_belt 2 (some .int) 43 [(0, .ref (zb_ad G 21)), (1, .int l1)] [] S (fX6_belt_43b N k43 S l1) := by
  unfold fX6_belt_43b
  refine zg_iload_n 1 dX6_belt_43 rfl rfl ?_
  refine zg_bipush (v := 79) dX6_belt_44 (by decide) ?_
  refine zg_icmp_ge 67 dX6_belt_46 (by decide) ?_ ?_
  · refine zg_aload_n 0 dX6_belt_67 rfl rfl ?_
    refine zq_X6_11 rfl rfl zw_92 dX6_belt_68 ?_
    refine zg_bipush (v := 72) dX6_belt_71 (by decide) ?_
    refine zg_iconst (v := 1) dX6_belt_73 (by decide) ?_
    refine zg_iast rfl dX6_belt_74 (fun S1 => ?_)
    refine zg_aload_n 0 dX6_belt_75 rfl rfl ?_
    refine zg_iconst (v := 0) dX6_belt_76 (by decide) ?_
    refine zp_X6_14 rfl zw_219 dX6_belt_77 (fun S2 => ?_)
    refine zg_aload_n 0 dX6_belt_80 rfl rfl ?_
    refine zq_X6_16 rfl rfl zw_97 dX6_belt_81 ?_
    refine zg_iconst (v := 0) dX6_belt_84 (by decide) ?_
    refine zg_iconst (v := 0) dX6_belt_85 (by decide) ?_
    refine zg_zast rfl dX6_belt_86 (fun S3 => ?_)
    refine zg_aload_n 0 dX6_belt_87 rfl rfl ?_
    refine zq_X6_16 rfl rfl zw_97 dX6_belt_88 ?_
    refine zg_iconst (v := 1) dX6_belt_91 (by decide) ?_
    refine zg_iconst (v := 0) dX6_belt_92 (by decide) ?_
    refine zg_zast rfl dX6_belt_93 (fun S4 => ?_)
    refine zg_aload_n 0 dX6_belt_94 rfl rfl ?_
    refine zg_callVI (As := []) (rest := []) 0 (zcX6_zones N S4) (by decide) (by decide) rfl (by decide) rfl zw_220 zw_221 zw_222 zw_5 zw_223 (by decide +kernel) rfl rfl (Nat.le_of_ble_eq_true rfl) dX6_belt_95 (fun r6 S5 => ?_)
    exact zg_iret rfl dX6_belt_98
  · refine zg_aload_n 0 dX6_belt_49 rfl rfl ?_
    refine zq_X6_11 rfl rfl zw_92 dX6_belt_50 ?_
    refine zg_iload_n 1 dX6_belt_53 rfl rfl ?_
    refine zg_aload_n 0 dX6_belt_54 rfl rfl ?_
    refine zq_X6_10 rfl rfl zw_91 dX6_belt_55 ?_
    refine zg_iload_n 1 dX6_belt_58 rfl rfl ?_
    refine zg_iald rfl dX6_belt_59 ?_
    refine zg_iast rfl dX6_belt_60 (fun S7 => ?_)
    refine zg_iincL (fun x8 => [(1, .int x8), (0, .ref (zb_ad G 21))]) 1 dX6_belt_61 rfl rfl (by decide) (fun _ => rfl) (fun x8 => ?_)
    refine zg_goto (tgt := 43) dX6_belt_64 (by decide) ?_
    refine zg_sub [1, 0] rfl ?_
    exact hk43 S7 x8
def fX6_belt_43 (N : Nat) : Nat → zb_S → Int32 → Option (Int32 × zb_S)
  | 0, _, _ => none
  | n + 1, S, l1 => fX6_belt_43b N (fX6_belt_43 N n) S l1
set_option maxHeartbeats 4000000 in
set_option maxRecDepth 100000 in
theorem gX6_belt_43 {l : Launch} {G : zb_G} (N : Nat) : ∀ (n : Nat) (S : zb_S) (l1 : Int32), zb_Go zb_eI l G 4 RX6 cX6_belt 2 (some .int) 43 [(0, .ref (zb_ad G 21)), (1, .int l1)] [] S (fX6_belt_43 N n S l1) := by
  intro n
  induction n with
  | zero => intros; exact zg_none
  | succ n ih =>
    intro S l1
    exact gX6_belt_43b N (fX6_belt_43 N n) ih S l1
def fX6_belt_0 (N : Nat) (S : zb_S) : Option (Int32 × zb_S) :=
  zb_let (zb_pi S 21 0 0) (fun S1 : zb_S =>
  zb_bind (fX6_readBelt N S1) (fun r3 S2 =>
  if r3 = (-9) then
    zb_let (zb_pi S2 21 4 (zb_i S2 21 7)) (fun S4 : zb_S =>
    zb_let (zb_pi S4 21 5 (zb_i S4 21 8)) (fun S5 : zb_S =>
    zb_let (zb_pi S5 21 6 (zb_i S5 21 9)) (fun S6 : zb_S =>
    fX6_belt_43 N N S6 0)))
  else
    some ((-3), S2)))
set_option maxHeartbeats 4000000 in
set_option maxRecDepth 100000 in
theorem gX6_belt_0 {l : Launch} {G : zb_G} (N : Nat) (S : zb_S) : zb_Go zb_eI l G 4 RX6 cX6_belt 2 (some .int) 0 [(0, .ref (zb_ad G 21))] [] S (fX6_belt_0 N S) := by
  unfold fX6_belt_0
  refine zg_aload_n 0 dX6_belt_0 rfl rfl ?_
  refine zg_iconst (v := 0) dX6_belt_1 (by decide) ?_
  refine zp_X6_0 rfl zw_114 dX6_belt_2 (fun S1 => ?_)
  refine zg_aload_n 0 dX6_belt_5 rfl rfl ?_
  refine zg_callVI (As := []) (rest := []) 0 (zcX6_readBelt N S1) (by decide) (by decide) rfl (by decide) rfl zw_163 zw_164 zw_165 zw_5 zw_166 (by decide +kernel) rfl rfl (Nat.le_of_ble_eq_true rfl) dX6_belt_6 (fun r3 S2 => ?_)
  refine zg_bipush (v := (-9)) dX6_belt_9 (by decide) ?_
  refine zg_icmp_eq 17 dX6_belt_11 (by decide) ?_ ?_
  · refine zg_aload_n 0 dX6_belt_17 rfl rfl ?_
    refine zg_aload_n 0 dX6_belt_18 rfl rfl ?_
    refine zq_X6_7 rfl zw_172 dX6_belt_19 ?_
    refine zp_X6_4 rfl zw_89 dX6_belt_22 (fun S4 => ?_)
    refine zg_aload_n 0 dX6_belt_25 rfl rfl ?_
    refine zg_aload_n 0 dX6_belt_26 rfl rfl ?_
    refine zq_X6_8 rfl zw_173 dX6_belt_27 ?_
    refine zp_X6_5 rfl zw_218 dX6_belt_30 (fun S5 => ?_)
    refine zg_aload_n 0 dX6_belt_33 rfl rfl ?_
    refine zg_aload_n 0 dX6_belt_34 rfl rfl ?_
    refine zq_X6_9 rfl zw_174 dX6_belt_35 ?_
    refine zp_X6_6 rfl zw_90 dX6_belt_38 (fun S6 => ?_)
    refine zg_iconst (v := 0) dX6_belt_41 (by decide) ?_
    refine zg_istore_n (lv' := [(1, .int 0), (0, .ref (zb_ad G 21))]) dX6_belt_42 rfl (by decide) rfl ?_
    refine zg_sub [1, 0] rfl ?_
    exact gX6_belt_43 N N S6 0
  · refine zg_bipush (v := (-3)) dX6_belt_14 (by decide) ?_
    exact zg_iret rfl dX6_belt_16
def fX6_belt (N : Nat) (S : zb_S) : Option (Int32 × zb_S) := fX6_belt_0 N S
theorem zcX6_belt {l : Launch} {G : zb_G} (N : Nat) (S : zb_S) : zb_C zb_eI l G 4 yX6_belt cX6_belt 2 (some .int) [.ref (zb_ad G 21)] S (fX6_belt N S) :=
  zb_C.of (by decide +kernel) rfl (Nat.le_of_ble_eq_true rfl) rfl (gX6_belt_0 N S)
-- X6_behind
def fX6_behind_0 (N : Nat) (S : zb_S) (a1 : Int32) : Option (Int32 × zb_S) :=
  if a1 = ((zb_i S 21 4) - 1) then
    some (99, S)
  else
    zb_bind (fX6_zones N S) (fun r2 S1 =>
    if a1 = (r2 - 1) then
      some (zb_i S1 21 6, S1)
    else
      some (a1 + 1, S1))
set_option maxHeartbeats 4000000 in
set_option maxRecDepth 100000 in
theorem gX6_behind_0 {l : Launch} {G : zb_G} (N : Nat) (S : zb_S) (a1 : Int32) : zb_Go zb_eI l G 1 RX6 cX6_behind 2 (some .int) 0 [(0, .ref (zb_ad G 21)), (1, .int a1)] [] S (fX6_behind_0 N S a1) := by
  unfold fX6_behind_0
  refine zg_iload_n 1 dX6_behind_0 rfl rfl ?_
  refine zg_aload_n 0 dX6_behind_1 rfl rfl ?_
  refine zq_X6_4 rfl zw_89 dX6_behind_2 ?_
  refine zg_iconst (v := 1) dX6_behind_5 (by decide) ?_
  refine zg_isub dX6_behind_6 ?_
  refine zg_icmp_ne 15 dX6_behind_7 (by decide) ?_ ?_
  · refine zg_iload_n 1 dX6_behind_15 rfl rfl ?_
    refine zg_aload_n 0 dX6_behind_16 rfl rfl ?_
    refine zg_callVI (As := []) (rest := [.int a1]) 0 (zcX6_zones N S) (by decide) (by decide) rfl (by decide) rfl zw_220 zw_221 zw_222 zw_5 zw_223 (by decide +kernel) rfl rfl (Nat.le_of_ble_eq_true rfl) dX6_behind_17 (fun r2 S1 => ?_)
    refine zg_iconst (v := 1) dX6_behind_20 (by decide) ?_
    refine zg_isub dX6_behind_21 ?_
    refine zg_icmp_ne 32 dX6_behind_22 (by decide) ?_ ?_
    · refine zg_iload_n 1 dX6_behind_32 rfl rfl ?_
      refine zg_iconst (v := 1) dX6_behind_33 (by decide) ?_
      refine zg_iadd dX6_behind_34 ?_
      exact zg_iret rfl dX6_behind_35
    · refine zg_aload_n 0 dX6_behind_25 rfl rfl ?_
      refine zq_X6_6 rfl zw_90 dX6_behind_26 ?_
      refine zg_goto (tgt := 35) dX6_behind_29 (by decide) ?_
      exact zg_iret rfl dX6_behind_35
  · refine zg_bipush (v := 99) dX6_behind_10 (by decide) ?_
    refine zg_goto (tgt := 35) dX6_behind_12 (by decide) ?_
    exact zg_iret rfl dX6_behind_35
def fX6_behind (N : Nat) (S : zb_S) (a1 : Int32) : Option (Int32 × zb_S) := fX6_behind_0 N S a1
theorem zcX6_behind {l : Launch} {G : zb_G} (N : Nat) (S : zb_S) (a1 : Int32) : zb_C zb_eI l G 1 yX6_behind cX6_behind 2 (some .int) [.ref (zb_ad G 21), .int a1] S (fX6_behind N S a1) :=
  zb_C.of (by decide +kernel) rfl (Nat.le_of_ble_eq_true rfl) rfl (gX6_behind_0 N S a1)
-- X6_seesAt
def fX6_seesAt_29 (N : Nat) (b0 : Nat) (S : zb_S) : Option (Int32 × zb_S) :=
  if (1 : Int32) = 0 ∨ (1 : Int32) = 1 then some (1, S) else none
set_option maxHeartbeats 4000000 in
set_option maxRecDepth 100000 in
theorem gX6_seesAt_29 {l : Launch} {G : zb_G} (N : Nat) (b0 : Nat) (h0 : zb_kd b0 = 7) (S : zb_S) : zb_Go zb_eI l G 0 RX6 cX6_seesAt 3 (some .boolean) 29 [] [] S (fX6_seesAt_29 N b0 S) := by
  unfold fX6_seesAt_29
  refine zg_iconst (v := 1) dX6_seesAt_29 (by decide) ?_
  refine zg_goto (tgt := 34) dX6_seesAt_30 (by decide) ?_
  exact zg_zret rfl dX6_seesAt_34
def fX6_seesAt_0 (N : Nat) (b0 : Nat) (S : zb_S) (a1 : Int32) : Option (Int32 × zb_S) :=
  if zb_in ((6 * a1) + 1) (zb_sz b0) then
  zb_let (zb_a S b0 (Int32.toNatClampNeg ((6 * a1) + 1))) (fun x1 : Int32 =>
  if x1 = 2 then
    fX6_seesAt_29 N b0 S
  else
    if x1 = 0 then
      if zb_in ((6 * a1) + 0) (zb_sz b0) then
      if (zb_a S b0 (Int32.toNatClampNeg ((6 * a1) + 0))) ≤ 0 then
        if (0 : Int32) = 0 ∨ (0 : Int32) = 1 then some (0, S) else none
      else
        fX6_seesAt_29 N b0 S else none
    else
      if (0 : Int32) = 0 ∨ (0 : Int32) = 1 then some (0, S) else none) else none
set_option maxHeartbeats 4000000 in
set_option maxRecDepth 100000 in
theorem gX6_seesAt_0 {l : Launch} {G : zb_G} (N : Nat) (b0 : Nat) (h0 : zb_kd b0 = 7) (S : zb_S) (a1 : Int32) : zb_Go zb_eI l G 0 RX6 cX6_seesAt 3 (some .boolean) 0 [(0, .ref (zb_ad G b0)), (1, .int a1)] [] S (fX6_seesAt_0 N b0 S a1) := by
  unfold fX6_seesAt_0
  refine zg_aload_n 0 dX6_seesAt_0 rfl rfl ?_
  refine zg_bipush (v := 6) dX6_seesAt_1 (by decide) ?_
  refine zg_iload_n 1 dX6_seesAt_3 rfl rfl ?_
  refine zg_imul dX6_seesAt_4 ?_
  refine zg_iconst (v := 1) dX6_seesAt_5 (by decide) ?_
  refine zg_iadd dX6_seesAt_6 ?_
  refine zg_iald h0 dX6_seesAt_7 ?_
  refine zg_istore_nL (fun x1 => [(2, .int x1), (0, .ref (zb_ad G b0)), (1, .int a1)]) dX6_seesAt_8 rfl (by decide) (fun _ => rfl) (fun x1 => ?_)
  refine zg_iload_n 0 dX6_seesAt_9 rfl rfl ?_
  refine zg_iconst (v := 2) dX6_seesAt_10 (by decide) ?_
  refine zg_icmp_eq 29 dX6_seesAt_11 (by decide) ?_ ?_
  · refine zg_sub [] rfl ?_
    exact gX6_seesAt_29 N b0 h0 S
  · refine zg_iload_n 0 dX6_seesAt_14 rfl rfl ?_
    refine zg_if_ne 33 dX6_seesAt_15 (by decide) ?_ ?_
    · refine zg_iconst (v := 0) dX6_seesAt_33 (by decide) ?_
      exact zg_zret rfl dX6_seesAt_34
    · refine zg_aload_n 1 dX6_seesAt_18 rfl rfl ?_
      refine zg_bipush (v := 6) dX6_seesAt_19 (by decide) ?_
      refine zg_iload_n 2 dX6_seesAt_21 rfl rfl ?_
      refine zg_imul dX6_seesAt_22 ?_
      refine zg_iconst (v := 0) dX6_seesAt_23 (by decide) ?_
      refine zg_iadd dX6_seesAt_24 ?_
      refine zg_iald h0 dX6_seesAt_25 ?_
      refine zg_if_le 33 dX6_seesAt_26 (by decide) ?_ ?_
      · refine zg_iconst (v := 0) dX6_seesAt_33 (by decide) ?_
        exact zg_zret rfl dX6_seesAt_34
      · refine zg_sub [] rfl ?_
        exact gX6_seesAt_29 N b0 h0 S
def fX6_seesAt (N : Nat) (b0 : Nat) (S : zb_S) (a1 : Int32) : Option (Int32 × zb_S) := fX6_seesAt_0 N b0 S a1
theorem zcX6_seesAt {l : Launch} {G : zb_G} (N : Nat) (b0 : Nat) (h0 : zb_kd b0 = 7) (S : zb_S) (a1 : Int32) : zb_C zb_eI l G 0 yX6_seesAt cX6_seesAt 3 (some .boolean) [.ref (zb_ad G b0), .int a1] S (fX6_seesAt N b0 S a1) :=
  zb_C.of (by decide +kernel) rfl (Nat.le_of_ble_eq_true rfl) rfl (gX6_seesAt_0 N b0 h0 S a1)
-- X6_allThatSee
def fX6_allThatSee_28 (N : Nat) (b1 : Nat) (k4 : zb_S → Int32 → Int32 → Option (Int32 × zb_S)) (S : zb_S) (l3 : Int32) (s0 : Int32) (s1 : Int32) : Option (Int32 × zb_S) :=
  zb_let (s1 ||| s0) (fun x1 : Int32 =>
  zb_let (l3 + 1) (fun x2 : Int32 =>
  k4 S x1 x2))
set_option maxHeartbeats 4000000 in
set_option maxRecDepth 100000 in
theorem gX6_allThatSee_28 {l : Launch} {G : zb_G} (N : Nat) (b1 : Nat) (h1 : zb_kd b1 = 7) (k4 : zb_S → Int32 → Int32 → Option (Int32 × zb_S)) (hk4 : ∀ (S : zb_S) (l2 : Int32) (l3 : Int32), zb_Go zb_eI l G 1 RX6 cX6_allThatSee 4 (some .int) 4 [(0, .ref (zb_ad G 21)), (1, .ref (zb_ad G b1)), (2, .int l2), (3, .int l3)] [] S (k4 S l2 l3)) (S : zb_S) (l3 : Int32) (s0 : Int32) (s1 : Int32) : zb_Go zb_eI l G 1 RX6 cX6_allThatSee 4 (some .int) 28 [(0, .ref (zb_ad G 21)), (1, .ref (zb_ad G b1)), (3, .int l3)] [.int s0, .int s1] S (fX6_allThatSee_28 N b1 k4 S l3 s0 s1) := by
  unfold fX6_allThatSee_28
  refine zg_ior dX6_allThatSee_28 ?_
  refine zg_istore_nL (fun x1 => [(2, .int x1), (0, .ref (zb_ad G 21)), (1, .ref (zb_ad G b1)), (3, .int l3)]) dX6_allThatSee_29 rfl (by decide) (fun _ => rfl) (fun x1 => ?_)
  refine zg_iincL (fun x2 => [(3, .int x2), (2, .int x1), (0, .ref (zb_ad G 21)), (1, .ref (zb_ad G b1))]) 3 dX6_allThatSee_30 rfl rfl (by decide) (fun _ => rfl) (fun x2 => ?_)
  refine zg_goto (tgt := 4) dX6_allThatSee_33 (by decide) ?_
  refine zg_sub [2, 3, 1, 0] rfl ?_
  exact hk4 S x1 x2
def fX6_allThatSee_4b (N : Nat) (b1 : Nat) (k4 : zb_S → Int32 → Int32 → Option (Int32 × zb_S)) (S : zb_S) (l2 : Int32) (l3 : Int32) : Option (Int32 × zb_S) :=
  zb_bind (fX6_zones N S) (fun r2 S1 =>
  if r2 ≤ l3 then
    some (l2, S1)
  else
    zb_bind (fX6_seesAt N b1 S1 l3) (fun r4 S3 =>
    if r4 = 0 then
      fX6_allThatSee_28 N b1 k4 S3 l3 0 l2
    else
      fX6_allThatSee_28 N b1 k4 S3 l3 ((1 : Int32) <<< (l3 &&& 31)) l2))
set_option maxHeartbeats 4000000 in
set_option maxRecDepth 100000 in
theorem gX6_allThatSee_4b {l : Launch} {G : zb_G} (N : Nat) (b1 : Nat) (h1 : zb_kd b1 = 7) (k4 : zb_S → Int32 → Int32 → Option (Int32 × zb_S)) (hk4 : ∀ (S : zb_S) (l2 : Int32) (l3 : Int32), zb_Go zb_eI l G 1 RX6 cX6_allThatSee 4 (some .int) 4 [(0, .ref (zb_ad G 21)), (1, .ref (zb_ad G b1)), (2, .int l2), (3, .int l3)] [] S (k4 S l2 l3)) (S : zb_S) (l2 : Int32) (l3 : Int32) : zb_Go zb_eI l G 1 RX6 cX6_allThatSee 4 (some .int) 4 [(0, .ref (zb_ad G 21)), (1, .ref (zb_ad G b1)), (2, .int l2), (3, .int l3)] [] S (fX6_allThatSee_4b N b1 k4 S l2 l3) := by
  unfold fX6_allThatSee_4b
  refine zg_iload_n 3 dX6_allThatSee_4 rfl rfl ?_
  refine zg_aload_n 0 dX6_allThatSee_5 rfl rfl ?_
  refine zg_callVI (As := []) (rest := [.int l3]) 0 (zcX6_zones N S) (by decide) (by decide) rfl (by decide) rfl zw_220 zw_221 zw_222 zw_5 zw_223 (by decide +kernel) rfl rfl (Nat.le_of_ble_eq_true rfl) dX6_allThatSee_6 (fun r2 S1 => ?_)
  refine zg_icmp_ge 36 dX6_allThatSee_9 (by decide) ?_ ?_
  · refine zg_iload_n 2 dX6_allThatSee_36 rfl rfl ?_
    exact zg_iret rfl dX6_allThatSee_37
  · refine zg_iload_n 2 dX6_allThatSee_12 rfl rfl ?_
    refine zg_aload_n 1 dX6_allThatSee_13 rfl rfl ?_
    refine zg_iload_n 3 dX6_allThatSee_14 rfl rfl ?_
    refine zg_callSI (As := [.ref (zb_ad G b1), .int l3]) (rest := [.int l2]) 2 (zcX6_seesAt N b1 h1 S1 l3) (by decide) (by decide) zw_261 zw_262 zw_5 zw_263 (by decide +kernel) rfl rfl (Nat.le_of_ble_eq_true rfl) dX6_allThatSee_15 (fun r4 S3 => ?_)
    refine zg_if_eq 27 dX6_allThatSee_18 (by decide) ?_ ?_
    · refine zg_iconst (v := 0) dX6_allThatSee_27 (by decide) ?_
      refine zg_sub [0, 1, 3] rfl ?_
      exact gX6_allThatSee_28 N b1 h1 k4 hk4 S3 l3 0 l2
    · refine zg_iconst (v := 1) dX6_allThatSee_21 (by decide) ?_
      refine zg_iload_n 3 dX6_allThatSee_22 rfl rfl ?_
      refine zg_ishl dX6_allThatSee_23 ?_
      refine zg_goto (tgt := 28) dX6_allThatSee_24 (by decide) ?_
      refine zg_sub [0, 1, 3] rfl ?_
      exact gX6_allThatSee_28 N b1 h1 k4 hk4 S3 l3 ((1 : Int32) <<< (l3 &&& 31)) l2
def fX6_allThatSee_4 (N : Nat) (b1 : Nat) : Nat → zb_S → Int32 → Int32 → Option (Int32 × zb_S)
  | 0, _, _, _ => none
  | n + 1, S, l2, l3 => fX6_allThatSee_4b N b1 (fX6_allThatSee_4 N b1 n) S l2 l3
set_option maxHeartbeats 4000000 in
set_option maxRecDepth 100000 in
theorem gX6_allThatSee_4 {l : Launch} {G : zb_G} (N : Nat) (b1 : Nat) (h1 : zb_kd b1 = 7) : ∀ (n : Nat) (S : zb_S) (l2 : Int32) (l3 : Int32), zb_Go zb_eI l G 1 RX6 cX6_allThatSee 4 (some .int) 4 [(0, .ref (zb_ad G 21)), (1, .ref (zb_ad G b1)), (2, .int l2), (3, .int l3)] [] S (fX6_allThatSee_4 N b1 n S l2 l3) := by
  intro n
  induction n with
  | zero => intros; exact zg_none
  | succ n ih =>
    intro S l2 l3
    exact gX6_allThatSee_4b N b1 h1 (fX6_allThatSee_4 N b1 n) ih S l2 l3
def fX6_allThatSee_0 (N : Nat) (b1 : Nat) (S : zb_S) : Option (Int32 × zb_S) :=
  fX6_allThatSee_4 N b1 N S 0 0
set_option maxHeartbeats 4000000 in
set_option maxRecDepth 100000 in
theorem gX6_allThatSee_0 {l : Launch} {G : zb_G} (N : Nat) (b1 : Nat) (h1 : zb_kd b1 = 7) (S : zb_S) : zb_Go zb_eI l G 1 RX6 cX6_allThatSee 4 (some .int) 0 [(0, .ref (zb_ad G 21)), (1, .ref (zb_ad G b1))] [] S (fX6_allThatSee_0 N b1 S) := by
  unfold fX6_allThatSee_0
  refine zg_iconst (v := 0) dX6_allThatSee_0 (by decide) ?_
  refine zg_istore_n (lv' := [(2, .int 0), (0, .ref (zb_ad G 21)), (1, .ref (zb_ad G b1))]) dX6_allThatSee_1 rfl (by decide) rfl ?_
  refine zg_iconst (v := 0) dX6_allThatSee_2 (by decide) ?_
  refine zg_istore_n (lv' := [(3, .int 0), (2, .int 0), (0, .ref (zb_ad G 21)), (1, .ref (zb_ad G b1))]) dX6_allThatSee_3 rfl (by decide) rfl ?_
  refine zg_sub [2, 3, 1, 0] rfl ?_
  exact gX6_allThatSee_4 N b1 h1 N S 0 0
def fX6_allThatSee (N : Nat) (b1 : Nat) (S : zb_S) : Option (Int32 × zb_S) := fX6_allThatSee_0 N b1 S
theorem zcX6_allThatSee {l : Launch} {G : zb_G} (N : Nat) (b1 : Nat) (h1 : zb_kd b1 = 7) (S : zb_S) : zb_C zb_eI l G 1 yX6_allThatSee cX6_allThatSee 4 (some .int) [.ref (zb_ad G 21), .ref (zb_ad G b1)] S (fX6_allThatSee N b1 S) :=
  zb_C.of (by decide +kernel) rfl (Nat.le_of_ble_eq_true rfl) rfl (gX6_allThatSee_0 N b1 h1 S)
-- X6_wakeOn
def fX6_wakeOn_118 (N : Nat) (b1 : Nat) (k21 : zb_S → Int32 → Option (Unit × zb_S)) (S : zb_S) (l2 : Int32) : Option (Unit × zb_S) :=
  zb_let (l2 + 1) (fun x1 : Int32 =>
  k21 S x1)
set_option maxHeartbeats 4000000 in
set_option maxRecDepth 100000 in
theorem gX6_wakeOn_118 {l : Launch} {G : zb_G} (N : Nat) (b1 : Nat) (h1 : zb_kd b1 = 7) (k21 : zb_S → Int32 → Option (Unit × zb_S)) (hk21 : ∀ (S : zb_S) (l2 : Int32), zb_Go zb_eV l G 2 RX6 cX6_wakeOn 4 none 21 [(0, .ref (zb_ad G 21)), (1, .ref (zb_ad G b1)), (2, .int l2)] [] S (k21 S l2)) (S : zb_S) (l2 : Int32) : zb_Go zb_eV l G 2 RX6 cX6_wakeOn 4 none 118 [(0, .ref (zb_ad G 21)), (1, .ref (zb_ad G b1)), (2, .int l2)] [] S (fX6_wakeOn_118 N b1 k21 S l2) := by
  unfold fX6_wakeOn_118
  refine zg_iincL (fun x1 => [(2, .int x1), (0, .ref (zb_ad G 21)), (1, .ref (zb_ad G b1))]) 2 dX6_wakeOn_118 rfl rfl (by decide) (fun _ => rfl) (fun x1 => ?_)
  refine zg_goto (tgt := 21) dX6_wakeOn_121 (by decide) ?_
  refine zg_sub [1, 2, 0] rfl ?_
  exact hk21 S x1
def fX6_wakeOn_114 (N : Nat) (b1 : Nat) (k21 : zb_S → Int32 → Option (Unit × zb_S)) (S : zb_S) (l2 : Int32) (s0 : Int32) (s1 : Int32) : Option (Unit × zb_S) :=
  zb_let (zb_pi S 21 23 (s1 ||| s0)) (fun S1 : zb_S =>
  fX6_wakeOn_118 N b1 k21 S1 l2)
set_option maxHeartbeats 4000000 in
set_option maxRecDepth 100000 in
theorem gX6_wakeOn_114 {l : Launch} {G : zb_G} (N : Nat) (b1 : Nat) (h1 : zb_kd b1 = 7) (k21 : zb_S → Int32 → Option (Unit × zb_S)) (hk21 : ∀ (S : zb_S) (l2 : Int32), zb_Go zb_eV l G 2 RX6 cX6_wakeOn 4 none 21 [(0, .ref (zb_ad G 21)), (1, .ref (zb_ad G b1)), (2, .int l2)] [] S (k21 S l2)) (S : zb_S) (l2 : Int32) (s0 : Int32) (s1 : Int32) : zb_Go zb_eV l G 2 RX6 cX6_wakeOn 4 none 114 [(0, .ref (zb_ad G 21)), (1, .ref (zb_ad G b1)), (2, .int l2)] [.int s0, .int s1, .ref (zb_ad G 21)] S (fX6_wakeOn_114 N b1 k21 S l2 s0 s1) := by
  unfold fX6_wakeOn_114
  refine zg_ior dX6_wakeOn_114 ?_
  refine zp_X6_23 rfl zw_479 dX6_wakeOn_115 (fun S1 => ?_)
  exact gX6_wakeOn_118 N b1 h1 k21 hk21 S1 l2
def fX6_wakeOn_113 (N : Nat) (b1 : Nat) (k21 : zb_S → Int32 → Option (Unit × zb_S)) (S : zb_S) (l2 : Int32) (s0 : Int32) : Option (Unit × zb_S) :=
  fX6_wakeOn_114 N b1 k21 S l2 0 s0
set_option maxHeartbeats 4000000 in
set_option maxRecDepth 100000 in
theorem gX6_wakeOn_113 {l : Launch} {G : zb_G} (N : Nat) (b1 : Nat) (h1 : zb_kd b1 = 7) (k21 : zb_S → Int32 → Option (Unit × zb_S)) (hk21 : ∀ (S : zb_S) (l2 : Int32), zb_Go zb_eV l G 2 RX6 cX6_wakeOn 4 none 21 [(0, .ref (zb_ad G 21)), (1, .ref (zb_ad G b1)), (2, .int l2)] [] S (k21 S l2)) (S : zb_S) (l2 : Int32) (s0 : Int32) : zb_Go zb_eV l G 2 RX6 cX6_wakeOn 4 none 113 [(0, .ref (zb_ad G 21)), (1, .ref (zb_ad G b1)), (2, .int l2)] [.int s0, .ref (zb_ad G 21)] S (fX6_wakeOn_113 N b1 k21 S l2 s0) := by
  unfold fX6_wakeOn_113
  refine zg_iconst (v := 0) dX6_wakeOn_113 (by decide) ?_
  exact gX6_wakeOn_114 N b1 h1 k21 hk21 S l2 0 s0
def fX6_wakeOn_63 (N : Nat) (b1 : Nat) (k21 : zb_S → Int32 → Option (Unit × zb_S)) (S : zb_S) (l2 : Int32) (l3 : Int32) (s0 : Int32) (s1 : Int32) : Option (Unit × zb_S) :=
  zb_let (zb_pi S 21 25 (s1 ||| s0)) (fun S1 : zb_S =>
  zb_bind (fX6_has N S1 (zb_i S1 21 22) l2) (fun r3 S2 =>
  if r3 = 0 then
    fX6_wakeOn_118 N b1 k21 S2 l2
  else
    if zb_in ((6 * l2) + 3) (zb_sz b1) then zb_let (zb_pa S2 b1 (Int32.toNatClampNeg ((6 * l2) + 3)) 0) (fun S4 : zb_S =>
    if l3 = 0 then
      if zb_in ((6 * l2) + 2) (zb_sz b1) then
      if (zb_a S4 b1 (Int32.toNatClampNeg ((6 * l2) + 2))) = 0 then
        fX6_wakeOn_114 N b1 k21 S4 l2 ((1 : Int32) <<< (l2 &&& 31)) (zb_i S4 21 23)
      else
        fX6_wakeOn_113 N b1 k21 S4 l2 (zb_i S4 21 23) else none
    else
      fX6_wakeOn_113 N b1 k21 S4 l2 (zb_i S4 21 23)) else none))
set_option maxHeartbeats 4000000 in
set_option maxRecDepth 100000 in
theorem gX6_wakeOn_63 {l : Launch} {G : zb_G} (N : Nat) (b1 : Nat) (h1 : zb_kd b1 = 7) (k21 : zb_S → Int32 → Option (Unit × zb_S)) (hk21 : ∀ (S : zb_S) (l2 : Int32), zb_Go zb_eV l G 2 RX6 cX6_wakeOn 4 none 21 [(0, .ref (zb_ad G 21)), (1, .ref (zb_ad G b1)), (2, .int l2)] [] S (k21 S l2)) (S : zb_S) (l2 : Int32) (l3 : Int32) (s0 : Int32) (s1 : Int32) : zb_Go zb_eV l G 2 RX6 cX6_wakeOn 4 none 63 [(0, .ref (zb_ad G 21)), (1, .ref (zb_ad G b1)), (2, .int l2), (3, .int l3)] [.int s0, .int s1, .ref (zb_ad G 21)] S (fX6_wakeOn_63 N b1 k21 S l2 l3 s0 s1) := by
  unfold fX6_wakeOn_63
  refine zg_ior dX6_wakeOn_63 ?_
  refine zp_X6_25 rfl zw_478 dX6_wakeOn_64 (fun S1 => ?_)
  refine zg_aload_n 0 dX6_wakeOn_67 rfl rfl ?_
  refine zq_X6_22 rfl zw_477 dX6_wakeOn_68 ?_
  refine zg_iload_n 2 dX6_wakeOn_71 rfl rfl ?_
  refine zg_callSI (As := [.int (zb_i S1 21 22), .int l2]) (rest := []) 2 (zcX6_has N S1 (zb_i S1 21 22) l2) (by decide) (by decide) zw_484 zw_485 zw_5 zw_486 (by decide +kernel) rfl rfl (Nat.le_of_ble_eq_true rfl) dX6_wakeOn_72 (fun r3 S2 => ?_)
  refine zg_if_eq 118 dX6_wakeOn_75 (by decide) ?_ ?_
  · refine zg_sub [0, 1, 2] rfl ?_
    exact gX6_wakeOn_118 N b1 h1 k21 hk21 S2 l2
  · refine zg_aload_n 1 dX6_wakeOn_78 rfl rfl ?_
    refine zg_bipush (v := 6) dX6_wakeOn_79 (by decide) ?_
    refine zg_iload_n 2 dX6_wakeOn_81 rfl rfl ?_
    refine zg_imul dX6_wakeOn_82 ?_
    refine zg_iconst (v := 3) dX6_wakeOn_83 (by decide) ?_
    refine zg_iadd dX6_wakeOn_84 ?_
    refine zg_iconst (v := 0) dX6_wakeOn_85 (by decide) ?_
    refine zg_iast h1 dX6_wakeOn_86 (fun S4 => ?_)
    refine zg_aload_n 0 dX6_wakeOn_87 rfl rfl ?_
    refine zg_dup dX6_wakeOn_88 rfl ?_
    refine zq_X6_23 rfl zw_479 dX6_wakeOn_89 ?_
    refine zg_iload_n 3 dX6_wakeOn_92 rfl rfl ?_
    refine zg_if_ne 113 dX6_wakeOn_93 (by decide) ?_ ?_
    · refine zg_sub [0, 1, 2] rfl ?_
      exact gX6_wakeOn_113 N b1 h1 k21 hk21 S4 l2 (zb_i S4 21 23)
    · refine zg_aload_n 1 dX6_wakeOn_96 rfl rfl ?_
      refine zg_bipush (v := 6) dX6_wakeOn_97 (by decide) ?_
      refine zg_iload_n 2 dX6_wakeOn_99 rfl rfl ?_
      refine zg_imul dX6_wakeOn_100 ?_
      refine zg_iconst (v := 2) dX6_wakeOn_101 (by decide) ?_
      refine zg_iadd dX6_wakeOn_102 ?_
      refine zg_iald h1 dX6_wakeOn_103 ?_
      refine zg_if_ne 113 dX6_wakeOn_104 (by decide) ?_ ?_
      · refine zg_sub [0, 1, 2] rfl ?_
        exact gX6_wakeOn_113 N b1 h1 k21 hk21 S4 l2 (zb_i S4 21 23)
      · refine zg_iconst (v := 1) dX6_wakeOn_107 (by decide) ?_
        refine zg_iload_n 2 dX6_wakeOn_108 rfl rfl ?_
        refine zg_ishl dX6_wakeOn_109 ?_
        refine zg_goto (tgt := 114) dX6_wakeOn_110 (by decide) ?_
        refine zg_sub [0, 1, 2] rfl ?_
        exact gX6_wakeOn_114 N b1 h1 k21 hk21 S4 l2 ((1 : Int32) <<< (l2 &&& 31)) (zb_i S4 21 23)
def fX6_wakeOn_46 (N : Nat) (b1 : Nat) (k21 : zb_S → Int32 → Option (Unit × zb_S)) (S : zb_S) (l2 : Int32) (s0 : Int32) : Option (Unit × zb_S) :=
  if s0 = 0 then
    fX6_wakeOn_63 N b1 k21 S l2 s0 0 (zb_i S 21 25)
  else
    fX6_wakeOn_63 N b1 k21 S l2 s0 ((1 : Int32) <<< (l2 &&& 31)) (zb_i S 21 25)
set_option maxHeartbeats 4000000 in
set_option maxRecDepth 100000 in
theorem gX6_wakeOn_46 {l : Launch} {G : zb_G} (N : Nat) (b1 : Nat) (h1 : zb_kd b1 = 7) (k21 : zb_S → Int32 → Option (Unit × zb_S)) (hk21 : ∀ (S : zb_S) (l2 : Int32), zb_Go zb_eV l G 2 RX6 cX6_wakeOn 4 none 21 [(0, .ref (zb_ad G 21)), (1, .ref (zb_ad G b1)), (2, .int l2)] [] S (k21 S l2)) (S : zb_S) (l2 : Int32) (s0 : Int32) : zb_Go zb_eV l G 2 RX6 cX6_wakeOn 4 none 46 [(0, .ref (zb_ad G 21)), (1, .ref (zb_ad G b1)), (2, .int l2)] [.int s0] S (fX6_wakeOn_46 N b1 k21 S l2 s0) := by
  unfold fX6_wakeOn_46
  refine zg_istore_n (lv' := [(3, .int s0), (0, .ref (zb_ad G 21)), (1, .ref (zb_ad G b1)), (2, .int l2)]) dX6_wakeOn_46 rfl (by decide) rfl ?_
  refine zg_aload_n 1 dX6_wakeOn_47 rfl rfl ?_
  refine zg_dup dX6_wakeOn_48 rfl ?_
  refine zq_X6_25 rfl zw_478 dX6_wakeOn_49 ?_
  refine zg_iload_n 0 dX6_wakeOn_52 rfl rfl ?_
  refine zg_if_eq 62 dX6_wakeOn_53 (by decide) ?_ ?_
  · refine zg_iconst (v := 0) dX6_wakeOn_62 (by decide) ?_
    refine zg_sub [1, 2, 3, 0] rfl ?_
    exact gX6_wakeOn_63 N b1 h1 k21 hk21 S l2 s0 0 (zb_i S 21 25)
  · refine zg_iconst (v := 1) dX6_wakeOn_56 (by decide) ?_
    refine zg_iload_n 3 dX6_wakeOn_57 rfl rfl ?_
    refine zg_ishl dX6_wakeOn_58 ?_
    refine zg_goto (tgt := 63) dX6_wakeOn_59 (by decide) ?_
    refine zg_sub [1, 2, 3, 0] rfl ?_
    exact gX6_wakeOn_63 N b1 h1 k21 hk21 S l2 s0 ((1 : Int32) <<< (l2 &&& 31)) (zb_i S 21 25)
def fX6_wakeOn_21b (N : Nat) (b1 : Nat) (k21 : zb_S → Int32 → Option (Unit × zb_S)) (S : zb_S) (l2 : Int32) : Option (Unit × zb_S) :=
  zb_bind (fX6_zones N S) (fun r2 S1 =>
  if r2 ≤ l2 then
    some ((), S1)
  else
    if zb_in ((6 * l2) + 3) (zb_sz b1) then
    if (zb_a S1 b1 (Int32.toNatClampNeg ((6 * l2) + 3))) = 1 then
      fX6_wakeOn_46 N b1 k21 S1 l2 1
    else
      fX6_wakeOn_46 N b1 k21 S1 l2 0 else none)
set_option maxHeartbeats 4000000 in
set_option maxRecDepth 100000 in
theorem gX6_wakeOn_21b {l : Launch} {G : zb_G} (N : Nat) (b1 : Nat) (h1 : zb_kd b1 = 7) (k21 : zb_S → Int32 → Option (Unit × zb_S)) (hk21 : ∀ (S : zb_S) (l2 : Int32), zb_Go zb_eV l G 2 RX6 cX6_wakeOn 4 none 21 [(0, .ref (zb_ad G 21)), (1, .ref (zb_ad G b1)), (2, .int l2)] [] S (k21 S l2)) (S : zb_S) (l2 : Int32) : zb_Go zb_eV l G 2 RX6 cX6_wakeOn 4 none 21 [(0, .ref (zb_ad G 21)), (1, .ref (zb_ad G b1)), (2, .int l2)] [] S (fX6_wakeOn_21b N b1 k21 S l2) := by
  unfold fX6_wakeOn_21b
  refine zg_iload_n 2 dX6_wakeOn_21 rfl rfl ?_
  refine zg_aload_n 0 dX6_wakeOn_22 rfl rfl ?_
  refine zg_callVI (As := []) (rest := [.int l2]) 0 (zcX6_zones N S) (by decide) (by decide) rfl (by decide) rfl zw_220 zw_221 zw_222 zw_5 zw_223 (by decide +kernel) rfl rfl (Nat.le_of_ble_eq_true rfl) dX6_wakeOn_23 (fun r2 S1 => ?_)
  refine zg_icmp_ge 124 dX6_wakeOn_26 (by decide) ?_ ?_
  · exact zg_vret rfl dX6_wakeOn_124
  · refine zg_aload_n 1 dX6_wakeOn_29 rfl rfl ?_
    refine zg_bipush (v := 6) dX6_wakeOn_30 (by decide) ?_
    refine zg_iload_n 2 dX6_wakeOn_32 rfl rfl ?_
    refine zg_imul dX6_wakeOn_33 ?_
    refine zg_iconst (v := 3) dX6_wakeOn_34 (by decide) ?_
    refine zg_iadd dX6_wakeOn_35 ?_
    refine zg_iald h1 dX6_wakeOn_36 ?_
    refine zg_iconst (v := 1) dX6_wakeOn_37 (by decide) ?_
    refine zg_icmp_ne 45 dX6_wakeOn_38 (by decide) ?_ ?_
    · refine zg_iconst (v := 0) dX6_wakeOn_45 (by decide) ?_
      exact gX6_wakeOn_46 N b1 h1 k21 hk21 S1 l2 0
    · refine zg_iconst (v := 1) dX6_wakeOn_41 (by decide) ?_
      refine zg_goto (tgt := 46) dX6_wakeOn_42 (by decide) ?_
      exact gX6_wakeOn_46 N b1 h1 k21 hk21 S1 l2 1
def fX6_wakeOn_21 (N : Nat) (b1 : Nat) : Nat → zb_S → Int32 → Option (Unit × zb_S)
  | 0, _, _ => none
  | n + 1, S, l2 => fX6_wakeOn_21b N b1 (fX6_wakeOn_21 N b1 n) S l2
set_option maxHeartbeats 4000000 in
set_option maxRecDepth 100000 in
theorem gX6_wakeOn_21 {l : Launch} {G : zb_G} (N : Nat) (b1 : Nat) (h1 : zb_kd b1 = 7) : ∀ (n : Nat) (S : zb_S) (l2 : Int32), zb_Go zb_eV l G 2 RX6 cX6_wakeOn 4 none 21 [(0, .ref (zb_ad G 21)), (1, .ref (zb_ad G b1)), (2, .int l2)] [] S (fX6_wakeOn_21 N b1 n S l2) := by
  intro n
  induction n with
  | zero => intros; exact zg_none
  | succ n ih =>
    intro S l2
    exact gX6_wakeOn_21b N b1 h1 (fX6_wakeOn_21 N b1 n) ih S l2
def fX6_wakeOn_0 (N : Nat) (b1 : Nat) (S : zb_S) : Option (Unit × zb_S) :=
  zb_bind (fX6_allThatSee N b1 S) (fun r2 S1 =>
  zb_let (zb_pi S1 21 22 r2) (fun S3 : zb_S =>
  zb_let (zb_pi S3 21 25 0) (fun S4 : zb_S =>
  zb_let (zb_pi S4 21 23 0) (fun S5 : zb_S =>
  fX6_wakeOn_21 N b1 N S5 0))))
set_option maxHeartbeats 4000000 in
set_option maxRecDepth 100000 in
theorem gX6_wakeOn_0 {l : Launch} {G : zb_G} (N : Nat) (b1 : Nat) (h1 : zb_kd b1 = 7) (S : zb_S) : zb_Go zb_eV l G 2 RX6 cX6_wakeOn 4 none 0 [(0, .ref (zb_ad G 21)), (1, .ref (zb_ad G b1))] [] S (fX6_wakeOn_0 N b1 S) := by
  unfold fX6_wakeOn_0
  refine zg_aload_n 0 dX6_wakeOn_0 rfl rfl ?_
  refine zg_aload_n 0 dX6_wakeOn_1 rfl rfl ?_
  refine zg_aload_n 1 dX6_wakeOn_2 rfl rfl ?_
  refine zg_callVI (As := [.ref (zb_ad G b1)]) (rest := [.ref (zb_ad G 21)]) 1 (zcX6_allThatSee N b1 h1 S) (by decide) (by decide) rfl (by decide) rfl zw_480 zw_481 zw_482 zw_5 zw_483 (by decide +kernel) rfl rfl (Nat.le_of_ble_eq_true rfl) dX6_wakeOn_3 (fun r2 S1 => ?_)
  refine zp_X6_22 rfl zw_477 dX6_wakeOn_6 (fun S3 => ?_)
  refine zg_aload_n 0 dX6_wakeOn_9 rfl rfl ?_
  refine zg_iconst (v := 0) dX6_wakeOn_10 (by decide) ?_
  refine zp_X6_25 rfl zw_478 dX6_wakeOn_11 (fun S4 => ?_)
  refine zg_aload_n 0 dX6_wakeOn_14 rfl rfl ?_
  refine zg_iconst (v := 0) dX6_wakeOn_15 (by decide) ?_
  refine zp_X6_23 rfl zw_479 dX6_wakeOn_16 (fun S5 => ?_)
  refine zg_iconst (v := 0) dX6_wakeOn_19 (by decide) ?_
  refine zg_istore_n (lv' := [(2, .int 0), (0, .ref (zb_ad G 21)), (1, .ref (zb_ad G b1))]) dX6_wakeOn_20 rfl (by decide) rfl ?_
  refine zg_sub [1, 2, 0] rfl ?_
  exact gX6_wakeOn_21 N b1 h1 N S5 0
def fX6_wakeOn (N : Nat) (b1 : Nat) (S : zb_S) : Option (Unit × zb_S) := fX6_wakeOn_0 N b1 S
theorem zcX6_wakeOn {l : Launch} {G : zb_G} (N : Nat) (b1 : Nat) (h1 : zb_kd b1 = 7) (S : zb_S) : zb_C zb_eV l G 2 yX6_wakeOn cX6_wakeOn 4 none [.ref (zb_ad G 21), .ref (zb_ad G b1)] S (fX6_wakeOn N b1 S) :=
  zb_C.of (by decide +kernel) rfl (Nat.le_of_ble_eq_true rfl) rfl (gX6_wakeOn_0 N b1 h1 S)
-- X6_ticketOn
def fX6_ticketOn_0 (N : Nat) (b1 : Nat) (S : zb_S) (a2 : Int32) : Option (Unit × zb_S) :=
  zb_bind (fX6_has N S (zb_i S 21 23) a2) (fun r2 S1 =>
  if r2 = 0 then
    some ((), S1)
  else
    if zb_in ((6 * a2) + 5) (zb_sz b1) then
    if (zb_a S1 b1 (Int32.toNatClampNeg ((6 * a2) + 5))) = 0 then
      if zb_in 75 (zb_sz b1) then
      if zb_in 75 (zb_sz b1) then zb_let (zb_pa S1 b1 (Int32.toNatClampNeg 75) ((zb_a S1 b1 (Int32.toNatClampNeg 75)) + 1)) (fun S3 : zb_S =>
      if zb_in 75 (zb_sz b1) then
      if zb_in ((6 * a2) + 5) (zb_sz b1) then zb_let (zb_pa S3 b1 (Int32.toNatClampNeg ((6 * a2) + 5)) (zb_a S3 b1 (Int32.toNatClampNeg 75))) (fun S4 : zb_S =>
      some ((), S4)) else none else none) else none else none
    else
      some ((), S1) else none)
set_option maxHeartbeats 4000000 in
set_option maxRecDepth 100000 in
theorem gX6_ticketOn_0 {l : Launch} {G : zb_G} (N : Nat) (b1 : Nat) (h1 : zb_kd b1 = 7) (S : zb_S) (a2 : Int32) : zb_Go zb_eV l G 1 RX6 cX6_ticketOn 3 none 0 [(0, .ref (zb_ad G 21)), (1, .ref (zb_ad G b1)), (2, .int a2)] [] S (fX6_ticketOn_0 N b1 S a2) := by
  unfold fX6_ticketOn_0
  refine zg_aload_n 0 dX6_ticketOn_0 rfl rfl ?_
  refine zq_X6_23 rfl zw_479 dX6_ticketOn_1 ?_
  refine zg_iload_n 2 dX6_ticketOn_4 rfl rfl ?_
  refine zg_callSI (As := [.int (zb_i S 21 23), .int a2]) (rest := []) 2 (zcX6_has N S (zb_i S 21 23) a2) (by decide) (by decide) zw_484 zw_485 zw_5 zw_486 (by decide +kernel) rfl rfl (Nat.le_of_ble_eq_true rfl) dX6_ticketOn_5 (fun r2 S1 => ?_)
  refine zg_if_eq 42 dX6_ticketOn_8 (by decide) ?_ ?_
  · exact zg_vret rfl dX6_ticketOn_42
  · refine zg_aload_n 1 dX6_ticketOn_11 rfl rfl ?_
    refine zg_bipush (v := 6) dX6_ticketOn_12 (by decide) ?_
    refine zg_iload_n 2 dX6_ticketOn_14 rfl rfl ?_
    refine zg_imul dX6_ticketOn_15 ?_
    refine zg_iconst (v := 5) dX6_ticketOn_16 (by decide) ?_
    refine zg_iadd dX6_ticketOn_17 ?_
    refine zg_iald h1 dX6_ticketOn_18 ?_
    refine zg_if_ne 42 dX6_ticketOn_19 (by decide) ?_ ?_
    · exact zg_vret rfl dX6_ticketOn_42
    · refine zg_aload_n 1 dX6_ticketOn_22 rfl rfl ?_
      refine zg_bipush (v := 75) dX6_ticketOn_23 (by decide) ?_
      refine zg_dup2 dX6_ticketOn_25 rfl rfl ?_
      refine zg_iald h1 dX6_ticketOn_26 ?_
      refine zg_iconst (v := 1) dX6_ticketOn_27 (by decide) ?_
      refine zg_iadd dX6_ticketOn_28 ?_
      refine zg_iast h1 dX6_ticketOn_29 (fun S3 => ?_)
      refine zg_aload_n 1 dX6_ticketOn_30 rfl rfl ?_
      refine zg_bipush (v := 6) dX6_ticketOn_31 (by decide) ?_
      refine zg_iload_n 2 dX6_ticketOn_33 rfl rfl ?_
      refine zg_imul dX6_ticketOn_34 ?_
      refine zg_iconst (v := 5) dX6_ticketOn_35 (by decide) ?_
      refine zg_iadd dX6_ticketOn_36 ?_
      refine zg_aload_n 1 dX6_ticketOn_37 rfl rfl ?_
      refine zg_bipush (v := 75) dX6_ticketOn_38 (by decide) ?_
      refine zg_iald h1 dX6_ticketOn_40 ?_
      refine zg_iast h1 dX6_ticketOn_41 (fun S4 => ?_)
      exact zg_vret rfl dX6_ticketOn_42
def fX6_ticketOn (N : Nat) (b1 : Nat) (S : zb_S) (a2 : Int32) : Option (Unit × zb_S) := fX6_ticketOn_0 N b1 S a2
theorem zcX6_ticketOn {l : Launch} {G : zb_G} (N : Nat) (b1 : Nat) (h1 : zb_kd b1 = 7) (S : zb_S) (a2 : Int32) : zb_C zb_eV l G 1 yX6_ticketOn cX6_ticketOn 3 none [.ref (zb_ad G 21), .ref (zb_ad G b1), .int a2] S (fX6_ticketOn N b1 S a2) :=
  zb_C.of (by decide +kernel) rfl (Nat.le_of_ble_eq_true rfl) rfl (gX6_ticketOn_0 N b1 h1 S a2)
-- X6_may
def fX6_may_91 (N : Nat) (b1 : Nat) (S : zb_S) : Option (Int32 × zb_S) :=
  if (1 : Int32) = 0 ∨ (1 : Int32) = 1 then some (1, S) else none
set_option maxHeartbeats 4000000 in
set_option maxRecDepth 100000 in
theorem gX6_may_91 {l : Launch} {G : zb_G} (N : Nat) (b1 : Nat) (h1 : zb_kd b1 = 7) (S : zb_S) : zb_Go zb_eI l G 2 RX6 cX6_may 4 (some .boolean) 91 [] [] S (fX6_may_91 N b1 S) := by
  unfold fX6_may_91
  refine zg_iconst (v := 1) dX6_may_91 (by decide) ?_
  refine zg_goto (tgt := 96) dX6_may_92 (by decide) ?_
  exact zg_zret rfl dX6_may_96
def fX6_may_0 (N : Nat) (b1 : Nat) (S : zb_S) (a2 : Int32) : Option (Int32 × zb_S) :=
  zb_bind (fX6_has N S (zb_i S 21 23) a2) (fun r2 S1 =>
  if r2 = 0 then
    if (0 : Int32) = 0 ∨ (0 : Int32) = 1 then some (0, S1) else none
  else
    zb_bind (fX6_behind N S1 a2) (fun r4 S3 =>
    if r4 = 99 then
      if zb_in 72 (zb_sz b1) then
      if (zb_a S3 b1 (Int32.toNatClampNeg 72)) = 1 then
        if (1 : Int32) = 0 ∨ (1 : Int32) = 1 then some (1, S3) else none
      else
        if (0 : Int32) = 0 ∨ (0 : Int32) = 1 then some (0, S3) else none else none
    else
      zb_bind (fX6_has N S3 (zb_i S3 21 25) r4) (fun r6 S5 =>
      if r6 = 0 then
        zb_bind (fX6_has N S5 (zb_i S5 21 22) r4) (fun r8 S7 =>
        if r8 = 0 then
          fX6_may_91 N b1 S7
        else
          if zb_in 73 (zb_sz b1) then
          if (zb_a S7 b1 (Int32.toNatClampNeg 73)) = 1 then
            zb_bind (fX6_has N S7 (zb_i S7 21 24) r4) (fun r10 S9 =>
            if r10 = 0 then
              if (0 : Int32) = 0 ∨ (0 : Int32) = 1 then some (0, S9) else none
            else
              fX6_may_91 N b1 S9)
          else
            if (0 : Int32) = 0 ∨ (0 : Int32) = 1 then some (0, S7) else none else none)
      else
        if zb_in ((6 * r4) + 3) (zb_sz b1) then zb_let (zb_pa S5 b1 (Int32.toNatClampNeg ((6 * r4) + 3)) 0) (fun S11 : zb_S =>
        if (0 : Int32) = 0 ∨ (0 : Int32) = 1 then some (0, S11) else none) else none)))
set_option maxHeartbeats 4000000 in
set_option maxRecDepth 100000 in
theorem gX6_may_0 {l : Launch} {G : zb_G} (N : Nat) (b1 : Nat) (h1 : zb_kd b1 = 7) (S : zb_S) (a2 : Int32) : zb_Go zb_eI l G 2 RX6 cX6_may 4 (some .boolean) 0 [(0, .ref (zb_ad G 21)), (1, .ref (zb_ad G b1)), (2, .int a2)] [] S (fX6_may_0 N b1 S a2) := by
  unfold fX6_may_0
  refine zg_aload_n 0 dX6_may_0 rfl rfl ?_
  refine zq_X6_23 rfl zw_479 dX6_may_1 ?_
  refine zg_iload_n 2 dX6_may_4 rfl rfl ?_
  refine zg_callSI (As := [.int (zb_i S 21 23), .int a2]) (rest := []) 2 (zcX6_has N S (zb_i S 21 23) a2) (by decide) (by decide) zw_484 zw_485 zw_5 zw_486 (by decide +kernel) rfl rfl (Nat.le_of_ble_eq_true rfl) dX6_may_5 (fun r2 S1 => ?_)
  refine zg_if_ne 13 dX6_may_8 (by decide) ?_ ?_
  · refine zg_aload_n 0 dX6_may_13 rfl rfl ?_
    refine zg_iload_n 2 dX6_may_14 rfl rfl ?_
    refine zg_callVI (As := [.int a2]) (rest := []) 1 (zcX6_behind N S1 a2) (by decide) (by decide) rfl (by decide) rfl zw_500 zw_501 zw_502 zw_5 zw_503 (by decide +kernel) rfl rfl (Nat.le_of_ble_eq_true rfl) dX6_may_15 (fun r4 S3 => ?_)
    refine zg_istore_n (lv' := [(3, .int r4), (0, .ref (zb_ad G 21)), (1, .ref (zb_ad G b1)), (2, .int a2)]) dX6_may_18 rfl (by decide) rfl ?_
    refine zg_iload_n 0 dX6_may_19 rfl rfl ?_
    refine zg_bipush (v := 99) dX6_may_20 (by decide) ?_
    refine zg_icmp_ne 39 dX6_may_22 (by decide) ?_ ?_
    · refine zg_aload_n 1 dX6_may_39 rfl rfl ?_
      refine zq_X6_25 rfl zw_478 dX6_may_40 ?_
      refine zg_iload_n 0 dX6_may_43 rfl rfl ?_
      refine zg_callSI (As := [.int (zb_i S3 21 25), .int r4]) (rest := []) 2 (zcX6_has N S3 (zb_i S3 21 25) r4) (by decide) (by decide) zw_484 zw_485 zw_5 zw_486 (by decide +kernel) rfl rfl (Nat.le_of_ble_eq_true rfl) dX6_may_44 (fun r6 S5 => ?_)
      refine zg_if_eq 61 dX6_may_47 (by decide) ?_ ?_
      · refine zg_aload_n 1 dX6_may_61 rfl rfl ?_
        refine zq_X6_22 rfl zw_477 dX6_may_62 ?_
        refine zg_iload_n 0 dX6_may_65 rfl rfl ?_
        refine zg_callSI (As := [.int (zb_i S5 21 22), .int r4]) (rest := []) 2 (zcX6_has N S5 (zb_i S5 21 22) r4) (by decide) (by decide) zw_484 zw_485 zw_5 zw_486 (by decide +kernel) rfl rfl (Nat.le_of_ble_eq_true rfl) dX6_may_66 (fun r8 S7 => ?_)
        refine zg_if_eq 91 dX6_may_69 (by decide) ?_ ?_
        · refine zg_sub [] rfl ?_
          exact gX6_may_91 N b1 h1 S7
        · refine zg_aload_n 2 dX6_may_72 rfl rfl ?_
          refine zg_bipush (v := 73) dX6_may_73 (by decide) ?_
          refine zg_iald h1 dX6_may_75 ?_
          refine zg_iconst (v := 1) dX6_may_76 (by decide) ?_
          refine zg_icmp_ne 95 dX6_may_77 (by decide) ?_ ?_
          · refine zg_iconst (v := 0) dX6_may_95 (by decide) ?_
            exact zg_zret rfl dX6_may_96
          · refine zg_aload_n 1 dX6_may_80 rfl rfl ?_
            refine zq_X6_24 rfl zw_495 dX6_may_81 ?_
            refine zg_iload_n 0 dX6_may_84 rfl rfl ?_
            refine zg_callSI (As := [.int (zb_i S7 21 24), .int r4]) (rest := []) 2 (zcX6_has N S7 (zb_i S7 21 24) r4) (by decide) (by decide) zw_484 zw_485 zw_5 zw_486 (by decide +kernel) rfl rfl (Nat.le_of_ble_eq_true rfl) dX6_may_85 (fun r10 S9 => ?_)
            refine zg_if_eq 95 dX6_may_88 (by decide) ?_ ?_
            · refine zg_iconst (v := 0) dX6_may_95 (by decide) ?_
              exact zg_zret rfl dX6_may_96
            · refine zg_sub [] rfl ?_
              exact gX6_may_91 N b1 h1 S9
      · refine zg_aload_n 2 dX6_may_50 rfl rfl ?_
        refine zg_bipush (v := 6) dX6_may_51 (by decide) ?_
        refine zg_iload_n 0 dX6_may_53 rfl rfl ?_
        refine zg_imul dX6_may_54 ?_
        refine zg_iconst (v := 3) dX6_may_55 (by decide) ?_
        refine zg_iadd dX6_may_56 ?_
        refine zg_iconst (v := 0) dX6_may_57 (by decide) ?_
        refine zg_iast h1 dX6_may_58 (fun S11 => ?_)
        refine zg_iconst (v := 0) dX6_may_59 (by decide) ?_
        exact zg_zret rfl dX6_may_60
    · refine zg_aload_n 2 dX6_may_25 rfl rfl ?_
      refine zg_bipush (v := 72) dX6_may_26 (by decide) ?_
      refine zg_iald h1 dX6_may_28 ?_
      refine zg_iconst (v := 1) dX6_may_29 (by decide) ?_
      refine zg_icmp_ne 37 dX6_may_30 (by decide) ?_ ?_
      · refine zg_iconst (v := 0) dX6_may_37 (by decide) ?_
        exact zg_zret rfl dX6_may_38
      · refine zg_iconst (v := 1) dX6_may_33 (by decide) ?_
        refine zg_goto (tgt := 38) dX6_may_34 (by decide) ?_
        exact zg_zret rfl dX6_may_38
  · refine zg_iconst (v := 0) dX6_may_11 (by decide) ?_
    exact zg_zret rfl dX6_may_12
def fX6_may (N : Nat) (b1 : Nat) (S : zb_S) (a2 : Int32) : Option (Int32 × zb_S) := fX6_may_0 N b1 S a2
theorem zcX6_may {l : Launch} {G : zb_G} (N : Nat) (b1 : Nat) (h1 : zb_kd b1 = 7) (S : zb_S) (a2 : Int32) : zb_C zb_eI l G 2 yX6_may cX6_may 4 (some .boolean) [.ref (zb_ad G 21), .ref (zb_ad G b1), .int a2] S (fX6_may N b1 S a2) :=
  zb_C.of (by decide +kernel) rfl (Nat.le_of_ble_eq_true rfl) rfl (gX6_may_0 N b1 h1 S a2)
-- X6_layGoes
def fX6_layGoes_169 (N : Nat) (b1 : Nat) (k19 : zb_S → Int32 → Int32 → Option (Unit × zb_S)) (S : zb_S) (l2 : Int32) (l3 : Int32) (s0 : Int32) (s1 : Int32) : Option (Unit × zb_S) :=
  zb_let (zb_pi S 21 24 (s1 ||| s0)) (fun S1 : zb_S =>
  zb_let (l3 + (-1)) (fun x2 : Int32 =>
  k19 S1 l2 x2))
set_option maxHeartbeats 4000000 in
set_option maxRecDepth 100000 in
theorem gX6_layGoes_169 {l : Launch} {G : zb_G} (N : Nat) (b1 : Nat) (h1 : zb_kd b1 = 7) (k19 : zb_S → Int32 → Int32 → Option (Unit × zb_S)) (hk19 : ∀ (S : zb_S) (l2 : Int32) (l3 : Int32), zb_Go zb_eV l G 3 RX6 cX6_layGoes 8 none 19 [(0, .ref (zb_ad G 21)), (1, .ref (zb_ad G b1)), (2, .int l2), (3, .int l3)] [] S (k19 S l2 l3)) (S : zb_S) (l2 : Int32) (l3 : Int32) (s0 : Int32) (s1 : Int32) : zb_Go zb_eV l G 3 RX6 cX6_layGoes 8 none 169 [(0, .ref (zb_ad G 21)), (1, .ref (zb_ad G b1)), (2, .int l2), (3, .int l3)] [.int s0, .int s1, .ref (zb_ad G 21)] S (fX6_layGoes_169 N b1 k19 S l2 l3 s0 s1) := by
  unfold fX6_layGoes_169
  refine zg_ior dX6_layGoes_169 ?_
  refine zp_X6_24 rfl zw_495 dX6_layGoes_170 (fun S1 => ?_)
  refine zg_iincL (fun x2 => [(3, .int x2), (0, .ref (zb_ad G 21)), (1, .ref (zb_ad G b1)), (2, .int l2)]) 3 dX6_layGoes_173 rfl rfl (by decide) (fun _ => rfl) (fun x2 => ?_)
  refine zg_goto (tgt := 19) dX6_layGoes_176 (by decide) ?_
  refine zg_sub [1, 2, 3, 0] rfl ?_
  exact hk19 S1 l2 x2
def fX6_layGoes_152 (N : Nat) (b1 : Nat) (k19 : zb_S → Int32 → Int32 → Option (Unit × zb_S)) (S : zb_S) (l2 : Int32) (l3 : Int32) (l4 : Int32) : Option (Unit × zb_S) :=
  if l4 = 0 then
    fX6_layGoes_169 N b1 k19 S l2 l3 0 (zb_i S 21 24)
  else
    fX6_layGoes_169 N b1 k19 S l2 l3 ((1 : Int32) <<< (l3 &&& 31)) (zb_i S 21 24)
set_option maxHeartbeats 4000000 in
set_option maxRecDepth 100000 in
theorem gX6_layGoes_152 {l : Launch} {G : zb_G} (N : Nat) (b1 : Nat) (h1 : zb_kd b1 = 7) (k19 : zb_S → Int32 → Int32 → Option (Unit × zb_S)) (hk19 : ∀ (S : zb_S) (l2 : Int32) (l3 : Int32), zb_Go zb_eV l G 3 RX6 cX6_layGoes 8 none 19 [(0, .ref (zb_ad G 21)), (1, .ref (zb_ad G b1)), (2, .int l2), (3, .int l3)] [] S (k19 S l2 l3)) (S : zb_S) (l2 : Int32) (l3 : Int32) (l4 : Int32) : zb_Go zb_eV l G 3 RX6 cX6_layGoes 8 none 152 [(0, .ref (zb_ad G 21)), (1, .ref (zb_ad G b1)), (2, .int l2), (3, .int l3), (4, .int l4)] [] S (fX6_layGoes_152 N b1 k19 S l2 l3 l4) := by
  unfold fX6_layGoes_152
  refine zg_aload_n 0 dX6_layGoes_152 rfl rfl ?_
  refine zg_dup dX6_layGoes_153 rfl ?_
  refine zq_X6_24 rfl zw_495 dX6_layGoes_154 ?_
  refine zg_iload 4 dX6_layGoes_157 rfl ?_
  refine zg_if_eq 168 dX6_layGoes_159 (by decide) ?_ ?_
  · refine zg_iconst (v := 0) dX6_layGoes_168 (by decide) ?_
    refine zg_sub [0, 1, 2, 3] rfl ?_
    exact gX6_layGoes_169 N b1 h1 k19 hk19 S l2 l3 0 (zb_i S 21 24)
  · refine zg_iconst (v := 1) dX6_layGoes_162 (by decide) ?_
    refine zg_iload_n 3 dX6_layGoes_163 rfl rfl ?_
    refine zg_ishl dX6_layGoes_164 ?_
    refine zg_goto (tgt := 169) dX6_layGoes_165 (by decide) ?_
    refine zg_sub [0, 1, 2, 3] rfl ?_
    exact gX6_layGoes_169 N b1 h1 k19 hk19 S l2 l3 ((1 : Int32) <<< (l3 &&& 31)) (zb_i S 21 24)
def fX6_layGoes_215 (N : Nat) (b1 : Nat) (k186 : zb_S → Int32 → Option (Unit × zb_S)) (S : zb_S) (l3 : Int32) (s0 : Int32) (s1 : Int32) : Option (Unit × zb_S) :=
  zb_let (zb_pi S 21 24 (s1 ||| s0)) (fun S1 : zb_S =>
  zb_let (l3 + (-1)) (fun x2 : Int32 =>
  k186 S1 x2))
set_option maxHeartbeats 4000000 in
set_option maxRecDepth 100000 in
theorem gX6_layGoes_215 {l : Launch} {G : zb_G} (N : Nat) (b1 : Nat) (h1 : zb_kd b1 = 7) (k186 : zb_S → Int32 → Option (Unit × zb_S)) (hk186 : ∀ (S : zb_S) (l3 : Int32), zb_Go zb_eV l G 3 RX6 cX6_layGoes 8 none 186 [(0, .ref (zb_ad G 21)), (1, .ref (zb_ad G b1)), (3, .int l3)] [] S (k186 S l3)) (S : zb_S) (l3 : Int32) (s0 : Int32) (s1 : Int32) : zb_Go zb_eV l G 3 RX6 cX6_layGoes 8 none 215 [(0, .ref (zb_ad G 21)), (1, .ref (zb_ad G b1)), (3, .int l3)] [.int s0, .int s1, .ref (zb_ad G 21)] S (fX6_layGoes_215 N b1 k186 S l3 s0 s1) := by
  unfold fX6_layGoes_215
  refine zg_ior dX6_layGoes_215 ?_
  refine zp_X6_24 rfl zw_495 dX6_layGoes_216 (fun S1 => ?_)
  refine zg_iincL (fun x2 => [(3, .int x2), (0, .ref (zb_ad G 21)), (1, .ref (zb_ad G b1))]) 2 dX6_layGoes_219 rfl rfl (by decide) (fun _ => rfl) (fun x2 => ?_)
  refine zg_goto (tgt := 186) dX6_layGoes_222 (by decide) ?_
  refine zg_sub [1, 2, 0] rfl ?_
  exact hk186 S1 x2
def fX6_layGoes_186b (N : Nat) (b1 : Nat) (k186 : zb_S → Int32 → Option (Unit × zb_S)) (S : zb_S) (l3 : Int32) : Option (Unit × zb_S) :=
  if l3 < (zb_i S 21 4) then
    some ((), S)
  else
    zb_bind (fX6_may N b1 S l3) (fun r2 S1 =>
    if r2 = 0 then
      fX6_layGoes_215 N b1 k186 S1 l3 0 (zb_i S 21 24)
    else
      fX6_layGoes_215 N b1 k186 S1 l3 ((1 : Int32) <<< (l3 &&& 31)) (zb_i S 21 24))
set_option maxHeartbeats 4000000 in
set_option maxRecDepth 100000 in
theorem gX6_layGoes_186b {l : Launch} {G : zb_G} (N : Nat) (b1 : Nat) (h1 : zb_kd b1 = 7) (k186 : zb_S → Int32 → Option (Unit × zb_S)) (hk186 : ∀ (S : zb_S) (l3 : Int32), zb_Go zb_eV l G 3 RX6 cX6_layGoes 8 none 186 [(0, .ref (zb_ad G 21)), (1, .ref (zb_ad G b1)), (3, .int l3)] [] S (k186 S l3)) (S : zb_S) (l3 : Int32) : zb_Go zb_eV l G 3 RX6 cX6_layGoes 8 none 186 [(0, .ref (zb_ad G 21)), (1, .ref (zb_ad G b1)), (3, .int l3)] [] S (fX6_layGoes_186b N b1 k186 S l3) := by
  unfold fX6_layGoes_186b
  refine zg_iload_n 2 dX6_layGoes_186 rfl rfl ?_
  refine zg_aload_n 0 dX6_layGoes_187 rfl rfl ?_
  refine zq_X6_4 rfl zw_89 dX6_layGoes_188 ?_
  refine zg_icmp_lt 225 dX6_layGoes_191 (by decide) ?_ ?_
  · exact zg_vret rfl dX6_layGoes_225
  · refine zg_aload_n 0 dX6_layGoes_194 rfl rfl ?_
    refine zg_dup dX6_layGoes_195 rfl ?_
    refine zq_X6_24 rfl zw_495 dX6_layGoes_196 ?_
    refine zg_aload_n 0 dX6_layGoes_199 rfl rfl ?_
    refine zg_aload_n 1 dX6_layGoes_200 rfl rfl ?_
    refine zg_iload_n 2 dX6_layGoes_201 rfl rfl ?_
    refine zg_callVI (As := [.ref (zb_ad G b1), .int l3]) (rest := [.int (zb_i S 21 24), .ref (zb_ad G 21)]) 2 (zcX6_may N b1 h1 S l3) (by decide) (by decide) rfl (by decide) rfl zw_496 zw_497 zw_498 zw_5 zw_499 (by decide +kernel) rfl rfl (Nat.le_of_ble_eq_true rfl) dX6_layGoes_202 (fun r2 S1 => ?_)
    refine zg_if_eq 214 dX6_layGoes_205 (by decide) ?_ ?_
    · refine zg_iconst (v := 0) dX6_layGoes_214 (by decide) ?_
      exact gX6_layGoes_215 N b1 h1 k186 hk186 S1 l3 0 (zb_i S 21 24)
    · refine zg_iconst (v := 1) dX6_layGoes_208 (by decide) ?_
      refine zg_iload_n 2 dX6_layGoes_209 rfl rfl ?_
      refine zg_ishl dX6_layGoes_210 ?_
      refine zg_goto (tgt := 215) dX6_layGoes_211 (by decide) ?_
      exact gX6_layGoes_215 N b1 h1 k186 hk186 S1 l3 ((1 : Int32) <<< (l3 &&& 31)) (zb_i S 21 24)
def fX6_layGoes_186 (N : Nat) (b1 : Nat) : Nat → zb_S → Int32 → Option (Unit × zb_S)
  | 0, _, _ => none
  | n + 1, S, l3 => fX6_layGoes_186b N b1 (fX6_layGoes_186 N b1 n) S l3
set_option maxHeartbeats 4000000 in
set_option maxRecDepth 100000 in
theorem gX6_layGoes_186 {l : Launch} {G : zb_G} (N : Nat) (b1 : Nat) (h1 : zb_kd b1 = 7) : ∀ (n : Nat) (S : zb_S) (l3 : Int32), zb_Go zb_eV l G 3 RX6 cX6_layGoes 8 none 186 [(0, .ref (zb_ad G 21)), (1, .ref (zb_ad G b1)), (3, .int l3)] [] S (fX6_layGoes_186 N b1 n S l3) := by
  intro n
  induction n with
  | zero => intros; exact zg_none
  | succ n ih =>
    intro S l3
    exact gX6_layGoes_186b N b1 h1 (fX6_layGoes_186 N b1 n) ih S l3
def fX6_layGoes_150 (N : Nat) (b1 : Nat) (k19 : zb_S → Int32 → Int32 → Option (Unit × zb_S)) (S : zb_S) (l2 : Int32) (l3 : Int32) (s0 : Int32) : Option (Unit × zb_S) :=
  fX6_layGoes_152 N b1 k19 S l2 l3 s0
set_option maxHeartbeats 4000000 in
set_option maxRecDepth 100000 in
theorem gX6_layGoes_150 {l : Launch} {G : zb_G} (N : Nat) (b1 : Nat) (h1 : zb_kd b1 = 7) (k19 : zb_S → Int32 → Int32 → Option (Unit × zb_S)) (hk19 : ∀ (S : zb_S) (l2 : Int32) (l3 : Int32), zb_Go zb_eV l G 3 RX6 cX6_layGoes 8 none 19 [(0, .ref (zb_ad G 21)), (1, .ref (zb_ad G b1)), (2, .int l2), (3, .int l3)] [] S (k19 S l2 l3)) (S : zb_S) (l2 : Int32) (l3 : Int32) (s0 : Int32) : zb_Go zb_eV l G 3 RX6 cX6_layGoes 8 none 150 [(0, .ref (zb_ad G 21)), (1, .ref (zb_ad G b1)), (2, .int l2), (3, .int l3)] [.int s0] S (fX6_layGoes_150 N b1 k19 S l2 l3 s0) := by
  unfold fX6_layGoes_150
  refine zg_istore (lv' := [(4, .int s0), (0, .ref (zb_ad G 21)), (1, .ref (zb_ad G b1)), (2, .int l2), (3, .int l3)]) dX6_layGoes_150 (by decide) rfl ?_
  refine zg_sub [1, 2, 3, 4, 0] rfl ?_
  exact gX6_layGoes_152 N b1 h1 k19 hk19 S l2 l3 s0
def fX6_layGoes_145 (N : Nat) (b1 : Nat) (k19 : zb_S → Int32 → Int32 → Option (Unit × zb_S)) (S : zb_S) (l2 : Int32) (l3 : Int32) : Option (Unit × zb_S) :=
  fX6_layGoes_150 N b1 k19 S l2 l3 1
set_option maxHeartbeats 4000000 in
set_option maxRecDepth 100000 in
theorem gX6_layGoes_145 {l : Launch} {G : zb_G} (N : Nat) (b1 : Nat) (h1 : zb_kd b1 = 7) (k19 : zb_S → Int32 → Int32 → Option (Unit × zb_S)) (hk19 : ∀ (S : zb_S) (l2 : Int32) (l3 : Int32), zb_Go zb_eV l G 3 RX6 cX6_layGoes 8 none 19 [(0, .ref (zb_ad G 21)), (1, .ref (zb_ad G b1)), (2, .int l2), (3, .int l3)] [] S (k19 S l2 l3)) (S : zb_S) (l2 : Int32) (l3 : Int32) : zb_Go zb_eV l G 3 RX6 cX6_layGoes 8 none 145 [(0, .ref (zb_ad G 21)), (1, .ref (zb_ad G b1)), (2, .int l2), (3, .int l3)] [] S (fX6_layGoes_145 N b1 k19 S l2 l3) := by
  unfold fX6_layGoes_145
  refine zg_iconst (v := 1) dX6_layGoes_145 (by decide) ?_
  refine zg_goto (tgt := 150) dX6_layGoes_146 (by decide) ?_
  exact gX6_layGoes_150 N b1 h1 k19 hk19 S l2 l3 1
def fX6_layGoes_149 (N : Nat) (b1 : Nat) (k19 : zb_S → Int32 → Int32 → Option (Unit × zb_S)) (S : zb_S) (l2 : Int32) (l3 : Int32) : Option (Unit × zb_S) :=
  fX6_layGoes_150 N b1 k19 S l2 l3 0
set_option maxHeartbeats 4000000 in
set_option maxRecDepth 100000 in
theorem gX6_layGoes_149 {l : Launch} {G : zb_G} (N : Nat) (b1 : Nat) (h1 : zb_kd b1 = 7) (k19 : zb_S → Int32 → Int32 → Option (Unit × zb_S)) (hk19 : ∀ (S : zb_S) (l2 : Int32) (l3 : Int32), zb_Go zb_eV l G 3 RX6 cX6_layGoes 8 none 19 [(0, .ref (zb_ad G 21)), (1, .ref (zb_ad G b1)), (2, .int l2), (3, .int l3)] [] S (k19 S l2 l3)) (S : zb_S) (l2 : Int32) (l3 : Int32) : zb_Go zb_eV l G 3 RX6 cX6_layGoes 8 none 149 [(0, .ref (zb_ad G 21)), (1, .ref (zb_ad G b1)), (2, .int l2), (3, .int l3)] [] S (fX6_layGoes_149 N b1 k19 S l2 l3) := by
  unfold fX6_layGoes_149
  refine zg_iconst (v := 0) dX6_layGoes_149 (by decide) ?_
  exact gX6_layGoes_150 N b1 h1 k19 hk19 S l2 l3 0
def fX6_layGoes_126 (N : Nat) (b1 : Nat) (k19 : zb_S → Int32 → Int32 → Option (Unit × zb_S)) (S : zb_S) (l2 : Int32) (l3 : Int32) (l4 : Int32) (l6 : Int32) (l7 : Int32) (s0 : Int32) (s1 : Int32) : Option (Unit × zb_S) :=
  zb_let (zb_pi S 21 24 (s1 ||| s0)) (fun S1 : zb_S =>
  if l4 = 0 then
    fX6_layGoes_149 N b1 k19 S1 l2 l3
  else
    if l6 = 0 then
      fX6_layGoes_145 N b1 k19 S1 l2 l3
    else
      if l7 = 0 then
        fX6_layGoes_149 N b1 k19 S1 l2 l3
      else
        fX6_layGoes_145 N b1 k19 S1 l2 l3)
set_option maxHeartbeats 4000000 in
set_option maxRecDepth 100000 in
theorem gX6_layGoes_126 {l : Launch} {G : zb_G} (N : Nat) (b1 : Nat) (h1 : zb_kd b1 = 7) (k19 : zb_S → Int32 → Int32 → Option (Unit × zb_S)) (hk19 : ∀ (S : zb_S) (l2 : Int32) (l3 : Int32), zb_Go zb_eV l G 3 RX6 cX6_layGoes 8 none 19 [(0, .ref (zb_ad G 21)), (1, .ref (zb_ad G b1)), (2, .int l2), (3, .int l3)] [] S (k19 S l2 l3)) (S : zb_S) (l2 : Int32) (l3 : Int32) (l4 : Int32) (l6 : Int32) (l7 : Int32) (s0 : Int32) (s1 : Int32) : zb_Go zb_eV l G 3 RX6 cX6_layGoes 8 none 126 [(0, .ref (zb_ad G 21)), (1, .ref (zb_ad G b1)), (2, .int l2), (3, .int l3), (4, .int l4), (6, .int l6), (7, .int l7)] [.int s0, .int s1, .ref (zb_ad G 21)] S (fX6_layGoes_126 N b1 k19 S l2 l3 l4 l6 l7 s0 s1) := by
  unfold fX6_layGoes_126
  refine zg_ior dX6_layGoes_126 ?_
  refine zp_X6_24 rfl zw_495 dX6_layGoes_127 (fun S1 => ?_)
  refine zg_iload 4 dX6_layGoes_130 rfl ?_
  refine zg_if_eq 149 dX6_layGoes_132 (by decide) ?_ ?_
  · refine zg_sub [0, 1, 2, 3] rfl ?_
    exact gX6_layGoes_149 N b1 h1 k19 hk19 S1 l2 l3
  · refine zg_iload 5 dX6_layGoes_135 rfl ?_
    refine zg_if_eq 145 dX6_layGoes_137 (by decide) ?_ ?_
    · refine zg_sub [0, 1, 2, 3] rfl ?_
      exact gX6_layGoes_145 N b1 h1 k19 hk19 S1 l2 l3
    · refine zg_iload 6 dX6_layGoes_140 rfl ?_
      refine zg_if_eq 149 dX6_layGoes_142 (by decide) ?_ ?_
      · refine zg_sub [0, 1, 2, 3] rfl ?_
        exact gX6_layGoes_149 N b1 h1 k19 hk19 S1 l2 l3
      · refine zg_sub [0, 1, 2, 3] rfl ?_
        exact gX6_layGoes_145 N b1 h1 k19 hk19 S1 l2 l3
def fX6_layGoes_125 (N : Nat) (b1 : Nat) (k19 : zb_S → Int32 → Int32 → Option (Unit × zb_S)) (S : zb_S) (l2 : Int32) (l3 : Int32) (l4 : Int32) (l6 : Int32) (l7 : Int32) (s0 : Int32) : Option (Unit × zb_S) :=
  fX6_layGoes_126 N b1 k19 S l2 l3 l4 l6 l7 0 s0
set_option maxHeartbeats 4000000 in
set_option maxRecDepth 100000 in
theorem gX6_layGoes_125 {l : Launch} {G : zb_G} (N : Nat) (b1 : Nat) (h1 : zb_kd b1 = 7) (k19 : zb_S → Int32 → Int32 → Option (Unit × zb_S)) (hk19 : ∀ (S : zb_S) (l2 : Int32) (l3 : Int32), zb_Go zb_eV l G 3 RX6 cX6_layGoes 8 none 19 [(0, .ref (zb_ad G 21)), (1, .ref (zb_ad G b1)), (2, .int l2), (3, .int l3)] [] S (k19 S l2 l3)) (S : zb_S) (l2 : Int32) (l3 : Int32) (l4 : Int32) (l6 : Int32) (l7 : Int32) (s0 : Int32) : zb_Go zb_eV l G 3 RX6 cX6_layGoes 8 none 125 [(0, .ref (zb_ad G 21)), (1, .ref (zb_ad G b1)), (2, .int l2), (3, .int l3), (4, .int l4), (6, .int l6), (7, .int l7)] [.int s0, .ref (zb_ad G 21)] S (fX6_layGoes_125 N b1 k19 S l2 l3 l4 l6 l7 s0) := by
  unfold fX6_layGoes_125
  refine zg_iconst (v := 0) dX6_layGoes_125 (by decide) ?_
  exact gX6_layGoes_126 N b1 h1 k19 hk19 S l2 l3 l4 l6 l7 0 s0
def fX6_layGoes_119 (N : Nat) (b1 : Nat) (k19 : zb_S → Int32 → Int32 → Option (Unit × zb_S)) (S : zb_S) (l2 : Int32) (l3 : Int32) (l4 : Int32) (l6 : Int32) (l7 : Int32) (s0 : Int32) : Option (Unit × zb_S) :=
  fX6_layGoes_126 N b1 k19 S l2 l3 l4 l6 l7 ((1 : Int32) <<< (l2 &&& 31)) s0
set_option maxHeartbeats 4000000 in
set_option maxRecDepth 100000 in
theorem gX6_layGoes_119 {l : Launch} {G : zb_G} (N : Nat) (b1 : Nat) (h1 : zb_kd b1 = 7) (k19 : zb_S → Int32 → Int32 → Option (Unit × zb_S)) (hk19 : ∀ (S : zb_S) (l2 : Int32) (l3 : Int32), zb_Go zb_eV l G 3 RX6 cX6_layGoes 8 none 19 [(0, .ref (zb_ad G 21)), (1, .ref (zb_ad G b1)), (2, .int l2), (3, .int l3)] [] S (k19 S l2 l3)) (S : zb_S) (l2 : Int32) (l3 : Int32) (l4 : Int32) (l6 : Int32) (l7 : Int32) (s0 : Int32) : zb_Go zb_eV l G 3 RX6 cX6_layGoes 8 none 119 [(0, .ref (zb_ad G 21)), (1, .ref (zb_ad G b1)), (2, .int l2), (3, .int l3), (4, .int l4), (6, .int l6), (7, .int l7)] [.int s0, .ref (zb_ad G 21)] S (fX6_layGoes_119 N b1 k19 S l2 l3 l4 l6 l7 s0) := by
  unfold fX6_layGoes_119
  refine zg_iconst (v := 1) dX6_layGoes_119 (by decide) ?_
  refine zg_iload_n 2 dX6_layGoes_120 rfl rfl ?_
  refine zg_ishl dX6_layGoes_121 ?_
  refine zg_goto (tgt := 126) dX6_layGoes_122 (by decide) ?_
  exact gX6_layGoes_126 N b1 h1 k19 hk19 S l2 l3 l4 l6 l7 ((1 : Int32) <<< (l2 &&& 31)) s0
def fX6_layGoes_97 (N : Nat) (b1 : Nat) (k19 : zb_S → Int32 → Int32 → Option (Unit × zb_S)) (S : zb_S) (l2 : Int32) (l3 : Int32) (l4 : Int32) (l5 : Int32) (l6 : Int32) (s0 : Int32) : Option (Unit × zb_S) :=
  if l5 = 0 then
    fX6_layGoes_125 N b1 k19 S l2 l3 l4 l6 s0 (zb_i S 21 24)
  else
    if l6 = 0 then
      fX6_layGoes_119 N b1 k19 S l2 l3 l4 l6 s0 (zb_i S 21 24)
    else
      if s0 = 0 then
        fX6_layGoes_119 N b1 k19 S l2 l3 l4 l6 s0 (zb_i S 21 24)
      else
        fX6_layGoes_125 N b1 k19 S l2 l3 l4 l6 s0 (zb_i S 21 24)
set_option maxHeartbeats 4000000 in
set_option maxRecDepth 100000 in
theorem gX6_layGoes_97 {l : Launch} {G : zb_G} (N : Nat) (b1 : Nat) (h1 : zb_kd b1 = 7) (k19 : zb_S → Int32 → Int32 → Option (Unit × zb_S)) (hk19 : ∀ (S : zb_S) (l2 : Int32) (l3 : Int32), zb_Go zb_eV l G 3 RX6 cX6_layGoes 8 none 19 [(0, .ref (zb_ad G 21)), (1, .ref (zb_ad G b1)), (2, .int l2), (3, .int l3)] [] S (k19 S l2 l3)) (S : zb_S) (l2 : Int32) (l3 : Int32) (l4 : Int32) (l5 : Int32) (l6 : Int32) (s0 : Int32) : zb_Go zb_eV l G 3 RX6 cX6_layGoes 8 none 97 [(0, .ref (zb_ad G 21)), (1, .ref (zb_ad G b1)), (2, .int l2), (3, .int l3), (4, .int l4), (5, .int l5), (6, .int l6)] [.int s0] S (fX6_layGoes_97 N b1 k19 S l2 l3 l4 l5 l6 s0) := by
  unfold fX6_layGoes_97
  refine zg_istore (lv' := [(7, .int s0), (0, .ref (zb_ad G 21)), (1, .ref (zb_ad G b1)), (2, .int l2), (3, .int l3), (4, .int l4), (5, .int l5), (6, .int l6)]) dX6_layGoes_97 (by decide) rfl ?_
  refine zg_aload_n 1 dX6_layGoes_99 rfl rfl ?_
  refine zg_dup dX6_layGoes_100 rfl ?_
  refine zq_X6_24 rfl zw_495 dX6_layGoes_101 ?_
  refine zg_iload 6 dX6_layGoes_104 rfl ?_
  refine zg_if_eq 125 dX6_layGoes_106 (by decide) ?_ ?_
  · refine zg_sub [1, 2, 3, 4, 5, 7, 0] rfl ?_
    exact gX6_layGoes_125 N b1 h1 k19 hk19 S l2 l3 l4 l6 s0 (zb_i S 21 24)
  · refine zg_iload 7 dX6_layGoes_109 rfl ?_
    refine zg_if_eq 119 dX6_layGoes_111 (by decide) ?_ ?_
    · refine zg_sub [1, 2, 3, 4, 5, 7, 0] rfl ?_
      exact gX6_layGoes_119 N b1 h1 k19 hk19 S l2 l3 l4 l6 s0 (zb_i S 21 24)
    · refine zg_iload 0 dX6_layGoes_114 rfl ?_
      refine zg_if_ne 125 dX6_layGoes_116 (by decide) ?_ ?_
      · refine zg_sub [1, 2, 3, 4, 5, 7, 0] rfl ?_
        exact gX6_layGoes_125 N b1 h1 k19 hk19 S l2 l3 l4 l6 s0 (zb_i S 21 24)
      · refine zg_sub [1, 2, 3, 4, 5, 7, 0] rfl ?_
        exact gX6_layGoes_119 N b1 h1 k19 hk19 S l2 l3 l4 l6 s0 (zb_i S 21 24)
def fX6_layGoes_71 (N : Nat) (b1 : Nat) (k19 : zb_S → Int32 → Int32 → Option (Unit × zb_S)) (S : zb_S) (l2 : Int32) (l3 : Int32) (l4 : Int32) (l5 : Int32) (s0 : Int32) : Option (Unit × zb_S) :=
  if zb_in ((6 * l3) + 5) (zb_sz b1) then
  if zb_in ((6 * l2) + 5) (zb_sz b1) then
  if (zb_a S b1 (Int32.toNatClampNeg ((6 * l2) + 5))) ≤ (zb_a S b1 (Int32.toNatClampNeg ((6 * l3) + 5))) then
    fX6_layGoes_97 N b1 k19 S l2 l3 l4 l5 s0 0
  else
    fX6_layGoes_97 N b1 k19 S l2 l3 l4 l5 s0 1 else none else none
set_option maxHeartbeats 4000000 in
set_option maxRecDepth 100000 in
theorem gX6_layGoes_71 {l : Launch} {G : zb_G} (N : Nat) (b1 : Nat) (h1 : zb_kd b1 = 7) (k19 : zb_S → Int32 → Int32 → Option (Unit × zb_S)) (hk19 : ∀ (S : zb_S) (l2 : Int32) (l3 : Int32), zb_Go zb_eV l G 3 RX6 cX6_layGoes 8 none 19 [(0, .ref (zb_ad G 21)), (1, .ref (zb_ad G b1)), (2, .int l2), (3, .int l3)] [] S (k19 S l2 l3)) (S : zb_S) (l2 : Int32) (l3 : Int32) (l4 : Int32) (l5 : Int32) (s0 : Int32) : zb_Go zb_eV l G 3 RX6 cX6_layGoes 8 none 71 [(0, .ref (zb_ad G 21)), (1, .ref (zb_ad G b1)), (2, .int l2), (3, .int l3), (4, .int l4), (5, .int l5)] [.int s0] S (fX6_layGoes_71 N b1 k19 S l2 l3 l4 l5 s0) := by
  unfold fX6_layGoes_71
  refine zg_istore (lv' := [(6, .int s0), (0, .ref (zb_ad G 21)), (1, .ref (zb_ad G b1)), (2, .int l2), (3, .int l3), (4, .int l4), (5, .int l5)]) dX6_layGoes_71 (by decide) rfl ?_
  refine zg_aload_n 2 dX6_layGoes_73 rfl rfl ?_
  refine zg_bipush (v := 6) dX6_layGoes_74 (by decide) ?_
  refine zg_iload_n 4 dX6_layGoes_76 rfl rfl ?_
  refine zg_imul dX6_layGoes_77 ?_
  refine zg_iconst (v := 5) dX6_layGoes_78 (by decide) ?_
  refine zg_iadd dX6_layGoes_79 ?_
  refine zg_iald h1 dX6_layGoes_80 ?_
  refine zg_aload_n 2 dX6_layGoes_81 rfl rfl ?_
  refine zg_bipush (v := 6) dX6_layGoes_82 (by decide) ?_
  refine zg_iload_n 3 dX6_layGoes_84 rfl rfl ?_
  refine zg_imul dX6_layGoes_85 ?_
  refine zg_iconst (v := 5) dX6_layGoes_86 (by decide) ?_
  refine zg_iadd dX6_layGoes_87 ?_
  refine zg_iald h1 dX6_layGoes_88 ?_
  refine zg_icmp_ge 96 dX6_layGoes_89 (by decide) ?_ ?_
  · refine zg_iconst (v := 0) dX6_layGoes_96 (by decide) ?_
    refine zg_sub [1, 2, 3, 4, 5, 6, 0] rfl ?_
    exact gX6_layGoes_97 N b1 h1 k19 hk19 S l2 l3 l4 l5 s0 0
  · refine zg_iconst (v := 1) dX6_layGoes_92 (by decide) ?_
    refine zg_goto (tgt := 97) dX6_layGoes_93 (by decide) ?_
    refine zg_sub [1, 2, 3, 4, 5, 6, 0] rfl ?_
    exact gX6_layGoes_97 N b1 h1 k19 hk19 S l2 l3 l4 l5 s0 1
def fX6_layGoes_70 (N : Nat) (b1 : Nat) (k19 : zb_S → Int32 → Int32 → Option (Unit × zb_S)) (S : zb_S) (l2 : Int32) (l3 : Int32) (l4 : Int32) (l5 : Int32) : Option (Unit × zb_S) :=
  fX6_layGoes_71 N b1 k19 S l2 l3 l4 l5 0
set_option maxHeartbeats 4000000 in
set_option maxRecDepth 100000 in
theorem gX6_layGoes_70 {l : Launch} {G : zb_G} (N : Nat) (b1 : Nat) (h1 : zb_kd b1 = 7) (k19 : zb_S → Int32 → Int32 → Option (Unit × zb_S)) (hk19 : ∀ (S : zb_S) (l2 : Int32) (l3 : Int32), zb_Go zb_eV l G 3 RX6 cX6_layGoes 8 none 19 [(0, .ref (zb_ad G 21)), (1, .ref (zb_ad G b1)), (2, .int l2), (3, .int l3)] [] S (k19 S l2 l3)) (S : zb_S) (l2 : Int32) (l3 : Int32) (l4 : Int32) (l5 : Int32) : zb_Go zb_eV l G 3 RX6 cX6_layGoes 8 none 70 [(0, .ref (zb_ad G 21)), (1, .ref (zb_ad G b1)), (2, .int l2), (3, .int l3), (4, .int l4), (5, .int l5)] [] S (fX6_layGoes_70 N b1 k19 S l2 l3 l4 l5) := by
  unfold fX6_layGoes_70
  refine zg_iconst (v := 0) dX6_layGoes_70 (by decide) ?_
  exact gX6_layGoes_71 N b1 h1 k19 hk19 S l2 l3 l4 l5 0
def fX6_layGoes_19b (N : Nat) (b1 : Nat) (k19 : zb_S → Int32 → Int32 → Option (Unit × zb_S)) (S : zb_S) (l2 : Int32) (l3 : Int32) : Option (Unit × zb_S) :=
  if l3 < 0 then
    zb_bind (fX6_zones N S) (fun r2 S1 =>
    zb_let (r2 - 2) (fun x3 : Int32 =>
    fX6_layGoes_186 N b1 N S1 x3))
  else
    zb_bind (fX6_may N b1 S l3) (fun r5 S4 =>
    if l3 = ((zb_i S4 21 6) - 1) then
      if (zb_i S4 21 5) ≤ 0 then
        fX6_layGoes_152 N b1 k19 S4 l2 l3 r5
      else
        zb_bind (fX6_may N b1 S4 l2) (fun r7 S6 =>
        if r5 = 0 then
          fX6_layGoes_70 N b1 k19 S6 l2 l3 r5 r7
        else
          if r7 = 0 then
            fX6_layGoes_70 N b1 k19 S6 l2 l3 r5 r7
          else
            fX6_layGoes_71 N b1 k19 S6 l2 l3 r5 r7 1)
    else
      fX6_layGoes_152 N b1 k19 S4 l2 l3 r5)
set_option maxHeartbeats 4000000 in
set_option maxRecDepth 100000 in
theorem gX6_layGoes_19b {l : Launch} {G : zb_G} (N : Nat) (b1 : Nat) (h1 : zb_kd b1 = 7) (k19 : zb_S → Int32 → Int32 → Option (Unit × zb_S)) (hk19 : ∀ (S : zb_S) (l2 : Int32) (l3 : Int32), zb_Go zb_eV l G 3 RX6 cX6_layGoes 8 none 19 [(0, .ref (zb_ad G 21)), (1, .ref (zb_ad G b1)), (2, .int l2), (3, .int l3)] [] S (k19 S l2 l3)) (S : zb_S) (l2 : Int32) (l3 : Int32) : zb_Go zb_eV l G 3 RX6 cX6_layGoes 8 none 19 [(0, .ref (zb_ad G 21)), (1, .ref (zb_ad G b1)), (2, .int l2), (3, .int l3)] [] S (fX6_layGoes_19b N b1 k19 S l2 l3) := by
  unfold fX6_layGoes_19b
  refine zg_iload_n 3 dX6_layGoes_19 rfl rfl ?_
  refine zg_if_lt 179 dX6_layGoes_20 (by decide) ?_ ?_
  · refine zg_aload_n 0 dX6_layGoes_179 rfl rfl ?_
    refine zg_callVI (As := []) (rest := []) 0 (zcX6_zones N S) (by decide) (by decide) rfl (by decide) rfl zw_220 zw_221 zw_222 zw_5 zw_223 (by decide +kernel) rfl rfl (Nat.le_of_ble_eq_true rfl) dX6_layGoes_180 (fun r2 S1 => ?_)
    refine zg_iconst (v := 2) dX6_layGoes_183 (by decide) ?_
    refine zg_isub dX6_layGoes_184 ?_
    refine zg_istore_nL (fun x3 => [(3, .int x3), (0, .ref (zb_ad G 21)), (1, .ref (zb_ad G b1)), (2, .int l2)]) dX6_layGoes_185 rfl (by decide) (fun _ => rfl) (fun x3 => ?_)
    refine zg_sub [1, 2, 0] rfl ?_
    exact gX6_layGoes_186 N b1 h1 N S1 x3
  · refine zg_aload_n 0 dX6_layGoes_23 rfl rfl ?_
    refine zg_aload_n 1 dX6_layGoes_24 rfl rfl ?_
    refine zg_iload_n 3 dX6_layGoes_25 rfl rfl ?_
    refine zg_callVI (As := [.ref (zb_ad G b1), .int l3]) (rest := []) 2 (zcX6_may N b1 h1 S l3) (by decide) (by decide) rfl (by decide) rfl zw_496 zw_497 zw_498 zw_5 zw_499 (by decide +kernel) rfl rfl (Nat.le_of_ble_eq_true rfl) dX6_layGoes_26 (fun r5 S4 => ?_)
    refine zg_istore (lv' := [(4, .int r5), (0, .ref (zb_ad G 21)), (1, .ref (zb_ad G b1)), (2, .int l2), (3, .int l3)]) dX6_layGoes_29 (by decide) rfl ?_
    refine zg_iload_n 4 dX6_layGoes_31 rfl rfl ?_
    refine zg_aload_n 1 dX6_layGoes_32 rfl rfl ?_
    refine zq_X6_6 rfl zw_90 dX6_layGoes_33 ?_
    refine zg_iconst (v := 1) dX6_layGoes_36 (by decide) ?_
    refine zg_isub dX6_layGoes_37 ?_
    refine zg_icmp_ne 152 dX6_layGoes_38 (by decide) ?_ ?_
    · refine zg_sub [1, 2, 3, 4, 0] rfl ?_
      exact gX6_layGoes_152 N b1 h1 k19 hk19 S4 l2 l3 r5
    · refine zg_aload_n 1 dX6_layGoes_41 rfl rfl ?_
      refine zq_X6_5 rfl zw_218 dX6_layGoes_42 ?_
      refine zg_if_le 152 dX6_layGoes_45 (by decide) ?_ ?_
      · refine zg_sub [1, 2, 3, 4, 0] rfl ?_
        exact gX6_layGoes_152 N b1 h1 k19 hk19 S4 l2 l3 r5
      · refine zg_aload_n 1 dX6_layGoes_48 rfl rfl ?_
        refine zg_aload_n 2 dX6_layGoes_49 rfl rfl ?_
        refine zg_iload_n 3 dX6_layGoes_50 rfl rfl ?_
        refine zg_callVI (As := [.ref (zb_ad G b1), .int l2]) (rest := []) 2 (zcX6_may N b1 h1 S4 l2) (by decide) (by decide) rfl (by decide) rfl zw_496 zw_497 zw_498 zw_5 zw_499 (by decide +kernel) rfl rfl (Nat.le_of_ble_eq_true rfl) dX6_layGoes_51 (fun r7 S6 => ?_)
        refine zg_istore (lv' := [(5, .int r7), (4, .int r5), (0, .ref (zb_ad G 21)), (1, .ref (zb_ad G b1)), (2, .int l2), (3, .int l3)]) dX6_layGoes_54 (by decide) rfl ?_
        refine zg_iload 1 dX6_layGoes_56 rfl ?_
        refine zg_if_eq 70 dX6_layGoes_58 (by decide) ?_ ?_
        · refine zg_sub [2, 3, 4, 5, 1, 0] rfl ?_
          exact gX6_layGoes_70 N b1 h1 k19 hk19 S6 l2 l3 r5 r7
        · refine zg_iload 0 dX6_layGoes_61 rfl ?_
          refine zg_if_eq 70 dX6_layGoes_63 (by decide) ?_ ?_
          · refine zg_sub [2, 3, 4, 5, 1, 0] rfl ?_
            exact gX6_layGoes_70 N b1 h1 k19 hk19 S6 l2 l3 r5 r7
          · refine zg_iconst (v := 1) dX6_layGoes_66 (by decide) ?_
            refine zg_goto (tgt := 71) dX6_layGoes_67 (by decide) ?_
            refine zg_sub [2, 3, 4, 5, 1, 0] rfl ?_
            exact gX6_layGoes_71 N b1 h1 k19 hk19 S6 l2 l3 r5 r7 1
def fX6_layGoes_19 (N : Nat) (b1 : Nat) : Nat → zb_S → Int32 → Int32 → Option (Unit × zb_S)
  | 0, _, _, _ => none
  | n + 1, S, l2, l3 => fX6_layGoes_19b N b1 (fX6_layGoes_19 N b1 n) S l2 l3
set_option maxHeartbeats 4000000 in
set_option maxRecDepth 100000 in
theorem gX6_layGoes_19 {l : Launch} {G : zb_G} (N : Nat) (b1 : Nat) (h1 : zb_kd b1 = 7) : ∀ (n : Nat) (S : zb_S) (l2 : Int32) (l3 : Int32), zb_Go zb_eV l G 3 RX6 cX6_layGoes 8 none 19 [(0, .ref (zb_ad G 21)), (1, .ref (zb_ad G b1)), (2, .int l2), (3, .int l3)] [] S (fX6_layGoes_19 N b1 n S l2 l3) := by
  intro n
  induction n with
  | zero => intros; exact zg_none
  | succ n ih =>
    intro S l2 l3
    exact gX6_layGoes_19b N b1 h1 (fX6_layGoes_19 N b1 n) ih S l2 l3
def fX6_layGoes_0 (N : Nat) (b1 : Nat) (S : zb_S) : Option (Unit × zb_S) :=
  zb_let (zb_pi S 21 24 0) (fun S1 : zb_S =>
  zb_bind (fX6_zones N S1) (fun r3 S2 =>
  zb_let (r3 - 1) (fun x4 : Int32 =>
  zb_let ((zb_i S2 21 4) - 1) (fun x5 : Int32 =>
  fX6_layGoes_19 N b1 N S2 x4 x5))))
set_option maxHeartbeats 4000000 in
set_option maxRecDepth 100000 in
theorem gX6_layGoes_0 {l : Launch} {G : zb_G} (N : Nat) (b1 : Nat) (h1 : zb_kd b1 = 7) (S : zb_S) : zb_Go zb_eV l G 3 RX6 cX6_layGoes 8 none 0 [(0, .ref (zb_ad G 21)), (1, .ref (zb_ad G b1))] [] S (fX6_layGoes_0 N b1 S) := by
  unfold fX6_layGoes_0
  refine zg_aload_n 0 dX6_layGoes_0 rfl rfl ?_
  refine zg_iconst (v := 0) dX6_layGoes_1 (by decide) ?_
  refine zp_X6_24 rfl zw_495 dX6_layGoes_2 (fun S1 => ?_)
  refine zg_aload_n 0 dX6_layGoes_5 rfl rfl ?_
  refine zg_callVI (As := []) (rest := []) 0 (zcX6_zones N S1) (by decide) (by decide) rfl (by decide) rfl zw_220 zw_221 zw_222 zw_5 zw_223 (by decide +kernel) rfl rfl (Nat.le_of_ble_eq_true rfl) dX6_layGoes_6 (fun r3 S2 => ?_)
  refine zg_iconst (v := 1) dX6_layGoes_9 (by decide) ?_
  refine zg_isub dX6_layGoes_10 ?_
  refine zg_istore_nL (fun x4 => [(2, .int x4), (0, .ref (zb_ad G 21)), (1, .ref (zb_ad G b1))]) dX6_layGoes_11 rfl (by decide) (fun _ => rfl) (fun x4 => ?_)
  refine zg_aload_n 1 dX6_layGoes_12 rfl rfl ?_
  refine zq_X6_4 rfl zw_89 dX6_layGoes_13 ?_
  refine zg_iconst (v := 1) dX6_layGoes_16 (by decide) ?_
  refine zg_isub dX6_layGoes_17 ?_
  refine zg_istore_nL (fun x5 => [(3, .int x5), (2, .int x4), (0, .ref (zb_ad G 21)), (1, .ref (zb_ad G b1))]) dX6_layGoes_18 rfl (by decide) (fun _ => rfl) (fun x5 => ?_)
  refine zg_sub [2, 3, 1, 0] rfl ?_
  exact gX6_layGoes_19 N b1 h1 N S2 x4 x5
def fX6_layGoes (N : Nat) (b1 : Nat) (S : zb_S) : Option (Unit × zb_S) := fX6_layGoes_0 N b1 S
theorem zcX6_layGoes {l : Launch} {G : zb_G} (N : Nat) (b1 : Nat) (h1 : zb_kd b1 = 7) (S : zb_S) : zb_C zb_eV l G 3 yX6_layGoes cX6_layGoes 8 none [.ref (zb_ad G 21), .ref (zb_ad G b1)] S (fX6_layGoes N b1 S) :=
  zb_C.of (by decide +kernel) rfl (Nat.le_of_ble_eq_true rfl) rfl (gX6_layGoes_0 N b1 h1 S)
-- X6_moveOn
def fX6_moveOn_0 (N : Nat) (b1 : Nat) (S : zb_S) (a2 : Int32) : Option (Unit × zb_S) :=
  zb_bind (fX6_has N S (zb_i S 21 24) a2) (fun r2 S1 =>
  if r2 = 0 then
    some ((), S1)
  else
    zb_let (6 * a2) (fun x3 : Int32 =>
    zb_bind (fX6_behind N S1 a2) (fun r5 S4 =>
    if zb_in (x3 + 5) (zb_sz b1) then zb_let (zb_pa S4 b1 (Int32.toNatClampNeg (x3 + 5)) 0) (fun S6 : zb_S =>
    if zb_in (x3 + 0) (zb_sz b1) then
    if (zb_a S6 b1 (Int32.toNatClampNeg (x3 + 0))) = 0 then
      some ((), S6)
    else
      if r5 = 99 then
        if zb_in (x3 + 0) (zb_sz b1) then
        zb_let (zb_pi S6 21 26 (zb_a S6 b1 (Int32.toNatClampNeg (x3 + 0)))) (fun S10 : zb_S =>
        if zb_in (x3 + 0) (zb_sz b1) then zb_let (zb_pa S10 b1 (Int32.toNatClampNeg (x3 + 0)) 0) (fun S11 : zb_S =>
        if zb_in 77 (zb_sz b1) then
        if zb_in 77 (zb_sz b1) then zb_let (zb_pa S11 b1 (Int32.toNatClampNeg 77) ((zb_a S11 b1 (Int32.toNatClampNeg 77)) + 1)) (fun S12 : zb_S =>
        some ((), S12)) else none else none) else none) else none
      else
        if zb_in ((6 * r5) + 0) (zb_sz b1) then
        if (zb_a S6 b1 (Int32.toNatClampNeg ((6 * r5) + 0))) = 0 then
          if zb_in (x3 + 0) (zb_sz b1) then
          if zb_in ((6 * r5) + 0) (zb_sz b1) then zb_let (zb_pa S6 b1 (Int32.toNatClampNeg ((6 * r5) + 0)) (zb_a S6 b1 (Int32.toNatClampNeg (x3 + 0)))) (fun S8 : zb_S =>
          if zb_in (x3 + 0) (zb_sz b1) then zb_let (zb_pa S8 b1 (Int32.toNatClampNeg (x3 + 0)) 0) (fun S9 : zb_S =>
          some ((), S9)) else none) else none else none
        else
          if zb_in (x3 + 2) (zb_sz b1) then zb_let (zb_pa S6 b1 (Int32.toNatClampNeg (x3 + 2)) 1) (fun S7 : zb_S =>
          some ((), S7)) else none else none else none) else none)))
set_option maxHeartbeats 4000000 in
set_option maxRecDepth 100000 in
theorem gX6_moveOn_0 {l : Launch} {G : zb_G} (N : Nat) (b1 : Nat) (h1 : zb_kd b1 = 7) (S : zb_S) (a2 : Int32) : zb_Go zb_eV l G 2 RX6 cX6_moveOn 5 none 0 [(0, .ref (zb_ad G 21)), (1, .ref (zb_ad G b1)), (2, .int a2)] [] S (fX6_moveOn_0 N b1 S a2) := by
  unfold fX6_moveOn_0
  refine zg_aload_n 0 dX6_moveOn_0 rfl rfl ?_
  refine zq_X6_24 rfl zw_495 dX6_moveOn_1 ?_
  refine zg_iload_n 2 dX6_moveOn_4 rfl rfl ?_
  refine zg_callSI (As := [.int (zb_i S 21 24), .int a2]) (rest := []) 2 (zcX6_has N S (zb_i S 21 24) a2) (by decide) (by decide) zw_484 zw_485 zw_5 zw_486 (by decide +kernel) rfl rfl (Nat.le_of_ble_eq_true rfl) dX6_moveOn_5 (fun r2 S1 => ?_)
  refine zg_if_ne 12 dX6_moveOn_8 (by decide) ?_ ?_
  · refine zg_bipush (v := 6) dX6_moveOn_12 (by decide) ?_
    refine zg_iload_n 2 dX6_moveOn_14 rfl rfl ?_
    refine zg_imul dX6_moveOn_15 ?_
    refine zg_istore_nL (fun x3 => [(3, .int x3), (0, .ref (zb_ad G 21)), (1, .ref (zb_ad G b1)), (2, .int a2)]) dX6_moveOn_16 rfl (by decide) (fun _ => rfl) (fun x3 => ?_)
    refine zg_aload_n 1 dX6_moveOn_17 rfl rfl ?_
    refine zg_iload_n 3 dX6_moveOn_18 rfl rfl ?_
    refine zg_callVI (As := [.int a2]) (rest := []) 1 (zcX6_behind N S1 a2) (by decide) (by decide) rfl (by decide) rfl zw_500 zw_501 zw_502 zw_5 zw_503 (by decide +kernel) rfl rfl (Nat.le_of_ble_eq_true rfl) dX6_moveOn_19 (fun r5 S4 => ?_)
    refine zg_istore (lv' := [(4, .int r5), (3, .int x3), (0, .ref (zb_ad G 21)), (1, .ref (zb_ad G b1)), (2, .int a2)]) dX6_moveOn_22 (by decide) rfl ?_
    refine zg_aload_n 3 dX6_moveOn_24 rfl rfl ?_
    refine zg_iload_n 1 dX6_moveOn_25 rfl rfl ?_
    refine zg_iconst (v := 5) dX6_moveOn_26 (by decide) ?_
    refine zg_iadd dX6_moveOn_27 ?_
    refine zg_iconst (v := 0) dX6_moveOn_28 (by decide) ?_
    refine zg_iast h1 dX6_moveOn_29 (fun S6 => ?_)
    refine zg_aload_n 3 dX6_moveOn_30 rfl rfl ?_
    refine zg_iload_n 1 dX6_moveOn_31 rfl rfl ?_
    refine zg_iconst (v := 0) dX6_moveOn_32 (by decide) ?_
    refine zg_iadd dX6_moveOn_33 ?_
    refine zg_iald h1 dX6_moveOn_34 ?_
    refine zg_if_ne 39 dX6_moveOn_35 (by decide) ?_ ?_
    · refine zg_iload 0 dX6_moveOn_39 rfl ?_
      refine zg_bipush (v := 99) dX6_moveOn_41 (by decide) ?_
      refine zg_icmp_ne 72 dX6_moveOn_43 (by decide) ?_ ?_
      · refine zg_aload_n 3 dX6_moveOn_72 rfl rfl ?_
        refine zg_bipush (v := 6) dX6_moveOn_73 (by decide) ?_
        refine zg_iload 0 dX6_moveOn_75 rfl ?_
        refine zg_imul dX6_moveOn_77 ?_
        refine zg_iconst (v := 0) dX6_moveOn_78 (by decide) ?_
        refine zg_iadd dX6_moveOn_79 ?_
        refine zg_iald h1 dX6_moveOn_80 ?_
        refine zg_if_ne 107 dX6_moveOn_81 (by decide) ?_ ?_
        · refine zg_aload_n 3 dX6_moveOn_107 rfl rfl ?_
          refine zg_iload_n 1 dX6_moveOn_108 rfl rfl ?_
          refine zg_iconst (v := 2) dX6_moveOn_109 (by decide) ?_
          refine zg_iadd dX6_moveOn_110 ?_
          refine zg_iconst (v := 1) dX6_moveOn_111 (by decide) ?_
          refine zg_iast h1 dX6_moveOn_112 (fun S7 => ?_)
          exact zg_vret rfl dX6_moveOn_113
        · refine zg_aload_n 3 dX6_moveOn_84 rfl rfl ?_
          refine zg_bipush (v := 6) dX6_moveOn_85 (by decide) ?_
          refine zg_iload 0 dX6_moveOn_87 rfl ?_
          refine zg_imul dX6_moveOn_89 ?_
          refine zg_iconst (v := 0) dX6_moveOn_90 (by decide) ?_
          refine zg_iadd dX6_moveOn_91 ?_
          refine zg_aload_n 3 dX6_moveOn_92 rfl rfl ?_
          refine zg_iload_n 1 dX6_moveOn_93 rfl rfl ?_
          refine zg_iconst (v := 0) dX6_moveOn_94 (by decide) ?_
          refine zg_iadd dX6_moveOn_95 ?_
          refine zg_iald h1 dX6_moveOn_96 ?_
          refine zg_iast h1 dX6_moveOn_97 (fun S8 => ?_)
          refine zg_aload_n 3 dX6_moveOn_98 rfl rfl ?_
          refine zg_iload_n 1 dX6_moveOn_99 rfl rfl ?_
          refine zg_iconst (v := 0) dX6_moveOn_100 (by decide) ?_
          refine zg_iadd dX6_moveOn_101 ?_
          refine zg_iconst (v := 0) dX6_moveOn_102 (by decide) ?_
          refine zg_iast h1 dX6_moveOn_103 (fun S9 => ?_)
          refine zg_goto (tgt := 113) dX6_moveOn_104 (by decide) ?_
          exact zg_vret rfl dX6_moveOn_113
      · refine zg_aload_n 2 dX6_moveOn_46 rfl rfl ?_
        refine zg_aload_n 3 dX6_moveOn_47 rfl rfl ?_
        refine zg_iload_n 1 dX6_moveOn_48 rfl rfl ?_
        refine zg_iconst (v := 0) dX6_moveOn_49 (by decide) ?_
        refine zg_iadd dX6_moveOn_50 ?_
        refine zg_iald h1 dX6_moveOn_51 ?_
        refine zp_X6_26 rfl zw_472 dX6_moveOn_52 (fun S10 => ?_)
        refine zg_aload_n 3 dX6_moveOn_55 rfl rfl ?_
        refine zg_iload_n 1 dX6_moveOn_56 rfl rfl ?_
        refine zg_iconst (v := 0) dX6_moveOn_57 (by decide) ?_
        refine zg_iadd dX6_moveOn_58 ?_
        refine zg_iconst (v := 0) dX6_moveOn_59 (by decide) ?_
        refine zg_iast h1 dX6_moveOn_60 (fun S11 => ?_)
        refine zg_aload_n 3 dX6_moveOn_61 rfl rfl ?_
        refine zg_bipush (v := 77) dX6_moveOn_62 (by decide) ?_
        refine zg_dup2 dX6_moveOn_64 rfl rfl ?_
        refine zg_iald h1 dX6_moveOn_65 ?_
        refine zg_iconst (v := 1) dX6_moveOn_66 (by decide) ?_
        refine zg_iadd dX6_moveOn_67 ?_
        refine zg_iast h1 dX6_moveOn_68 (fun S12 => ?_)
        refine zg_goto (tgt := 113) dX6_moveOn_69 (by decide) ?_
        exact zg_vret rfl dX6_moveOn_113
    · exact zg_vret rfl dX6_moveOn_38
  · exact zg_vret rfl dX6_moveOn_11
def fX6_moveOn (N : Nat) (b1 : Nat) (S : zb_S) (a2 : Int32) : Option (Unit × zb_S) := fX6_moveOn_0 N b1 S a2
theorem zcX6_moveOn {l : Launch} {G : zb_G} (N : Nat) (b1 : Nat) (h1 : zb_kd b1 = 7) (S : zb_S) (a2 : Int32) : zb_C zb_eV l G 2 yX6_moveOn cX6_moveOn 5 none [.ref (zb_ad G 21), .ref (zb_ad G b1), .int a2] S (fX6_moveOn N b1 S a2) :=
  zb_C.of (by decide +kernel) rfl (Nat.le_of_ble_eq_true rfl) rfl (gX6_moveOn_0 N b1 h1 S a2)
-- X6_idleOn
def fX6_idleOn_64 (N : Nat) (b1 : Nat) (k8 : zb_S → Int32 → Int32 → Option (Unit × zb_S)) (k26 : zb_S → Int32 → Int32 → Int32 → Int32 → Option (Unit × zb_S)) (S : zb_S) (l2 : Int32) (l3 : Int32) (l5 : Int32) (s0 : Int32) : Option (Unit × zb_S) :=
  zb_let (l5 + 1) (fun x1 : Int32 =>
  k26 S l2 l3 s0 x1)
set_option maxHeartbeats 4000000 in
set_option maxRecDepth 100000 in
theorem gX6_idleOn_64 {l : Launch} {G : zb_G} (N : Nat) (b1 : Nat) (h1 : zb_kd b1 = 7) (k8 : zb_S → Int32 → Int32 → Option (Unit × zb_S)) (hk8 : ∀ (S : zb_S) (l2 : Int32) (l3 : Int32), zb_Go zb_eV l G 2 RX6 cX6_idleOn 6 none 8 [(0, .ref (zb_ad G 21)), (1, .ref (zb_ad G b1)), (2, .int l2), (3, .int l3)] [] S (k8 S l2 l3)) (k26 : zb_S → Int32 → Int32 → Int32 → Int32 → Option (Unit × zb_S)) (hk26 : ∀ (S : zb_S) (l2 : Int32) (l3 : Int32) (l4 : Int32) (l5 : Int32), zb_Go zb_eV l G 2 RX6 cX6_idleOn 6 none 26 [(0, .ref (zb_ad G 21)), (1, .ref (zb_ad G b1)), (2, .int l2), (3, .int l3), (4, .int l4), (5, .int l5)] [] S (k26 S l2 l3 l4 l5)) (S : zb_S) (l2 : Int32) (l3 : Int32) (l5 : Int32) (s0 : Int32) : zb_Go zb_eV l G 2 RX6 cX6_idleOn 6 none 64 [(0, .ref (zb_ad G 21)), (1, .ref (zb_ad G b1)), (2, .int l2), (3, .int l3), (5, .int l5)] [.int s0] S (fX6_idleOn_64 N b1 k8 k26 S l2 l3 l5 s0) := by
  unfold fX6_idleOn_64
  refine zg_istore (lv' := [(4, .int s0), (0, .ref (zb_ad G 21)), (1, .ref (zb_ad G b1)), (2, .int l2), (3, .int l3), (5, .int l5)]) dX6_idleOn_64 (by decide) rfl ?_
  refine zg_iincL (fun x1 => [(5, .int x1), (4, .int s0), (0, .ref (zb_ad G 21)), (1, .ref (zb_ad G b1)), (2, .int l2), (3, .int l3)]) 5 dX6_idleOn_66 rfl rfl (by decide) (fun _ => rfl) (fun x1 => ?_)
  refine zg_goto (tgt := 26) dX6_idleOn_69 (by decide) ?_
  refine zg_sub [2, 3, 4, 5, 1, 0] rfl ?_
  exact hk26 S l2 l3 s0 x1
def fX6_idleOn_59 (N : Nat) (b1 : Nat) (k8 : zb_S → Int32 → Int32 → Option (Unit × zb_S)) (k26 : zb_S → Int32 → Int32 → Int32 → Int32 → Option (Unit × zb_S)) (S : zb_S) (l2 : Int32) (l3 : Int32) (l5 : Int32) : Option (Unit × zb_S) :=
  fX6_idleOn_64 N b1 k8 k26 S l2 l3 l5 1
set_option maxHeartbeats 4000000 in
set_option maxRecDepth 100000 in
theorem gX6_idleOn_59 {l : Launch} {G : zb_G} (N : Nat) (b1 : Nat) (h1 : zb_kd b1 = 7) (k8 : zb_S → Int32 → Int32 → Option (Unit × zb_S)) (hk8 : ∀ (S : zb_S) (l2 : Int32) (l3 : Int32), zb_Go zb_eV l G 2 RX6 cX6_idleOn 6 none 8 [(0, .ref (zb_ad G 21)), (1, .ref (zb_ad G b1)), (2, .int l2), (3, .int l3)] [] S (k8 S l2 l3)) (k26 : zb_S → Int32 → Int32 → Int32 → Int32 → Option (Unit × zb_S)) (hk26 : ∀ (S : zb_S) (l2 : Int32) (l3 : Int32) (l4 : Int32) (l5 : Int32), zb_Go zb_eV l G 2 RX6 cX6_idleOn 6 none 26 [(0, .ref (zb_ad G 21)), (1, .ref (zb_ad G b1)), (2, .int l2), (3, .int l3), (4, .int l4), (5, .int l5)] [] S (k26 S l2 l3 l4 l5)) (S : zb_S) (l2 : Int32) (l3 : Int32) (l5 : Int32) : zb_Go zb_eV l G 2 RX6 cX6_idleOn 6 none 59 [(0, .ref (zb_ad G 21)), (1, .ref (zb_ad G b1)), (2, .int l2), (3, .int l3), (5, .int l5)] [] S (fX6_idleOn_59 N b1 k8 k26 S l2 l3 l5) := by
  unfold fX6_idleOn_59
  refine zg_iconst (v := 1) dX6_idleOn_59 (by decide) ?_
  refine zg_goto (tgt := 64) dX6_idleOn_60 (by decide) ?_
  exact gX6_idleOn_64 N b1 h1 k8 hk8 k26 hk26 S l2 l3 l5 1
def fX6_idleOn_133 (N : Nat) (b1 : Nat) (k8 : zb_S → Int32 → Int32 → Option (Unit × zb_S)) (S : zb_S) (l2 : Int32) (l3 : Int32) : Option (Unit × zb_S) :=
  zb_let (l3 + 1) (fun x1 : Int32 =>
  k8 S l2 x1)
set_option maxHeartbeats 4000000 in
set_option maxRecDepth 100000 in
theorem gX6_idleOn_133 {l : Launch} {G : zb_G} (N : Nat) (b1 : Nat) (h1 : zb_kd b1 = 7) (k8 : zb_S → Int32 → Int32 → Option (Unit × zb_S)) (hk8 : ∀ (S : zb_S) (l2 : Int32) (l3 : Int32), zb_Go zb_eV l G 2 RX6 cX6_idleOn 6 none 8 [(0, .ref (zb_ad G 21)), (1, .ref (zb_ad G b1)), (2, .int l2), (3, .int l3)] [] S (k8 S l2 l3)) (S : zb_S) (l2 : Int32) (l3 : Int32) : zb_Go zb_eV l G 2 RX6 cX6_idleOn 6 none 133 [(0, .ref (zb_ad G 21)), (1, .ref (zb_ad G b1)), (2, .int l2), (3, .int l3)] [] S (fX6_idleOn_133 N b1 k8 S l2 l3) := by
  unfold fX6_idleOn_133
  refine zg_iincL (fun x1 => [(3, .int x1), (0, .ref (zb_ad G 21)), (1, .ref (zb_ad G b1)), (2, .int l2)]) 3 dX6_idleOn_133 rfl rfl (by decide) (fun _ => rfl) (fun x1 => ?_)
  refine zg_goto (tgt := 8) dX6_idleOn_136 (by decide) ?_
  refine zg_sub [1, 2, 3, 0] rfl ?_
  exact hk8 S l2 x1
def fX6_idleOn_100 (N : Nat) (b1 : Nat) (k8 : zb_S → Int32 → Int32 → Option (Unit × zb_S)) (S : zb_S) (l2 : Int32) (l3 : Int32) (l4 : Int32) (l5 : Int32) (s0 : Int32) (s1 : Int32) : Option (Unit × zb_S) :=
  if zb_in s1 (zb_sz b1) then zb_let (zb_pa S b1 (Int32.toNatClampNeg s1) s0) (fun S1 : zb_S =>
  if l4 = 0 then
    if zb_in 74 (zb_sz b1) then
    if (zb_a S1 b1 (Int32.toNatClampNeg 74)) ≤ 0 then
      fX6_idleOn_133 N b1 k8 S1 l2 l3
    else
      if zb_in (l5 + 4) (zb_sz b1) then
      if zb_in 74 (zb_sz b1) then
      if (zb_a S1 b1 (Int32.toNatClampNeg (l5 + 4))) < (zb_a S1 b1 (Int32.toNatClampNeg 74)) then
        fX6_idleOn_133 N b1 k8 S1 l2 l3
      else
        if zb_in (l5 + 3) (zb_sz b1) then zb_let (zb_pa S1 b1 (Int32.toNatClampNeg (l5 + 3)) 1) (fun S2 : zb_S =>
        fX6_idleOn_133 N b1 k8 S2 l2 l3) else none else none else none else none
  else
    fX6_idleOn_133 N b1 k8 S1 l2 l3) else none
set_option maxHeartbeats 4000000 in
set_option maxRecDepth 100000 in
theorem gX6_idleOn_100 {l : Launch} {G : zb_G} (N : Nat) (b1 : Nat) (h1 : zb_kd b1 = 7) (k8 : zb_S → Int32 → Int32 → Option (Unit × zb_S)) (hk8 : ∀ (S : zb_S) (l2 : Int32) (l3 : Int32), zb_Go zb_eV l G 2 RX6 cX6_idleOn 6 none 8 [(0, .ref (zb_ad G 21)), (1, .ref (zb_ad G b1)), (2, .int l2), (3, .int l3)] [] S (k8 S l2 l3)) (S : zb_S) (l2 : Int32) (l3 : Int32) (l4 : Int32) (l5 : Int32) (s0 : Int32) (s1 : Int32) : zb_Go zb_eV l G 2 RX6 cX6_idleOn 6 none 100 [(0, .ref (zb_ad G 21)), (1, .ref (zb_ad G b1)), (2, .int l2), (3, .int l3), (4, .int l4), (5, .int l5)] [.int s0, .int s1, .ref (zb_ad G b1)] S (fX6_idleOn_100 N b1 k8 S l2 l3 l4 l5 s0 s1) := by
  unfold fX6_idleOn_100
  refine zg_iast h1 dX6_idleOn_100 (fun S1 => ?_)
  refine zg_iload 4 dX6_idleOn_101 rfl ?_
  refine zg_if_ne 133 dX6_idleOn_103 (by decide) ?_ ?_
  · refine zg_sub [0, 1, 2, 3] rfl ?_
    exact gX6_idleOn_133 N b1 h1 k8 hk8 S1 l2 l3
  · refine zg_aload_n 1 dX6_idleOn_106 rfl rfl ?_
    refine zg_bipush (v := 74) dX6_idleOn_107 (by decide) ?_
    refine zg_iald h1 dX6_idleOn_109 ?_
    refine zg_if_le 133 dX6_idleOn_110 (by decide) ?_ ?_
    · refine zg_sub [0, 1, 2, 3] rfl ?_
      exact gX6_idleOn_133 N b1 h1 k8 hk8 S1 l2 l3
    · refine zg_aload_n 1 dX6_idleOn_113 rfl rfl ?_
      refine zg_iload 5 dX6_idleOn_114 rfl ?_
      refine zg_iconst (v := 4) dX6_idleOn_116 (by decide) ?_
      refine zg_iadd dX6_idleOn_117 ?_
      refine zg_iald h1 dX6_idleOn_118 ?_
      refine zg_aload_n 1 dX6_idleOn_119 rfl rfl ?_
      refine zg_bipush (v := 74) dX6_idleOn_120 (by decide) ?_
      refine zg_iald h1 dX6_idleOn_122 ?_
      refine zg_icmp_lt 133 dX6_idleOn_123 (by decide) ?_ ?_
      · refine zg_sub [0, 1, 2, 3] rfl ?_
        exact gX6_idleOn_133 N b1 h1 k8 hk8 S1 l2 l3
      · refine zg_aload_n 1 dX6_idleOn_126 rfl rfl ?_
        refine zg_iload 5 dX6_idleOn_127 rfl ?_
        refine zg_iconst (v := 3) dX6_idleOn_129 (by decide) ?_
        refine zg_iadd dX6_idleOn_130 ?_
        refine zg_iconst (v := 1) dX6_idleOn_131 (by decide) ?_
        refine zg_iast h1 dX6_idleOn_132 (fun S2 => ?_)
        refine zg_sub [0, 1, 2, 3] rfl ?_
        exact gX6_idleOn_133 N b1 h1 k8 hk8 S2 l2 l3
def fX6_idleOn_63 (N : Nat) (b1 : Nat) (k8 : zb_S → Int32 → Int32 → Option (Unit × zb_S)) (k26 : zb_S → Int32 → Int32 → Int32 → Int32 → Option (Unit × zb_S)) (S : zb_S) (l2 : Int32) (l3 : Int32) (l5 : Int32) : Option (Unit × zb_S) :=
  fX6_idleOn_64 N b1 k8 k26 S l2 l3 l5 0
set_option maxHeartbeats 4000000 in
set_option maxRecDepth 100000 in
theorem gX6_idleOn_63 {l : Launch} {G : zb_G} (N : Nat) (b1 : Nat) (h1 : zb_kd b1 = 7) (k8 : zb_S → Int32 → Int32 → Option (Unit × zb_S)) (hk8 : ∀ (S : zb_S) (l2 : Int32) (l3 : Int32), zb_Go zb_eV l G 2 RX6 cX6_idleOn 6 none 8 [(0, .ref (zb_ad G 21)), (1, .ref (zb_ad G b1)), (2, .int l2), (3, .int l3)] [] S (k8 S l2 l3)) (k26 : zb_S → Int32 → Int32 → Int32 → Int32 → Option (Unit × zb_S)) (hk26 : ∀ (S : zb_S) (l2 : Int32) (l3 : Int32) (l4 : Int32) (l5 : Int32), zb_Go zb_eV l G 2 RX6 cX6_idleOn 6 none 26 [(0, .ref (zb_ad G 21)), (1, .ref (zb_ad G b1)), (2, .int l2), (3, .int l3), (4, .int l4), (5, .int l5)] [] S (k26 S l2 l3 l4 l5)) (S : zb_S) (l2 : Int32) (l3 : Int32) (l5 : Int32) : zb_Go zb_eV l G 2 RX6 cX6_idleOn 6 none 63 [(0, .ref (zb_ad G 21)), (1, .ref (zb_ad G b1)), (2, .int l2), (3, .int l3), (5, .int l5)] [] S (fX6_idleOn_63 N b1 k8 k26 S l2 l3 l5) := by
  unfold fX6_idleOn_63
  refine zg_iconst (v := 0) dX6_idleOn_63 (by decide) ?_
  exact gX6_idleOn_64 N b1 h1 k8 hk8 k26 hk26 S l2 l3 l5 0
def fX6_idleOn_26b (N : Nat) (b1 : Nat) (k8 : zb_S → Int32 → Int32 → Option (Unit × zb_S)) (k26 : zb_S → Int32 → Int32 → Int32 → Int32 → Option (Unit × zb_S)) (S : zb_S) (l2 : Int32) (l3 : Int32) (l4 : Int32) (l5 : Int32) : Option (Unit × zb_S) :=
  zb_bind (fX6_zones N S) (fun r2 S1 =>
  if r2 ≤ l5 then
    zb_let (6 * l3) (fun x3 : Int32 =>
    if l4 = 0 then
      if zb_in (x3 + 4) (zb_sz b1) then
      fX6_idleOn_100 N b1 k8 S1 l2 l3 l4 x3 ((zb_a S1 b1 (Int32.toNatClampNeg (x3 + 4))) + 1) (x3 + 4) else none
    else
      fX6_idleOn_100 N b1 k8 S1 l2 l3 l4 x3 0 (x3 + 4))
  else
    if l4 = 0 then
      zb_bind (fX6_has N S1 l2 l5) (fun r5 S4 =>
      if r5 = 0 then
        fX6_idleOn_63 N b1 k8 k26 S4 l2 l3 l5
      else
        zb_bind (fX6_behind N S4 l5) (fun r7 S6 =>
        if r7 = l3 then
          fX6_idleOn_59 N b1 k8 k26 S6 l2 l3 l5
        else
          fX6_idleOn_63 N b1 k8 k26 S6 l2 l3 l5))
    else
      fX6_idleOn_59 N b1 k8 k26 S1 l2 l3 l5)
set_option maxHeartbeats 4000000 in
set_option maxRecDepth 100000 in
theorem gX6_idleOn_26b {l : Launch} {G : zb_G} (N : Nat) (b1 : Nat) (h1 : zb_kd b1 = 7) (k8 : zb_S → Int32 → Int32 → Option (Unit × zb_S)) (hk8 : ∀ (S : zb_S) (l2 : Int32) (l3 : Int32), zb_Go zb_eV l G 2 RX6 cX6_idleOn 6 none 8 [(0, .ref (zb_ad G 21)), (1, .ref (zb_ad G b1)), (2, .int l2), (3, .int l3)] [] S (k8 S l2 l3)) (k26 : zb_S → Int32 → Int32 → Int32 → Int32 → Option (Unit × zb_S)) (hk26 : ∀ (S : zb_S) (l2 : Int32) (l3 : Int32) (l4 : Int32) (l5 : Int32), zb_Go zb_eV l G 2 RX6 cX6_idleOn 6 none 26 [(0, .ref (zb_ad G 21)), (1, .ref (zb_ad G b1)), (2, .int l2), (3, .int l3), (4, .int l4), (5, .int l5)] [] S (k26 S l2 l3 l4 l5)) (S : zb_S) (l2 : Int32) (l3 : Int32) (l4 : Int32) (l5 : Int32) : zb_Go zb_eV l G 2 RX6 cX6_idleOn 6 none 26 [(0, .ref (zb_ad G 21)), (1, .ref (zb_ad G b1)), (2, .int l2), (3, .int l3), (4, .int l4), (5, .int l5)] [] S (fX6_idleOn_26b N b1 k8 k26 S l2 l3 l4 l5) := by
  unfold fX6_idleOn_26b
  refine zg_iload 5 dX6_idleOn_26 rfl ?_
  refine zg_aload_n 0 dX6_idleOn_28 rfl rfl ?_
  refine zg_callVI (As := []) (rest := [.int l5]) 0 (zcX6_zones N S) (by decide) (by decide) rfl (by decide) rfl zw_220 zw_221 zw_222 zw_5 zw_223 (by decide +kernel) rfl rfl (Nat.le_of_ble_eq_true rfl) dX6_idleOn_29 (fun r2 S1 => ?_)
  refine zg_icmp_ge 72 dX6_idleOn_32 (by decide) ?_ ?_
  · refine zg_bipush (v := 6) dX6_idleOn_72 (by decide) ?_
    refine zg_iload_n 3 dX6_idleOn_74 rfl rfl ?_
    refine zg_imul dX6_idleOn_75 ?_
    refine zg_istoreL (fun x3 => [(5, .int x3), (0, .ref (zb_ad G 21)), (1, .ref (zb_ad G b1)), (2, .int l2), (3, .int l3), (4, .int l4)]) dX6_idleOn_76 (by decide) (fun _ => rfl) (fun x3 => ?_)
    refine zg_aload_n 2 dX6_idleOn_78 rfl rfl ?_
    refine zg_iload 0 dX6_idleOn_79 rfl ?_
    refine zg_iconst (v := 4) dX6_idleOn_81 (by decide) ?_
    refine zg_iadd dX6_idleOn_82 ?_
    refine zg_iload 5 dX6_idleOn_83 rfl ?_
    refine zg_if_eq 92 dX6_idleOn_85 (by decide) ?_ ?_
    · refine zg_aload_n 2 dX6_idleOn_92 rfl rfl ?_
      refine zg_iload 0 dX6_idleOn_93 rfl ?_
      refine zg_iconst (v := 4) dX6_idleOn_95 (by decide) ?_
      refine zg_iadd dX6_idleOn_96 ?_
      refine zg_iald h1 dX6_idleOn_97 ?_
      refine zg_iconst (v := 1) dX6_idleOn_98 (by decide) ?_
      refine zg_iadd dX6_idleOn_99 ?_
      refine zg_sub [1, 2, 3, 4, 5, 0] rfl ?_
      exact gX6_idleOn_100 N b1 h1 k8 hk8 S1 l2 l3 l4 x3 ((zb_a S1 b1 (Int32.toNatClampNeg (x3 + 4))) + 1) (x3 + 4)
    · refine zg_iconst (v := 0) dX6_idleOn_88 (by decide) ?_
      refine zg_goto (tgt := 100) dX6_idleOn_89 (by decide) ?_
      refine zg_sub [1, 2, 3, 4, 5, 0] rfl ?_
      exact gX6_idleOn_100 N b1 h1 k8 hk8 S1 l2 l3 l4 x3 0 (x3 + 4)
  · refine zg_iload 4 dX6_idleOn_35 rfl ?_
    refine zg_if_ne 59 dX6_idleOn_37 (by decide) ?_ ?_
    · refine zg_sub [0, 1, 2, 3, 5] rfl ?_
      exact gX6_idleOn_59 N b1 h1 k8 hk8 k26 hk26 S1 l2 l3 l5
    · refine zg_iload_n 2 dX6_idleOn_40 rfl rfl ?_
      refine zg_iload 5 dX6_idleOn_41 rfl ?_
      refine zg_callSI (As := [.int l2, .int l5]) (rest := []) 2 (zcX6_has N S1 l2 l5) (by decide) (by decide) zw_484 zw_485 zw_5 zw_486 (by decide +kernel) rfl rfl (Nat.le_of_ble_eq_true rfl) dX6_idleOn_43 (fun r5 S4 => ?_)
      refine zg_if_eq 63 dX6_idleOn_46 (by decide) ?_ ?_
      · refine zg_sub [0, 1, 2, 3, 5] rfl ?_
        exact gX6_idleOn_63 N b1 h1 k8 hk8 k26 hk26 S4 l2 l3 l5
      · refine zg_aload_n 0 dX6_idleOn_49 rfl rfl ?_
        refine zg_iload 5 dX6_idleOn_50 rfl ?_
        refine zg_callVI (As := [.int l5]) (rest := []) 1 (zcX6_behind N S4 l5) (by decide) (by decide) rfl (by decide) rfl zw_500 zw_501 zw_502 zw_5 zw_503 (by decide +kernel) rfl rfl (Nat.le_of_ble_eq_true rfl) dX6_idleOn_52 (fun r7 S6 => ?_)
        refine zg_iload_n 3 dX6_idleOn_55 rfl rfl ?_
        refine zg_icmp_ne 63 dX6_idleOn_56 (by decide) ?_ ?_
        · refine zg_sub [0, 1, 2, 3, 5] rfl ?_
          exact gX6_idleOn_63 N b1 h1 k8 hk8 k26 hk26 S6 l2 l3 l5
        · refine zg_sub [0, 1, 2, 3, 5] rfl ?_
          exact gX6_idleOn_59 N b1 h1 k8 hk8 k26 hk26 S6 l2 l3 l5
def fX6_idleOn_26 (N : Nat) (b1 : Nat) (k8 : zb_S → Int32 → Int32 → Option (Unit × zb_S)) : Nat → zb_S → Int32 → Int32 → Int32 → Int32 → Option (Unit × zb_S)
  | 0, _, _, _, _, _ => none
  | n + 1, S, l2, l3, l4, l5 => fX6_idleOn_26b N b1 k8 (fX6_idleOn_26 N b1 k8 n) S l2 l3 l4 l5
set_option maxHeartbeats 4000000 in
set_option maxRecDepth 100000 in
theorem gX6_idleOn_26 {l : Launch} {G : zb_G} (N : Nat) (b1 : Nat) (h1 : zb_kd b1 = 7) (k8 : zb_S → Int32 → Int32 → Option (Unit × zb_S)) (hk8 : ∀ (S : zb_S) (l2 : Int32) (l3 : Int32), zb_Go zb_eV l G 2 RX6 cX6_idleOn 6 none 8 [(0, .ref (zb_ad G 21)), (1, .ref (zb_ad G b1)), (2, .int l2), (3, .int l3)] [] S (k8 S l2 l3)) : ∀ (n : Nat) (S : zb_S) (l2 : Int32) (l3 : Int32) (l4 : Int32) (l5 : Int32), zb_Go zb_eV l G 2 RX6 cX6_idleOn 6 none 26 [(0, .ref (zb_ad G 21)), (1, .ref (zb_ad G b1)), (2, .int l2), (3, .int l3), (4, .int l4), (5, .int l5)] [] S (fX6_idleOn_26 N b1 k8 n S l2 l3 l4 l5) := by
  intro n
  induction n with
  | zero => intros; exact zg_none
  | succ n ih =>
    intro S l2 l3 l4 l5
    exact gX6_idleOn_26b N b1 h1 k8 hk8 (fX6_idleOn_26 N b1 k8 n) ih S l2 l3 l4 l5
def fX6_idleOn_8b (N : Nat) (b1 : Nat) (k8 : zb_S → Int32 → Int32 → Option (Unit × zb_S)) (S : zb_S) (l2 : Int32) (l3 : Int32) : Option (Unit × zb_S) :=
  zb_bind (fX6_zones N S) (fun r2 S1 =>
  if r2 ≤ l3 then
    some ((), S1)
  else
    zb_bind (fX6_has N S1 l2 l3) (fun r4 S3 =>
    fX6_idleOn_26 N b1 k8 N S3 l2 l3 r4 0))
set_option maxHeartbeats 4000000 in
set_option maxRecDepth 100000 in
theorem gX6_idleOn_8b {l : Launch} {G : zb_G} (N : Nat) (b1 : Nat) (h1 : zb_kd b1 = 7) (k8 : zb_S → Int32 → Int32 → Option (Unit × zb_S)) (hk8 : ∀ (S : zb_S) (l2 : Int32) (l3 : Int32), zb_Go zb_eV l G 2 RX6 cX6_idleOn 6 none 8 [(0, .ref (zb_ad G 21)), (1, .ref (zb_ad G b1)), (2, .int l2), (3, .int l3)] [] S (k8 S l2 l3)) (S : zb_S) (l2 : Int32) (l3 : Int32) : zb_Go zb_eV l G 2 RX6 cX6_idleOn 6 none 8 [(0, .ref (zb_ad G 21)), (1, .ref (zb_ad G b1)), (2, .int l2), (3, .int l3)] [] S (fX6_idleOn_8b N b1 k8 S l2 l3) := by
  unfold fX6_idleOn_8b
  refine zg_iload_n 3 dX6_idleOn_8 rfl rfl ?_
  refine zg_aload_n 0 dX6_idleOn_9 rfl rfl ?_
  refine zg_callVI (As := []) (rest := [.int l3]) 0 (zcX6_zones N S) (by decide) (by decide) rfl (by decide) rfl zw_220 zw_221 zw_222 zw_5 zw_223 (by decide +kernel) rfl rfl (Nat.le_of_ble_eq_true rfl) dX6_idleOn_10 (fun r2 S1 => ?_)
  refine zg_icmp_ge 139 dX6_idleOn_13 (by decide) ?_ ?_
  · exact zg_vret rfl dX6_idleOn_139
  · refine zg_iload_n 2 dX6_idleOn_16 rfl rfl ?_
    refine zg_iload_n 3 dX6_idleOn_17 rfl rfl ?_
    refine zg_callSI (As := [.int l2, .int l3]) (rest := []) 2 (zcX6_has N S1 l2 l3) (by decide) (by decide) zw_484 zw_485 zw_5 zw_486 (by decide +kernel) rfl rfl (Nat.le_of_ble_eq_true rfl) dX6_idleOn_18 (fun r4 S3 => ?_)
    refine zg_istore (lv' := [(4, .int r4), (0, .ref (zb_ad G 21)), (1, .ref (zb_ad G b1)), (2, .int l2), (3, .int l3)]) dX6_idleOn_21 (by decide) rfl ?_
    refine zg_iconst (v := 0) dX6_idleOn_23 (by decide) ?_
    refine zg_istore (lv' := [(5, .int 0), (4, .int r4), (0, .ref (zb_ad G 21)), (1, .ref (zb_ad G b1)), (2, .int l2), (3, .int l3)]) dX6_idleOn_24 (by decide) rfl ?_
    refine zg_sub [2, 3, 4, 5, 1, 0] rfl ?_
    exact gX6_idleOn_26 N b1 h1 k8 hk8 N S3 l2 l3 r4 0
def fX6_idleOn_8 (N : Nat) (b1 : Nat) : Nat → zb_S → Int32 → Int32 → Option (Unit × zb_S)
  | 0, _, _, _ => none
  | n + 1, S, l2, l3 => fX6_idleOn_8b N b1 (fX6_idleOn_8 N b1 n) S l2 l3
set_option maxHeartbeats 4000000 in
set_option maxRecDepth 100000 in
theorem gX6_idleOn_8 {l : Launch} {G : zb_G} (N : Nat) (b1 : Nat) (h1 : zb_kd b1 = 7) : ∀ (n : Nat) (S : zb_S) (l2 : Int32) (l3 : Int32), zb_Go zb_eV l G 2 RX6 cX6_idleOn 6 none 8 [(0, .ref (zb_ad G 21)), (1, .ref (zb_ad G b1)), (2, .int l2), (3, .int l3)] [] S (fX6_idleOn_8 N b1 n S l2 l3) := by
  intro n
  induction n with
  | zero => intros; exact zg_none
  | succ n ih =>
    intro S l2 l3
    exact gX6_idleOn_8b N b1 h1 (fX6_idleOn_8 N b1 n) ih S l2 l3
def fX6_idleOn_0 (N : Nat) (b1 : Nat) (S : zb_S) : Option (Unit × zb_S) :=
  zb_bind (fX6_allThatSee N b1 S) (fun r2 S1 =>
  fX6_idleOn_8 N b1 N S1 r2 0)
set_option maxHeartbeats 4000000 in
set_option maxRecDepth 100000 in
theorem gX6_idleOn_0 {l : Launch} {G : zb_G} (N : Nat) (b1 : Nat) (h1 : zb_kd b1 = 7) (S : zb_S) : zb_Go zb_eV l G 2 RX6 cX6_idleOn 6 none 0 [(0, .ref (zb_ad G 21)), (1, .ref (zb_ad G b1))] [] S (fX6_idleOn_0 N b1 S) := by
  unfold fX6_idleOn_0
  refine zg_aload_n 0 dX6_idleOn_0 rfl rfl ?_
  refine zg_aload_n 1 dX6_idleOn_1 rfl rfl ?_
  refine zg_callVI (As := [.ref (zb_ad G b1)]) (rest := []) 1 (zcX6_allThatSee N b1 h1 S) (by decide) (by decide) rfl (by decide) rfl zw_480 zw_481 zw_482 zw_5 zw_483 (by decide +kernel) rfl rfl (Nat.le_of_ble_eq_true rfl) dX6_idleOn_2 (fun r2 S1 => ?_)
  refine zg_istore_n (lv' := [(2, .int r2), (0, .ref (zb_ad G 21)), (1, .ref (zb_ad G b1))]) dX6_idleOn_5 rfl (by decide) rfl ?_
  refine zg_iconst (v := 0) dX6_idleOn_6 (by decide) ?_
  refine zg_istore_n (lv' := [(3, .int 0), (2, .int r2), (0, .ref (zb_ad G 21)), (1, .ref (zb_ad G b1))]) dX6_idleOn_7 rfl (by decide) rfl ?_
  refine zg_sub [2, 3, 1, 0] rfl ?_
  exact gX6_idleOn_8 N b1 h1 N S1 r2 0
def fX6_idleOn (N : Nat) (b1 : Nat) (S : zb_S) : Option (Unit × zb_S) := fX6_idleOn_0 N b1 S
theorem zcX6_idleOn {l : Launch} {G : zb_G} (N : Nat) (b1 : Nat) (h1 : zb_kd b1 = 7) (S : zb_S) : zb_C zb_eV l G 2 yX6_idleOn cX6_idleOn 6 none [.ref (zb_ad G 21), .ref (zb_ad G b1)] S (fX6_idleOn N b1 S) :=
  zb_C.of (by decide +kernel) rfl (Nat.le_of_ble_eq_true rfl) rfl (gX6_idleOn_0 N b1 h1 S)
-- X6_stepOn
def fX6_stepOn_74b (N : Nat) (b1 : Nat) (k74 : zb_S → Int32 → Option (Unit × zb_S)) (S : zb_S) (l2 : Int32) : Option (Unit × zb_S) :=
  if l2 < (zb_i S 21 4) then
    zb_bind (fX6_idleOn N b1 S) (fun _ S1 =>
    if zb_in 78 (zb_sz b1) then
    if zb_in 78 (zb_sz b1) then zb_let (zb_pa S1 b1 (Int32.toNatClampNeg 78) ((zb_a S1 b1 (Int32.toNatClampNeg 78)) + 1)) (fun S3 : zb_S =>
    some ((), S3)) else none else none)
  else
    zb_bind (fX6_moveOn N b1 S l2) (fun _ S4 =>
    zb_let (l2 + (-1)) (fun x6 : Int32 =>
    k74 S4 x6))
set_option maxHeartbeats 4000000 in
set_option maxRecDepth 100000 in
theorem gX6_stepOn_74b {l : Launch} {G : zb_G} (N : Nat) (b1 : Nat) (h1 : zb_kd b1 = 7) (k74 : zb_S → Int32 → Option (Unit × zb_S)) (hk74 : ∀ (S : zb_S) (l2 : Int32), zb_Go zb_eV l G 4 RX6 cX6_stepOn 3 none 74 [(0, .ref (zb_ad G 21)), (1, .ref (zb_ad G b1)), (2, .int l2)] [] S (k74 S l2)) (S : zb_S) (l2 : Int32) : zb_Go zb_eV l G 4 RX6 cX6_stepOn 3 none 74 [(0, .ref (zb_ad G 21)), (1, .ref (zb_ad G b1)), (2, .int l2)] [] S (fX6_stepOn_74b N b1 k74 S l2) := by
  unfold fX6_stepOn_74b
  refine zg_iload_n 2 dX6_stepOn_74 rfl rfl ?_
  refine zg_aload_n 0 dX6_stepOn_75 rfl rfl ?_
  refine zq_X6_4 rfl zw_89 dX6_stepOn_76 ?_
  refine zg_icmp_lt 94 dX6_stepOn_79 (by decide) ?_ ?_
  · refine zg_aload_n 0 dX6_stepOn_94 rfl rfl ?_
    refine zg_aload_n 1 dX6_stepOn_95 rfl rfl ?_
    refine zg_callVV (As := [.ref (zb_ad G b1)]) (rest := []) 1 (zcX6_idleOn N b1 h1 S) (by decide) (by decide) rfl (by decide) rfl zw_508 zw_509 zw_510 zw_5 zw_511 (by decide +kernel) rfl rfl (Nat.le_of_ble_eq_true rfl) dX6_stepOn_96 (fun S1 => ?_)
    refine zg_aload_n 1 dX6_stepOn_99 rfl rfl ?_
    refine zg_bipush (v := 78) dX6_stepOn_100 (by decide) ?_
    refine zg_dup2 dX6_stepOn_102 rfl rfl ?_
    refine zg_iald h1 dX6_stepOn_103 ?_
    refine zg_iconst (v := 1) dX6_stepOn_104 (by decide) ?_
    refine zg_iadd dX6_stepOn_105 ?_
    refine zg_iast h1 dX6_stepOn_106 (fun S3 => ?_)
    exact zg_vret rfl dX6_stepOn_107
  · refine zg_aload_n 0 dX6_stepOn_82 rfl rfl ?_
    refine zg_aload_n 1 dX6_stepOn_83 rfl rfl ?_
    refine zg_iload_n 2 dX6_stepOn_84 rfl rfl ?_
    refine zg_callVV (As := [.ref (zb_ad G b1), .int l2]) (rest := []) 2 (zcX6_moveOn N b1 h1 S l2) (by decide) (by decide) rfl (by decide) rfl zw_504 zw_505 zw_506 zw_5 zw_507 (by decide +kernel) rfl rfl (Nat.le_of_ble_eq_true rfl) dX6_stepOn_85 (fun S4 => ?_)
    refine zg_iincL (fun x6 => [(2, .int x6), (0, .ref (zb_ad G 21)), (1, .ref (zb_ad G b1))]) 2 dX6_stepOn_88 rfl rfl (by decide) (fun _ => rfl) (fun x6 => ?_)
    refine zg_goto (tgt := 74) dX6_stepOn_91 (by decide) ?_
    refine zg_sub [1, 2, 0] rfl ?_
    exact hk74 S4 x6
def fX6_stepOn_74 (N : Nat) (b1 : Nat) : Nat → zb_S → Int32 → Option (Unit × zb_S)
  | 0, _, _ => none
  | n + 1, S, l2 => fX6_stepOn_74b N b1 (fX6_stepOn_74 N b1 n) S l2
set_option maxHeartbeats 4000000 in
set_option maxRecDepth 100000 in
theorem gX6_stepOn_74 {l : Launch} {G : zb_G} (N : Nat) (b1 : Nat) (h1 : zb_kd b1 = 7) : ∀ (n : Nat) (S : zb_S) (l2 : Int32), zb_Go zb_eV l G 4 RX6 cX6_stepOn 3 none 74 [(0, .ref (zb_ad G 21)), (1, .ref (zb_ad G b1)), (2, .int l2)] [] S (fX6_stepOn_74 N b1 n S l2) := by
  intro n
  induction n with
  | zero => intros; exact zg_none
  | succ n ih =>
    intro S l2
    exact gX6_stepOn_74b N b1 h1 (fX6_stepOn_74 N b1 n) ih S l2
def fX6_stepOn_51b (N : Nat) (b1 : Nat) (k51 : zb_S → Int32 → Option (Unit × zb_S)) (S : zb_S) (l2 : Int32) : Option (Unit × zb_S) :=
  if l2 < 0 then
    zb_bind (fX6_zones N S) (fun r2 S1 =>
    zb_let (r2 - 1) (fun x3 : Int32 =>
    fX6_stepOn_74 N b1 N S1 x3))
  else
    zb_bind (fX6_moveOn N b1 S l2) (fun _ S4 =>
    zb_let (l2 + (-1)) (fun x6 : Int32 =>
    k51 S4 x6))
set_option maxHeartbeats 4000000 in
set_option maxRecDepth 100000 in
theorem gX6_stepOn_51b {l : Launch} {G : zb_G} (N : Nat) (b1 : Nat) (h1 : zb_kd b1 = 7) (k51 : zb_S → Int32 → Option (Unit × zb_S)) (hk51 : ∀ (S : zb_S) (l2 : Int32), zb_Go zb_eV l G 4 RX6 cX6_stepOn 3 none 51 [(0, .ref (zb_ad G 21)), (1, .ref (zb_ad G b1)), (2, .int l2)] [] S (k51 S l2)) (S : zb_S) (l2 : Int32) : zb_Go zb_eV l G 4 RX6 cX6_stepOn 3 none 51 [(0, .ref (zb_ad G 21)), (1, .ref (zb_ad G b1)), (2, .int l2)] [] S (fX6_stepOn_51b N b1 k51 S l2) := by
  unfold fX6_stepOn_51b
  refine zg_iload_n 2 dX6_stepOn_51 rfl rfl ?_
  refine zg_if_lt 67 dX6_stepOn_52 (by decide) ?_ ?_
  · refine zg_aload_n 0 dX6_stepOn_67 rfl rfl ?_
    refine zg_callVI (As := []) (rest := []) 0 (zcX6_zones N S) (by decide) (by decide) rfl (by decide) rfl zw_220 zw_221 zw_222 zw_5 zw_223 (by decide +kernel) rfl rfl (Nat.le_of_ble_eq_true rfl) dX6_stepOn_68 (fun r2 S1 => ?_)
    refine zg_iconst (v := 1) dX6_stepOn_71 (by decide) ?_
    refine zg_isub dX6_stepOn_72 ?_
    refine zg_istore_nL (fun x3 => [(2, .int x3), (0, .ref (zb_ad G 21)), (1, .ref (zb_ad G b1))]) dX6_stepOn_73 rfl (by decide) (fun _ => rfl) (fun x3 => ?_)
    refine zg_sub [1, 2, 0] rfl ?_
    exact gX6_stepOn_74 N b1 h1 N S1 x3
  · refine zg_aload_n 0 dX6_stepOn_55 rfl rfl ?_
    refine zg_aload_n 1 dX6_stepOn_56 rfl rfl ?_
    refine zg_iload_n 2 dX6_stepOn_57 rfl rfl ?_
    refine zg_callVV (As := [.ref (zb_ad G b1), .int l2]) (rest := []) 2 (zcX6_moveOn N b1 h1 S l2) (by decide) (by decide) rfl (by decide) rfl zw_504 zw_505 zw_506 zw_5 zw_507 (by decide +kernel) rfl rfl (Nat.le_of_ble_eq_true rfl) dX6_stepOn_58 (fun S4 => ?_)
    refine zg_iincL (fun x6 => [(2, .int x6), (0, .ref (zb_ad G 21)), (1, .ref (zb_ad G b1))]) 2 dX6_stepOn_61 rfl rfl (by decide) (fun _ => rfl) (fun x6 => ?_)
    refine zg_goto (tgt := 51) dX6_stepOn_64 (by decide) ?_
    refine zg_sub [1, 2, 0] rfl ?_
    exact hk51 S4 x6
def fX6_stepOn_51 (N : Nat) (b1 : Nat) : Nat → zb_S → Int32 → Option (Unit × zb_S)
  | 0, _, _ => none
  | n + 1, S, l2 => fX6_stepOn_51b N b1 (fX6_stepOn_51 N b1 n) S l2
set_option maxHeartbeats 4000000 in
set_option maxRecDepth 100000 in
theorem gX6_stepOn_51 {l : Launch} {G : zb_G} (N : Nat) (b1 : Nat) (h1 : zb_kd b1 = 7) : ∀ (n : Nat) (S : zb_S) (l2 : Int32), zb_Go zb_eV l G 4 RX6 cX6_stepOn 3 none 51 [(0, .ref (zb_ad G 21)), (1, .ref (zb_ad G b1)), (2, .int l2)] [] S (fX6_stepOn_51 N b1 n S l2) := by
  intro n
  induction n with
  | zero => intros; exact zg_none
  | succ n ih =>
    intro S l2
    exact gX6_stepOn_51b N b1 h1 (fX6_stepOn_51 N b1 n) ih S l2
def fX6_stepOn_39 (N : Nat) (b1 : Nat) (S : zb_S) : Option (Unit × zb_S) :=
  zb_bind (fX6_layGoes N b1 S) (fun _ S1 =>
  zb_let ((zb_i S1 21 4) - 1) (fun x3 : Int32 =>
  fX6_stepOn_51 N b1 N S1 x3))
set_option maxHeartbeats 4000000 in
set_option maxRecDepth 100000 in
theorem gX6_stepOn_39 {l : Launch} {G : zb_G} (N : Nat) (b1 : Nat) (h1 : zb_kd b1 = 7) (S : zb_S) : zb_Go zb_eV l G 4 RX6 cX6_stepOn 3 none 39 [(0, .ref (zb_ad G 21)), (1, .ref (zb_ad G b1))] [] S (fX6_stepOn_39 N b1 S) := by
  unfold fX6_stepOn_39
  refine zg_aload_n 0 dX6_stepOn_39 rfl rfl ?_
  refine zg_aload_n 1 dX6_stepOn_40 rfl rfl ?_
  refine zg_callVV (As := [.ref (zb_ad G b1)]) (rest := []) 1 (zcX6_layGoes N b1 h1 S) (by decide) (by decide) rfl (by decide) rfl zw_491 zw_492 zw_493 zw_5 zw_494 (by decide +kernel) rfl rfl (Nat.le_of_ble_eq_true rfl) dX6_stepOn_41 (fun S1 => ?_)
  refine zg_aload_n 0 dX6_stepOn_44 rfl rfl ?_
  refine zq_X6_4 rfl zw_89 dX6_stepOn_45 ?_
  refine zg_iconst (v := 1) dX6_stepOn_48 (by decide) ?_
  refine zg_isub dX6_stepOn_49 ?_
  refine zg_istore_nL (fun x3 => [(2, .int x3), (0, .ref (zb_ad G 21)), (1, .ref (zb_ad G b1))]) dX6_stepOn_50 rfl (by decide) (fun _ => rfl) (fun x3 => ?_)
  refine zg_sub [1, 2, 0] rfl ?_
  exact gX6_stepOn_51 N b1 h1 N S1 x3
def fX6_stepOn_0 (N : Nat) (b1 : Nat) (S : zb_S) : Option (Unit × zb_S) :=
  zb_let (zb_pi S 21 26 0) (fun S1 : zb_S =>
  zb_bind (fX6_wakeOn N b1 S1) (fun _ S2 =>
  zb_bind (fX6_ticketOn N b1 S2 ((zb_i S2 21 6) - 1)) (fun _ S4 =>
  if (zb_i S4 21 5) ≤ 0 then
    fX6_stepOn_39 N b1 S4
  else
    zb_bind (fX6_zones N S4) (fun r7 S6 =>
    zb_bind (fX6_ticketOn N b1 S6 (r7 - 1)) (fun _ S8 =>
    fX6_stepOn_39 N b1 S8)))))
set_option maxHeartbeats 4000000 in
set_option maxRecDepth 100000 in
theorem gX6_stepOn_0 {l : Launch} {G : zb_G} (N : Nat) (b1 : Nat) (h1 : zb_kd b1 = 7) (S : zb_S) : zb_Go zb_eV l G 4 RX6 cX6_stepOn 3 none 0 [(0, .ref (zb_ad G 21)), (1, .ref (zb_ad G b1))] [] S (fX6_stepOn_0 N b1 S) := by
  unfold fX6_stepOn_0
  refine zg_aload_n 0 dX6_stepOn_0 rfl rfl ?_
  refine zg_iconst (v := 0) dX6_stepOn_1 (by decide) ?_
  refine zp_X6_26 rfl zw_472 dX6_stepOn_2 (fun S1 => ?_)
  refine zg_aload_n 0 dX6_stepOn_5 rfl rfl ?_
  refine zg_aload_n 1 dX6_stepOn_6 rfl rfl ?_
  refine zg_callVV (As := [.ref (zb_ad G b1)]) (rest := []) 1 (zcX6_wakeOn N b1 h1 S1) (by decide) (by decide) rfl (by decide) rfl zw_473 zw_474 zw_475 zw_5 zw_476 (by decide +kernel) rfl rfl (Nat.le_of_ble_eq_true rfl) dX6_stepOn_7 (fun S2 => ?_)
  refine zg_aload_n 0 dX6_stepOn_10 rfl rfl ?_
  refine zg_aload_n 1 dX6_stepOn_11 rfl rfl ?_
  refine zg_aload_n 0 dX6_stepOn_12 rfl rfl ?_
  refine zq_X6_6 rfl zw_90 dX6_stepOn_13 ?_
  refine zg_iconst (v := 1) dX6_stepOn_16 (by decide) ?_
  refine zg_isub dX6_stepOn_17 ?_
  refine zg_callVV (As := [.ref (zb_ad G b1), .int ((zb_i S2 21 6) - 1)]) (rest := []) 2 (zcX6_ticketOn N b1 h1 S2 ((zb_i S2 21 6) - 1)) (by decide) (by decide) rfl (by decide) rfl zw_487 zw_488 zw_489 zw_5 zw_490 (by decide +kernel) rfl rfl (Nat.le_of_ble_eq_true rfl) dX6_stepOn_18 (fun S4 => ?_)
  refine zg_aload_n 0 dX6_stepOn_21 rfl rfl ?_
  refine zq_X6_5 rfl zw_218 dX6_stepOn_22 ?_
  refine zg_if_le 39 dX6_stepOn_25 (by decide) ?_ ?_
  · exact gX6_stepOn_39 N b1 h1 S4
  · refine zg_aload_n 0 dX6_stepOn_28 rfl rfl ?_
    refine zg_aload_n 1 dX6_stepOn_29 rfl rfl ?_
    refine zg_aload_n 0 dX6_stepOn_30 rfl rfl ?_
    refine zg_callVI (As := []) (rest := [.ref (zb_ad G b1), .ref (zb_ad G 21)]) 0 (zcX6_zones N S4) (by decide) (by decide) rfl (by decide) rfl zw_220 zw_221 zw_222 zw_5 zw_223 (by decide +kernel) rfl rfl (Nat.le_of_ble_eq_true rfl) dX6_stepOn_31 (fun r7 S6 => ?_)
    refine zg_iconst (v := 1) dX6_stepOn_34 (by decide) ?_
    refine zg_isub dX6_stepOn_35 ?_
    refine zg_callVV (As := [.ref (zb_ad G b1), .int (r7 - 1)]) (rest := []) 2 (zcX6_ticketOn N b1 h1 S6 (r7 - 1)) (by decide) (by decide) rfl (by decide) rfl zw_487 zw_488 zw_489 zw_5 zw_490 (by decide +kernel) rfl rfl (Nat.le_of_ble_eq_true rfl) dX6_stepOn_36 (fun S8 => ?_)
    exact gX6_stepOn_39 N b1 h1 S8
def fX6_stepOn (N : Nat) (b1 : Nat) (S : zb_S) : Option (Unit × zb_S) := fX6_stepOn_0 N b1 S
theorem zcX6_stepOn {l : Launch} {G : zb_G} (N : Nat) (b1 : Nat) (h1 : zb_kd b1 = 7) (S : zb_S) : zb_C zb_eV l G 4 yX6_stepOn cX6_stepOn 3 none [.ref (zb_ad G 21), .ref (zb_ad G b1)] S (fX6_stepOn N b1 S) :=
  zb_C.of (by decide +kernel) rfl (Nat.le_of_ble_eq_true rfl) rfl (gX6_stepOn_0 N b1 h1 S)
-- X6_stepsOn
def fX6_stepsOn_2b (N : Nat) (b1 : Nat) (k2 : zb_S → Int32 → Int32 → Option (Unit × zb_S)) (S : zb_S) (l2 : Int32) (l3 : Int32) : Option (Unit × zb_S) :=
  if l2 ≤ l3 then
    some ((), S)
  else
    zb_bind (fX6_stepOn N b1 S) (fun _ S1 =>
    zb_let (l3 + 1) (fun x3 : Int32 =>
    k2 S1 l2 x3))
set_option maxHeartbeats 4000000 in
set_option maxRecDepth 100000 in
theorem gX6_stepsOn_2b {l : Launch} {G : zb_G} (N : Nat) (b1 : Nat) (h1 : zb_kd b1 = 7) (k2 : zb_S → Int32 → Int32 → Option (Unit × zb_S)) (hk2 : ∀ (S : zb_S) (l2 : Int32) (l3 : Int32), zb_Go zb_eV l G 5 RX6 cX6_stepsOn 4 none 2 [(0, .ref (zb_ad G 21)), (1, .ref (zb_ad G b1)), (2, .int l2), (3, .int l3)] [] S (k2 S l2 l3)) (S : zb_S) (l2 : Int32) (l3 : Int32) : zb_Go zb_eV l G 5 RX6 cX6_stepsOn 4 none 2 [(0, .ref (zb_ad G 21)), (1, .ref (zb_ad G b1)), (2, .int l2), (3, .int l3)] [] S (fX6_stepsOn_2b N b1 k2 S l2 l3) := by
  unfold fX6_stepsOn_2b
  refine zg_iload_n 3 dX6_stepsOn_2 rfl rfl ?_
  refine zg_iload_n 2 dX6_stepsOn_3 rfl rfl ?_
  refine zg_icmp_ge 18 dX6_stepsOn_4 (by decide) ?_ ?_
  · exact zg_vret rfl dX6_stepsOn_18
  · refine zg_aload_n 0 dX6_stepsOn_7 rfl rfl ?_
    refine zg_aload_n 1 dX6_stepsOn_8 rfl rfl ?_
    refine zg_callVV (As := [.ref (zb_ad G b1)]) (rest := []) 1 (zcX6_stepOn N b1 h1 S) (by decide) (by decide) rfl (by decide) rfl zw_468 zw_469 zw_470 zw_5 zw_471 (by decide +kernel) rfl rfl (Nat.le_of_ble_eq_true rfl) dX6_stepsOn_9 (fun S1 => ?_)
    refine zg_iincL (fun x3 => [(3, .int x3), (0, .ref (zb_ad G 21)), (1, .ref (zb_ad G b1)), (2, .int l2)]) 3 dX6_stepsOn_12 rfl rfl (by decide) (fun _ => rfl) (fun x3 => ?_)
    refine zg_goto (tgt := 2) dX6_stepsOn_15 (by decide) ?_
    refine zg_sub [1, 2, 3, 0] rfl ?_
    exact hk2 S1 l2 x3
def fX6_stepsOn_2 (N : Nat) (b1 : Nat) : Nat → zb_S → Int32 → Int32 → Option (Unit × zb_S)
  | 0, _, _, _ => none
  | n + 1, S, l2, l3 => fX6_stepsOn_2b N b1 (fX6_stepsOn_2 N b1 n) S l2 l3
set_option maxHeartbeats 4000000 in
set_option maxRecDepth 100000 in
theorem gX6_stepsOn_2 {l : Launch} {G : zb_G} (N : Nat) (b1 : Nat) (h1 : zb_kd b1 = 7) : ∀ (n : Nat) (S : zb_S) (l2 : Int32) (l3 : Int32), zb_Go zb_eV l G 5 RX6 cX6_stepsOn 4 none 2 [(0, .ref (zb_ad G 21)), (1, .ref (zb_ad G b1)), (2, .int l2), (3, .int l3)] [] S (fX6_stepsOn_2 N b1 n S l2 l3) := by
  intro n
  induction n with
  | zero => intros; exact zg_none
  | succ n ih =>
    intro S l2 l3
    exact gX6_stepsOn_2b N b1 h1 (fX6_stepsOn_2 N b1 n) ih S l2 l3
def fX6_stepsOn_0 (N : Nat) (b1 : Nat) (S : zb_S) (a2 : Int32) : Option (Unit × zb_S) :=
  fX6_stepsOn_2 N b1 N S a2 0
set_option maxHeartbeats 4000000 in
set_option maxRecDepth 100000 in
theorem gX6_stepsOn_0 {l : Launch} {G : zb_G} (N : Nat) (b1 : Nat) (h1 : zb_kd b1 = 7) (S : zb_S) (a2 : Int32) : zb_Go zb_eV l G 5 RX6 cX6_stepsOn 4 none 0 [(0, .ref (zb_ad G 21)), (1, .ref (zb_ad G b1)), (2, .int a2)] [] S (fX6_stepsOn_0 N b1 S a2) := by
  unfold fX6_stepsOn_0
  refine zg_iconst (v := 0) dX6_stepsOn_0 (by decide) ?_
  refine zg_istore_n (lv' := [(3, .int 0), (0, .ref (zb_ad G 21)), (1, .ref (zb_ad G b1)), (2, .int a2)]) dX6_stepsOn_1 rfl (by decide) rfl ?_
  refine zg_sub [1, 2, 3, 0] rfl ?_
  exact gX6_stepsOn_2 N b1 h1 N S a2 0
def fX6_stepsOn (N : Nat) (b1 : Nat) (S : zb_S) (a2 : Int32) : Option (Unit × zb_S) := fX6_stepsOn_0 N b1 S a2
theorem zcX6_stepsOn {l : Launch} {G : zb_G} (N : Nat) (b1 : Nat) (h1 : zb_kd b1 = 7) (S : zb_S) (a2 : Int32) : zb_C zb_eV l G 5 yX6_stepsOn cX6_stepsOn 4 none [.ref (zb_ad G 21), .ref (zb_ad G b1), .int a2] S (fX6_stepsOn N b1 S a2) :=
  zb_C.of (by decide +kernel) rfl (Nat.le_of_ble_eq_true rfl) rfl (gX6_stepsOn_0 N b1 h1 S a2)
-- X6_those
def fX6_those_35 (N : Nat) (b1 : Nat) (k5 : zb_S → Int32 → Int32 → Int32 → Option (Int32 × zb_S)) (S : zb_S) (l2 : Int32) (l4 : Int32) (s0 : Int32) (s1 : Int32) : Option (Int32 × zb_S) :=
  zb_let (s1 ||| s0) (fun x1 : Int32 =>
  zb_let (l4 + 1) (fun x2 : Int32 =>
  k5 S l2 x1 x2))
set_option maxHeartbeats 4000000 in
set_option maxRecDepth 100000 in
theorem gX6_those_35 {l : Launch} {G : zb_G} (N : Nat) (b1 : Nat) (h1 : zb_kd b1 = 7) (k5 : zb_S → Int32 → Int32 → Int32 → Option (Int32 × zb_S)) (hk5 : ∀ (S : zb_S) (l2 : Int32) (l3 : Int32) (l4 : Int32), zb_Go zb_eI l G 1 RX6 cX6_those 5 (some .int) 5 [(0, .ref (zb_ad G 21)), (1, .ref (zb_ad G b1)), (2, .int l2), (3, .int l3), (4, .int l4)] [] S (k5 S l2 l3 l4)) (S : zb_S) (l2 : Int32) (l4 : Int32) (s0 : Int32) (s1 : Int32) : zb_Go zb_eI l G 1 RX6 cX6_those 5 (some .int) 35 [(0, .ref (zb_ad G 21)), (1, .ref (zb_ad G b1)), (2, .int l2), (4, .int l4)] [.int s0, .int s1] S (fX6_those_35 N b1 k5 S l2 l4 s0 s1) := by
  unfold fX6_those_35
  refine zg_ior dX6_those_35 ?_
  refine zg_istore_nL (fun x1 => [(3, .int x1), (0, .ref (zb_ad G 21)), (1, .ref (zb_ad G b1)), (2, .int l2), (4, .int l4)]) dX6_those_36 rfl (by decide) (fun _ => rfl) (fun x1 => ?_)
  refine zg_iincL (fun x2 => [(4, .int x2), (3, .int x1), (0, .ref (zb_ad G 21)), (1, .ref (zb_ad G b1)), (2, .int l2)]) 4 dX6_those_37 rfl rfl (by decide) (fun _ => rfl) (fun x2 => ?_)
  refine zg_goto (tgt := 5) dX6_those_40 (by decide) ?_
  refine zg_sub [2, 3, 4, 1, 0] rfl ?_
  exact hk5 S l2 x1 x2
def fX6_those_5b (N : Nat) (b1 : Nat) (k5 : zb_S → Int32 → Int32 → Int32 → Option (Int32 × zb_S)) (S : zb_S) (l2 : Int32) (l3 : Int32) (l4 : Int32) : Option (Int32 × zb_S) :=
  zb_bind (fX6_zones N S) (fun r2 S1 =>
  if r2 ≤ l4 then
    some (l3, S1)
  else
    if zb_in ((6 * l4) + l2) (zb_sz b1) then
    if (zb_a S1 b1 (Int32.toNatClampNeg ((6 * l4) + l2))) ≤ 0 then
      fX6_those_35 N b1 k5 S1 l2 l4 0 l3
    else
      fX6_those_35 N b1 k5 S1 l2 l4 ((1 : Int32) <<< (l4 &&& 31)) l3 else none)
set_option maxHeartbeats 4000000 in
set_option maxRecDepth 100000 in
theorem gX6_those_5b {l : Launch} {G : zb_G} (N : Nat) (b1 : Nat) (h1 : zb_kd b1 = 7) (k5 : zb_S → Int32 → Int32 → Int32 → Option (Int32 × zb_S)) (hk5 : ∀ (S : zb_S) (l2 : Int32) (l3 : Int32) (l4 : Int32), zb_Go zb_eI l G 1 RX6 cX6_those 5 (some .int) 5 [(0, .ref (zb_ad G 21)), (1, .ref (zb_ad G b1)), (2, .int l2), (3, .int l3), (4, .int l4)] [] S (k5 S l2 l3 l4)) (S : zb_S) (l2 : Int32) (l3 : Int32) (l4 : Int32) : zb_Go zb_eI l G 1 RX6 cX6_those 5 (some .int) 5 [(0, .ref (zb_ad G 21)), (1, .ref (zb_ad G b1)), (2, .int l2), (3, .int l3), (4, .int l4)] [] S (fX6_those_5b N b1 k5 S l2 l3 l4) := by
  unfold fX6_those_5b
  refine zg_iload 4 dX6_those_5 rfl ?_
  refine zg_aload_n 0 dX6_those_7 rfl rfl ?_
  refine zg_callVI (As := []) (rest := [.int l4]) 0 (zcX6_zones N S) (by decide) (by decide) rfl (by decide) rfl zw_220 zw_221 zw_222 zw_5 zw_223 (by decide +kernel) rfl rfl (Nat.le_of_ble_eq_true rfl) dX6_those_8 (fun r2 S1 => ?_)
  refine zg_icmp_ge 43 dX6_those_11 (by decide) ?_ ?_
  · refine zg_iload_n 3 dX6_those_43 rfl rfl ?_
    exact zg_iret rfl dX6_those_44
  · refine zg_iload_n 3 dX6_those_14 rfl rfl ?_
    refine zg_aload_n 1 dX6_those_15 rfl rfl ?_
    refine zg_bipush (v := 6) dX6_those_16 (by decide) ?_
    refine zg_iload 4 dX6_those_18 rfl ?_
    refine zg_imul dX6_those_20 ?_
    refine zg_iload_n 2 dX6_those_21 rfl rfl ?_
    refine zg_iadd dX6_those_22 ?_
    refine zg_iald h1 dX6_those_23 ?_
    refine zg_if_le 34 dX6_those_24 (by decide) ?_ ?_
    · refine zg_iconst (v := 0) dX6_those_34 (by decide) ?_
      refine zg_sub [0, 1, 2, 4] rfl ?_
      exact gX6_those_35 N b1 h1 k5 hk5 S1 l2 l4 0 l3
    · refine zg_iconst (v := 1) dX6_those_27 (by decide) ?_
      refine zg_iload 4 dX6_those_28 rfl ?_
      refine zg_ishl dX6_those_30 ?_
      refine zg_goto (tgt := 35) dX6_those_31 (by decide) ?_
      refine zg_sub [0, 1, 2, 4] rfl ?_
      exact gX6_those_35 N b1 h1 k5 hk5 S1 l2 l4 ((1 : Int32) <<< (l4 &&& 31)) l3
def fX6_those_5 (N : Nat) (b1 : Nat) : Nat → zb_S → Int32 → Int32 → Int32 → Option (Int32 × zb_S)
  | 0, _, _, _, _ => none
  | n + 1, S, l2, l3, l4 => fX6_those_5b N b1 (fX6_those_5 N b1 n) S l2 l3 l4
set_option maxHeartbeats 4000000 in
set_option maxRecDepth 100000 in
theorem gX6_those_5 {l : Launch} {G : zb_G} (N : Nat) (b1 : Nat) (h1 : zb_kd b1 = 7) : ∀ (n : Nat) (S : zb_S) (l2 : Int32) (l3 : Int32) (l4 : Int32), zb_Go zb_eI l G 1 RX6 cX6_those 5 (some .int) 5 [(0, .ref (zb_ad G 21)), (1, .ref (zb_ad G b1)), (2, .int l2), (3, .int l3), (4, .int l4)] [] S (fX6_those_5 N b1 n S l2 l3 l4) := by
  intro n
  induction n with
  | zero => intros; exact zg_none
  | succ n ih =>
    intro S l2 l3 l4
    exact gX6_those_5b N b1 h1 (fX6_those_5 N b1 n) ih S l2 l3 l4
def fX6_those_0 (N : Nat) (b1 : Nat) (S : zb_S) (a2 : Int32) : Option (Int32 × zb_S) :=
  fX6_those_5 N b1 N S a2 0 0
set_option maxHeartbeats 4000000 in
set_option maxRecDepth 100000 in
theorem gX6_those_0 {l : Launch} {G : zb_G} (N : Nat) (b1 : Nat) (h1 : zb_kd b1 = 7) (S : zb_S) (a2 : Int32) : zb_Go zb_eI l G 1 RX6 cX6_those 5 (some .int) 0 [(0, .ref (zb_ad G 21)), (1, .ref (zb_ad G b1)), (2, .int a2)] [] S (fX6_those_0 N b1 S a2) := by
  unfold fX6_those_0
  refine zg_iconst (v := 0) dX6_those_0 (by decide) ?_
  refine zg_istore_n (lv' := [(3, .int 0), (0, .ref (zb_ad G 21)), (1, .ref (zb_ad G b1)), (2, .int a2)]) dX6_those_1 rfl (by decide) rfl ?_
  refine zg_iconst (v := 0) dX6_those_2 (by decide) ?_
  refine zg_istore (lv' := [(4, .int 0), (3, .int 0), (0, .ref (zb_ad G 21)), (1, .ref (zb_ad G b1)), (2, .int a2)]) dX6_those_3 (by decide) rfl ?_
  refine zg_sub [2, 3, 4, 1, 0] rfl ?_
  exact gX6_those_5 N b1 h1 N S a2 0 0
def fX6_those (N : Nat) (b1 : Nat) (S : zb_S) (a2 : Int32) : Option (Int32 × zb_S) := fX6_those_0 N b1 S a2
theorem zcX6_those {l : Launch} {G : zb_G} (N : Nat) (b1 : Nat) (h1 : zb_kd b1 = 7) (S : zb_S) (a2 : Int32) : zb_C zb_eI l G 1 yX6_those cX6_those 5 (some .int) [.ref (zb_ad G 21), .ref (zb_ad G b1), .int a2] S (fX6_those N b1 S a2) :=
  zb_C.of (by decide +kernel) rfl (Nat.le_of_ble_eq_true rfl) rfl (gX6_those_0 N b1 h1 S a2)
-- X6_tellOf
def fX6_tellOf_0 (N : Nat) (b1 : Nat) (S : zb_S) (a2 : Int32) (a3 : Int32) : Option (Int32 × zb_S) :=
  zb_let (6 * a2) (fun x1 : Int32 =>
  if a3 = 0 then
    if zb_in (x1 + 0) (zb_sz b1) then
    if (zb_a S b1 (Int32.toNatClampNeg (x1 + 0))) ≤ 0 then
      some ((-9), S)
    else
      if zb_in (x1 + 0) (zb_sz b1) then
      some (zb_a S b1 (Int32.toNatClampNeg (x1 + 0)), S) else none else none
  else if a3 = 1 then
    if zb_in (x1 + 1) (zb_sz b1) then
    some (zb_a S b1 (Int32.toNatClampNeg (x1 + 1)), S) else none
  else if a3 = 2 then
    zb_bind (fX6_seesAt N b1 S a2) (fun r5 S4 =>
    if r5 = 0 then
      some (0, S4)
    else
      some (1, S4))
  else 
    if zb_in ((x1 + a3) - 1) (zb_sz b1) then
    some (zb_a S b1 (Int32.toNatClampNeg ((x1 + a3) - 1)), S) else none)
set_option maxHeartbeats 4000000 in
set_option maxRecDepth 100000 in
theorem gX6_tellOf_0 {l : Launch} {G : zb_G} (N : Nat) (b1 : Nat) (h1 : zb_kd b1 = 7) (S : zb_S) (a2 : Int32) (a3 : Int32) : zb_Go zb_eI l G 1 RX6 cX6_tellOf 5 (some .int) 0 [(0, .ref (zb_ad G 21)), (1, .ref (zb_ad G b1)), (2, .int a2), (3, .int a3)] [] S (fX6_tellOf_0 N b1 S a2 a3) := by
  unfold fX6_tellOf_0
  refine zg_bipush (v := 6) dX6_tellOf_0 (by decide) ?_
  refine zg_iload_n 2 dX6_tellOf_2 rfl rfl ?_
  refine zg_imul dX6_tellOf_3 ?_
  refine zg_istoreL (fun x1 => [(4, .int x1), (0, .ref (zb_ad G 21)), (1, .ref (zb_ad G b1)), (2, .int a2), (3, .int a3)]) dX6_tellOf_4 (by decide) (fun _ => rfl) (fun x1 => ?_)
  refine zg_iload_n 4 dX6_tellOf_6 rfl rfl ?_
  refine zg_if (fun q2 => ?_) (fun q2 => ?_)
  · refine zg_tableIn dX6_tellOf_7 (by rw [q2]; decide) (by rw [q2]; decide) (by rw [q2]; rfl) (by decide : (7 : Int) + 25 = (32 : Nat)) ?_
    refine zg_aload_n 2 dX6_tellOf_32 rfl rfl ?_
    refine zg_iload 0 dX6_tellOf_33 rfl ?_
    refine zg_iconst (v := 0) dX6_tellOf_35 (by decide) ?_
    refine zg_iadd dX6_tellOf_36 ?_
    refine zg_iald h1 dX6_tellOf_37 ?_
    refine zg_if_le 50 dX6_tellOf_38 (by decide) ?_ ?_
    · refine zg_bipush (v := (-9)) dX6_tellOf_50 (by decide) ?_
      exact zg_iret rfl dX6_tellOf_52
    · refine zg_aload_n 2 dX6_tellOf_41 rfl rfl ?_
      refine zg_iload 0 dX6_tellOf_42 rfl ?_
      refine zg_iconst (v := 0) dX6_tellOf_44 (by decide) ?_
      refine zg_iadd dX6_tellOf_45 ?_
      refine zg_iald h1 dX6_tellOf_46 ?_
      refine zg_goto (tgt := 52) dX6_tellOf_47 (by decide) ?_
      exact zg_iret rfl dX6_tellOf_52
  · refine zg_if (fun q3 => ?_) (fun q3 => ?_)
    · refine zg_tableIn dX6_tellOf_7 (by rw [q3]; decide) (by rw [q3]; decide) (by rw [q3]; rfl) (by decide : (7 : Int) + 46 = (53 : Nat)) ?_
      refine zg_aload_n 2 dX6_tellOf_53 rfl rfl ?_
      refine zg_iload 0 dX6_tellOf_54 rfl ?_
      refine zg_iconst (v := 1) dX6_tellOf_56 (by decide) ?_
      refine zg_iadd dX6_tellOf_57 ?_
      refine zg_iald h1 dX6_tellOf_58 ?_
      exact zg_iret rfl dX6_tellOf_59
    · refine zg_if (fun q6 => ?_) (fun q6 => ?_)
      · refine zg_tableIn dX6_tellOf_7 (by rw [q6]; decide) (by rw [q6]; decide) (by rw [q6]; rfl) (by decide : (7 : Int) + 53 = (60 : Nat)) ?_
        refine zg_aload_n 2 dX6_tellOf_60 rfl rfl ?_
        refine zg_iload_n 3 dX6_tellOf_61 rfl rfl ?_
        refine zg_callSI (As := [.ref (zb_ad G b1), .int a2]) (rest := []) 2 (zcX6_seesAt N b1 h1 S a2) (by decide) (by decide) zw_261 zw_262 zw_5 zw_263 (by decide +kernel) rfl rfl (Nat.le_of_ble_eq_true rfl) dX6_tellOf_62 (fun r5 S4 => ?_)
        refine zg_if_eq 72 dX6_tellOf_65 (by decide) ?_ ?_
        · refine zg_iconst (v := 0) dX6_tellOf_72 (by decide) ?_
          exact zg_iret rfl dX6_tellOf_73
        · refine zg_iconst (v := 1) dX6_tellOf_68 (by decide) ?_
          refine zg_goto (tgt := 73) dX6_tellOf_69 (by decide) ?_
          exact zg_iret rfl dX6_tellOf_73
      · refine zg_tableOut dX6_tellOf_7 (by have q2 := lv_neT q2 (show (0 : Int32).toInt = 0 from by decide); have q3 := lv_neT q3 (show (1 : Int32).toInt = 1 from by decide); have q6 := lv_neT q6 (show (2 : Int32).toInt = 2 from by decide); omega) (by decide : (7 : Int) + 67 = (74 : Nat)) ?_
        refine zg_aload_n 2 dX6_tellOf_74 rfl rfl ?_
        refine zg_iload 0 dX6_tellOf_75 rfl ?_
        refine zg_iload_n 4 dX6_tellOf_77 rfl rfl ?_
        refine zg_iadd dX6_tellOf_78 ?_
        refine zg_iconst (v := 1) dX6_tellOf_79 (by decide) ?_
        refine zg_isub dX6_tellOf_80 ?_
        refine zg_iald h1 dX6_tellOf_81 ?_
        exact zg_iret rfl dX6_tellOf_82
def fX6_tellOf (N : Nat) (b1 : Nat) (S : zb_S) (a2 : Int32) (a3 : Int32) : Option (Int32 × zb_S) := fX6_tellOf_0 N b1 S a2 a3
theorem zcX6_tellOf {l : Launch} {G : zb_G} (N : Nat) (b1 : Nat) (h1 : zb_kd b1 = 7) (S : zb_S) (a2 : Int32) (a3 : Int32) : zb_C zb_eI l G 1 yX6_tellOf cX6_tellOf 5 (some .int) [.ref (zb_ad G 21), .ref (zb_ad G b1), .int a2, .int a3] S (fX6_tellOf N b1 S a2 a3) :=
  zb_C.of (by decide +kernel) rfl (Nat.le_of_ble_eq_true rfl) rfl (gX6_tellOf_0 N b1 h1 S a2 a3)
-- X6_zone
def fX6_zone_0 (N : Nat) (S : zb_S) (a1 : Int32) (a2 : Int32) : Option (Int32 × zb_S) :=
  zb_let (zb_pi S 21 0 0) (fun S1 : zb_S =>
  zb_bind (fX6_noZone N S1 a1) (fun r3 S2 =>
  if r3 = 0 then
    zb_bind (fX6_in N S2 (Int32.toInt64 a2) 0 6) (fun r5 S4 =>
    if r5 = 0 then
      some ((-2), S4)
    else
      zb_bind (fX6_tellOf N 24 S4 a1 a2) (fun r7 S6 =>
      some (r7, S6)))
  else
    some ((-1), S2)))
set_option maxHeartbeats 4000000 in
set_option maxRecDepth 100000 in
theorem gX6_zone_0 {l : Launch} {G : zb_G} (N : Nat) (S : zb_S) (a1 : Int32) (a2 : Int32) : zb_Go zb_eI l G 2 RX6 cX6_zone 3 (some .int) 0 [(0, .ref (zb_ad G 21)), (1, .int a1), (2, .int a2)] [] S (fX6_zone_0 N S a1 a2) := by
  unfold fX6_zone_0
  refine zg_aload_n 0 dX6_zone_0 rfl rfl ?_
  refine zg_iconst (v := 0) dX6_zone_1 (by decide) ?_
  refine zp_X6_0 rfl zw_114 dX6_zone_2 (fun S1 => ?_)
  refine zg_aload_n 0 dX6_zone_5 rfl rfl ?_
  refine zg_iload_n 1 dX6_zone_6 rfl rfl ?_
  refine zg_callVI (As := [.int a1]) (rest := []) 1 (zcX6_noZone N S1 a1) (by decide) (by decide) rfl (by decide) rfl zw_253 zw_254 zw_255 zw_5 zw_256 (by decide +kernel) rfl rfl (Nat.le_of_ble_eq_true rfl) dX6_zone_7 (fun r3 S2 => ?_)
  refine zg_if_eq 15 dX6_zone_10 (by decide) ?_ ?_
  · refine zg_iload_n 2 dX6_zone_15 rfl rfl ?_
    refine zg_i2l dX6_zone_16 ?_
    refine zg_lconst (v := 0) dX6_zone_17 (by decide) ?_
    refine zg_ldc2 zw_252 dX6_zone_18 ?_
    refine zg_callSI (As := [.long (Int32.toInt64 a2), .long 0, .long 6]) (rest := []) 3 (zcX6_in N S2 (Int32.toInt64 a2) 0 6) (by decide) (by decide) zw_117 zw_118 zw_5 zw_119 (by decide +kernel) rfl rfl (Nat.le_of_ble_eq_true rfl) dX6_zone_21 (fun r5 S4 => ?_)
    refine zg_if_eq 40 dX6_zone_24 (by decide) ?_ ?_
    · refine zg_bipush (v := (-2)) dX6_zone_40 (by decide) ?_
      exact zg_iret rfl dX6_zone_42
    · refine zg_aload_n 0 dX6_zone_27 rfl rfl ?_
      refine zg_aload_n 0 dX6_zone_28 rfl rfl ?_
      refine zq_X6_11 rfl rfl zw_92 dX6_zone_29 ?_
      refine zg_iload_n 1 dX6_zone_32 rfl rfl ?_
      refine zg_iload_n 2 dX6_zone_33 rfl rfl ?_
      refine zg_callVI (As := [.ref (zb_ad G 24), .int a1, .int a2]) (rest := []) 3 (zcX6_tellOf N 24 rfl S4 a1 a2) (by decide) (by decide) rfl (by decide) rfl zw_257 zw_258 zw_259 zw_5 zw_260 (by decide +kernel) rfl rfl (Nat.le_of_ble_eq_true rfl) dX6_zone_34 (fun r7 S6 => ?_)
      refine zg_goto (tgt := 42) dX6_zone_37 (by decide) ?_
      exact zg_iret rfl dX6_zone_42
  · refine zg_iconst (v := (-1)) dX6_zone_13 (by decide) ?_
    exact zg_iret rfl dX6_zone_14
def fX6_zone (N : Nat) (S : zb_S) (a1 : Int32) (a2 : Int32) : Option (Int32 × zb_S) := fX6_zone_0 N S a1 a2
theorem zcX6_zone {l : Launch} {G : zb_G} (N : Nat) (S : zb_S) (a1 : Int32) (a2 : Int32) : zb_C zb_eI l G 2 yX6_zone cX6_zone 3 (some .int) [.ref (zb_ad G 21), .int a1, .int a2] S (fX6_zone N S a1 a2) :=
  zb_C.of (by decide +kernel) rfl (Nat.le_of_ble_eq_true rfl) rfl (gX6_zone_0 N S a1 a2)
-- X6_note
def fX6_note_51b (N : Nat) (k51 : zb_S → Int32 → Option (Unit × zb_S)) (S : zb_S) (l1 : Int32) : Option (Unit × zb_S) :=
  if 79 ≤ l1 then
    zb_let (zb_pi S 21 14 ((zb_i S 21 14) + 1)) (fun S1 : zb_S =>
    some ((), S1))
  else
    if zb_in l1 (zb_sz 24) then
    if zb_in ((79 * (zb_i S 21 14)) + l1) (zb_sz 26) then zb_let (zb_pa S 26 (Int32.toNatClampNeg ((79 * (zb_i S 21 14)) + l1)) (zb_a S 24 (Int32.toNatClampNeg l1))) (fun S2 : zb_S =>
    zb_let (l1 + 1) (fun x3 : Int32 =>
    k51 S2 x3)) else none else none
set_option maxHeartbeats 4000000 in
set_option maxRecDepth 100000 in
theorem gX6_note_51b {l : Launch} {G : zb_G} (N : Nat) (k51 : zb_S → Int32 → Option (Unit × zb_S)) (hk51 : ∀ (S : zb_S) (l1 : Int32), zb_Go zb_eV l G 0 RX6 cX6_note 2 none 51 [(0, .ref (zb_ad G 21)), (1, .int l1)] [] S (k51 S l1)) (S : zb_S) (l1 : Int32) : zb_Go zb_eV l G 0 RX6 cX6_note 2 none 51 [(0, .ref (zb_ad G 21)), (1, .int l1)] [] S (fX6_note_51b N k51 S l1) := by
  unfold fX6_note_51b
  refine zg_iload_n 1 dX6_note_51 rfl rfl ?_
  refine zg_bipush (v := 79) dX6_note_52 (by decide) ?_
  refine zg_icmp_ge 83 dX6_note_54 (by decide) ?_ ?_
  · refine zg_aload_n 0 dX6_note_83 rfl rfl ?_
    refine zg_dup dX6_note_84 rfl ?_
    refine zq_X6_14 rfl zw_219 dX6_note_85 ?_
    refine zg_iconst (v := 1) dX6_note_88 (by decide) ?_
    refine zg_iadd dX6_note_89 ?_
    refine zp_X6_14 rfl zw_219 dX6_note_90 (fun S1 => ?_)
    exact zg_vret rfl dX6_note_93
  · refine zg_aload_n 0 dX6_note_57 rfl rfl ?_
    refine zq_X6_13 rfl rfl zw_94 dX6_note_58 ?_
    refine zg_bipush (v := 79) dX6_note_61 (by decide) ?_
    refine zg_aload_n 0 dX6_note_63 rfl rfl ?_
    refine zq_X6_14 rfl zw_219 dX6_note_64 ?_
    refine zg_imul dX6_note_67 ?_
    refine zg_iload_n 1 dX6_note_68 rfl rfl ?_
    refine zg_iadd dX6_note_69 ?_
    refine zg_aload_n 0 dX6_note_70 rfl rfl ?_
    refine zq_X6_11 rfl rfl zw_92 dX6_note_71 ?_
    refine zg_iload_n 1 dX6_note_74 rfl rfl ?_
    refine zg_iald rfl dX6_note_75 ?_
    refine zg_iast rfl dX6_note_76 (fun S2 => ?_)
    refine zg_iincL (fun x3 => [(1, .int x3), (0, .ref (zb_ad G 21))]) 1 dX6_note_77 rfl rfl (by decide) (fun _ => rfl) (fun x3 => ?_)
    refine zg_goto (tgt := 51) dX6_note_80 (by decide) ?_
    refine zg_sub [1, 0] rfl ?_
    exact hk51 S2 x3
def fX6_note_51 (N : Nat) : Nat → zb_S → Int32 → Option (Unit × zb_S)
  | 0, _, _ => none
  | n + 1, S, l1 => fX6_note_51b N (fX6_note_51 N n) S l1
set_option maxHeartbeats 4000000 in
set_option maxRecDepth 100000 in
theorem gX6_note_51 {l : Launch} {G : zb_G} (N : Nat) : ∀ (n : Nat) (S : zb_S) (l1 : Int32), zb_Go zb_eV l G 0 RX6 cX6_note 2 none 51 [(0, .ref (zb_ad G 21)), (1, .int l1)] [] S (fX6_note_51 N n S l1) := by
  intro n
  induction n with
  | zero => intros; exact zg_none
  | succ n ih =>
    intro S l1
    exact gX6_note_51b N (fX6_note_51 N n) ih S l1
def fX6_note_49 (N : Nat) (S : zb_S) : Option (Unit × zb_S) :=
  fX6_note_51 N N S 0
set_option maxHeartbeats 4000000 in
set_option maxRecDepth 100000 in
theorem gX6_note_49 {l : Launch} {G : zb_G} (N : Nat) (S : zb_S) : zb_Go zb_eV l G 0 RX6 cX6_note 2 none 49 [(0, .ref (zb_ad G 21))] [] S (fX6_note_49 N S) := by
  unfold fX6_note_49
  refine zg_iconst (v := 0) dX6_note_49 (by decide) ?_
  refine zg_istore_n (lv' := [(1, .int 0), (0, .ref (zb_ad G 21))]) dX6_note_50 rfl (by decide) rfl ?_
  refine zg_sub [1, 0] rfl ?_
  exact gX6_note_51 N N S 0
def fX6_note_11b (N : Nat) (k11 : zb_S → Int32 → Option (Unit × zb_S)) (S : zb_S) (l1 : Int32) : Option (Unit × zb_S) :=
  if 1027 ≤ l1 then
    zb_let (zb_pi S 21 14 ((zb_i S 21 14) - 1)) (fun S1 : zb_S =>
    fX6_note_49 N S1)
  else
    if zb_in (l1 + 79) (zb_sz 26) then
    if zb_in l1 (zb_sz 26) then zb_let (zb_pa S 26 (Int32.toNatClampNeg l1) (zb_a S 26 (Int32.toNatClampNeg (l1 + 79)))) (fun S2 : zb_S =>
    zb_let (l1 + 1) (fun x3 : Int32 =>
    k11 S2 x3)) else none else none
set_option maxHeartbeats 4000000 in
set_option maxRecDepth 100000 in
theorem gX6_note_11b {l : Launch} {G : zb_G} (N : Nat) (k11 : zb_S → Int32 → Option (Unit × zb_S)) (hk11 : ∀ (S : zb_S) (l1 : Int32), zb_Go zb_eV l G 0 RX6 cX6_note 2 none 11 [(0, .ref (zb_ad G 21)), (1, .int l1)] [] S (k11 S l1)) (S : zb_S) (l1 : Int32) : zb_Go zb_eV l G 0 RX6 cX6_note 2 none 11 [(0, .ref (zb_ad G 21)), (1, .int l1)] [] S (fX6_note_11b N k11 S l1) := by
  unfold fX6_note_11b
  refine zg_iload_n 1 dX6_note_11 rfl rfl ?_
  refine zg_sipush (v := 1027) dX6_note_12 (by decide) ?_
  refine zg_icmp_ge 39 dX6_note_15 (by decide) ?_ ?_
  · refine zg_aload_n 0 dX6_note_39 rfl rfl ?_
    refine zg_dup dX6_note_40 rfl ?_
    refine zq_X6_14 rfl zw_219 dX6_note_41 ?_
    refine zg_iconst (v := 1) dX6_note_44 (by decide) ?_
    refine zg_isub dX6_note_45 ?_
    refine zp_X6_14 rfl zw_219 dX6_note_46 (fun S1 => ?_)
    refine zg_sub [0] rfl ?_
    exact gX6_note_49 N S1
  · refine zg_aload_n 0 dX6_note_18 rfl rfl ?_
    refine zq_X6_13 rfl rfl zw_94 dX6_note_19 ?_
    refine zg_iload_n 1 dX6_note_22 rfl rfl ?_
    refine zg_aload_n 0 dX6_note_23 rfl rfl ?_
    refine zq_X6_13 rfl rfl zw_94 dX6_note_24 ?_
    refine zg_iload_n 1 dX6_note_27 rfl rfl ?_
    refine zg_bipush (v := 79) dX6_note_28 (by decide) ?_
    refine zg_iadd dX6_note_30 ?_
    refine zg_iald rfl dX6_note_31 ?_
    refine zg_iast rfl dX6_note_32 (fun S2 => ?_)
    refine zg_iincL (fun x3 => [(1, .int x3), (0, .ref (zb_ad G 21))]) 1 dX6_note_33 rfl rfl (by decide) (fun _ => rfl) (fun x3 => ?_)
    refine zg_goto (tgt := 11) dX6_note_36 (by decide) ?_
    refine zg_sub [1, 0] rfl ?_
    exact hk11 S2 x3
def fX6_note_11 (N : Nat) : Nat → zb_S → Int32 → Option (Unit × zb_S)
  | 0, _, _ => none
  | n + 1, S, l1 => fX6_note_11b N (fX6_note_11 N n) S l1
set_option maxHeartbeats 4000000 in
set_option maxRecDepth 100000 in
theorem gX6_note_11 {l : Launch} {G : zb_G} (N : Nat) : ∀ (n : Nat) (S : zb_S) (l1 : Int32), zb_Go zb_eV l G 0 RX6 cX6_note 2 none 11 [(0, .ref (zb_ad G 21)), (1, .int l1)] [] S (fX6_note_11 N n S l1) := by
  intro n
  induction n with
  | zero => intros; exact zg_none
  | succ n ih =>
    intro S l1
    exact gX6_note_11b N (fX6_note_11 N n) ih S l1
def fX6_note_0 (N : Nat) (S : zb_S) : Option (Unit × zb_S) :=
  if (zb_i S 21 14) = 14 then
    fX6_note_11 N N S 0
  else
    fX6_note_49 N S
set_option maxHeartbeats 4000000 in
set_option maxRecDepth 100000 in
theorem gX6_note_0 {l : Launch} {G : zb_G} (N : Nat) (S : zb_S) : zb_Go zb_eV l G 0 RX6 cX6_note 2 none 0 [(0, .ref (zb_ad G 21))] [] S (fX6_note_0 N S) := by
  unfold fX6_note_0
  refine zg_aload_n 0 dX6_note_0 rfl rfl ?_
  refine zq_X6_14 rfl zw_219 dX6_note_1 ?_
  refine zg_bipush (v := 14) dX6_note_4 (by decide) ?_
  refine zg_icmp_ne 49 dX6_note_6 (by decide) ?_ ?_
  · exact gX6_note_49 N S
  · refine zg_iconst (v := 0) dX6_note_9 (by decide) ?_
    refine zg_istore_n (lv' := [(1, .int 0), (0, .ref (zb_ad G 21))]) dX6_note_10 rfl (by decide) rfl ?_
    refine zg_sub [1, 0] rfl ?_
    exact gX6_note_11 N N S 0
def fX6_note (N : Nat) (S : zb_S) : Option (Unit × zb_S) := fX6_note_0 N S
theorem zcX6_note {l : Launch} {G : zb_G} (N : Nat) (S : zb_S) : zb_C zb_eV l G 0 yX6_note cX6_note 2 none [.ref (zb_ad G 21)] S (fX6_note N S) :=
  zb_C.of (by decide +kernel) rfl (Nat.le_of_ble_eq_true rfl) rfl (gX6_note_0 N S)
-- X6_noLine
def fX6_noLine_16 (N : Nat) (S : zb_S) : Option (Int32 × zb_S) :=
  if (1 : Int32) = 0 ∨ (1 : Int32) = 1 then some (1, S) else none
set_option maxHeartbeats 4000000 in
set_option maxRecDepth 100000 in
theorem gX6_noLine_16 {l : Launch} {G : zb_G} (N : Nat) (S : zb_S) : zb_Go zb_eI l G 0 RX6 cX6_noLine 2 (some .boolean) 16 [] [] S (fX6_noLine_16 N S) := by
  unfold fX6_noLine_16
  refine zg_iconst (v := 1) dX6_noLine_16 (by decide) ?_
  refine zg_goto (tgt := 21) dX6_noLine_17 (by decide) ?_
  exact zg_zret rfl dX6_noLine_21
def fX6_noLine_0 (N : Nat) (S : zb_S) (a1 : Int32) : Option (Int32 × zb_S) :=
  if a1 = 0 then
    if (0 : Int32) = 0 ∨ (0 : Int32) = 1 then some (0, S) else none
  else
    if a1 = 1 then
      if 0 < (zb_i S 21 5) then
        if (0 : Int32) = 0 ∨ (0 : Int32) = 1 then some (0, S) else none
      else
        fX6_noLine_16 N S
    else
      fX6_noLine_16 N S
set_option maxHeartbeats 4000000 in
set_option maxRecDepth 100000 in
theorem gX6_noLine_0 {l : Launch} {G : zb_G} (N : Nat) (S : zb_S) (a1 : Int32) : zb_Go zb_eI l G 0 RX6 cX6_noLine 2 (some .boolean) 0 [(0, .ref (zb_ad G 21)), (1, .int a1)] [] S (fX6_noLine_0 N S a1) := by
  unfold fX6_noLine_0
  refine zg_iload_n 1 dX6_noLine_0 rfl rfl ?_
  refine zg_if_eq 20 dX6_noLine_1 (by decide) ?_ ?_
  · refine zg_iconst (v := 0) dX6_noLine_20 (by decide) ?_
    exact zg_zret rfl dX6_noLine_21
  · refine zg_iload_n 1 dX6_noLine_4 rfl rfl ?_
    refine zg_iconst (v := 1) dX6_noLine_5 (by decide) ?_
    refine zg_icmp_ne 16 dX6_noLine_6 (by decide) ?_ ?_
    · refine zg_sub [] rfl ?_
      exact gX6_noLine_16 N S
    · refine zg_aload_n 0 dX6_noLine_9 rfl rfl ?_
      refine zq_X6_5 rfl zw_218 dX6_noLine_10 ?_
      refine zg_if_gt 20 dX6_noLine_13 (by decide) ?_ ?_
      · refine zg_iconst (v := 0) dX6_noLine_20 (by decide) ?_
        exact zg_zret rfl dX6_noLine_21
      · refine zg_sub [] rfl ?_
        exact gX6_noLine_16 N S
def fX6_noLine (N : Nat) (S : zb_S) (a1 : Int32) : Option (Int32 × zb_S) := fX6_noLine_0 N S a1
theorem zcX6_noLine {l : Launch} {G : zb_G} (N : Nat) (S : zb_S) (a1 : Int32) : zb_C zb_eI l G 0 yX6_noLine cX6_noLine 2 (some .boolean) [.ref (zb_ad G 21), .int a1] S (fX6_noLine N S a1) :=
  zb_C.of (by decide +kernel) rfl (Nat.le_of_ble_eq_true rfl) rfl (gX6_noLine_0 N S a1)
-- X6_entry
def fX6_entry_0 (N : Nat) (S : zb_S) (a1 : Int32) : Option (Int32 × zb_S) :=
  if a1 = 0 then
    some (0, S)
  else
    some (zb_i S 21 4, S)
set_option maxHeartbeats 4000000 in
set_option maxRecDepth 100000 in
theorem gX6_entry_0 {l : Launch} {G : zb_G} (N : Nat) (S : zb_S) (a1 : Int32) : zb_Go zb_eI l G 0 RX6 cX6_entry 2 (some .int) 0 [(0, .ref (zb_ad G 21)), (1, .int a1)] [] S (fX6_entry_0 N S a1) := by
  unfold fX6_entry_0
  refine zg_iload_n 1 dX6_entry_0 rfl rfl ?_
  refine zg_if_ne 8 dX6_entry_1 (by decide) ?_ ?_
  · refine zg_aload_n 0 dX6_entry_8 rfl rfl ?_
    refine zq_X6_4 rfl zw_89 dX6_entry_9 ?_
    exact zg_iret rfl dX6_entry_12
  · refine zg_iconst (v := 0) dX6_entry_4 (by decide) ?_
    refine zg_goto (tgt := 12) dX6_entry_5 (by decide) ?_
    exact zg_iret rfl dX6_entry_12
def fX6_entry (N : Nat) (S : zb_S) (a1 : Int32) : Option (Int32 × zb_S) := fX6_entry_0 N S a1
theorem zcX6_entry {l : Launch} {G : zb_G} (N : Nat) (S : zb_S) (a1 : Int32) : zb_C zb_eI l G 0 yX6_entry cX6_entry 2 (some .int) [.ref (zb_ad G 21), .int a1] S (fX6_entry N S a1) :=
  zb_C.of (by decide +kernel) rfl (Nat.le_of_ble_eq_true rfl) rfl (gX6_entry_0 N S a1)
-- X6_feedOn
def fX6_feedOn_0 (N : Nat) (b1 : Nat) (S : zb_S) (a2 : Int32) : Option (Unit × zb_S) :=
  if zb_in 76 (zb_sz b1) then
  if zb_in 76 (zb_sz b1) then zb_let (zb_pa S b1 (Int32.toNatClampNeg 76) ((zb_a S b1 (Int32.toNatClampNeg 76)) + 1)) (fun S1 : zb_S =>
  zb_bind (fX6_entry N S1 a2) (fun r3 S2 =>
  if zb_in 76 (zb_sz b1) then
  if zb_in ((6 * r3) + 0) (zb_sz b1) then zb_let (zb_pa S2 b1 (Int32.toNatClampNeg ((6 * r3) + 0)) (zb_a S2 b1 (Int32.toNatClampNeg 76))) (fun S4 : zb_S =>
  some ((), S4)) else none else none)) else none else none
set_option maxHeartbeats 4000000 in
set_option maxRecDepth 100000 in
theorem gX6_feedOn_0 {l : Launch} {G : zb_G} (N : Nat) (b1 : Nat) (h1 : zb_kd b1 = 7) (S : zb_S) (a2 : Int32) : zb_Go zb_eV l G 1 RX6 cX6_feedOn 3 none 0 [(0, .ref (zb_ad G 21)), (1, .ref (zb_ad G b1)), (2, .int a2)] [] S (fX6_feedOn_0 N b1 S a2) := by
  unfold fX6_feedOn_0
  refine zg_aload_n 1 dX6_feedOn_0 rfl rfl ?_
  refine zg_bipush (v := 76) dX6_feedOn_1 (by decide) ?_
  refine zg_dup2 dX6_feedOn_3 rfl rfl ?_
  refine zg_iald h1 dX6_feedOn_4 ?_
  refine zg_iconst (v := 1) dX6_feedOn_5 (by decide) ?_
  refine zg_iadd dX6_feedOn_6 ?_
  refine zg_iast h1 dX6_feedOn_7 (fun S1 => ?_)
  refine zg_aload_n 1 dX6_feedOn_8 rfl rfl ?_
  refine zg_bipush (v := 6) dX6_feedOn_9 (by decide) ?_
  refine zg_aload_n 0 dX6_feedOn_11 rfl rfl ?_
  refine zg_iload_n 2 dX6_feedOn_12 rfl rfl ?_
  refine zg_callVI (As := [.int a2]) (rest := [.int 6, .ref (zb_ad G b1)]) 1 (zcX6_entry N S1 a2) (by decide) (by decide) rfl (by decide) rfl zw_307 zw_308 zw_309 zw_5 zw_310 (by decide +kernel) rfl rfl (Nat.le_of_ble_eq_true rfl) dX6_feedOn_13 (fun r3 S2 => ?_)
  refine zg_imul dX6_feedOn_16 ?_
  refine zg_iconst (v := 0) dX6_feedOn_17 (by decide) ?_
  refine zg_iadd dX6_feedOn_18 ?_
  refine zg_aload_n 1 dX6_feedOn_19 rfl rfl ?_
  refine zg_bipush (v := 76) dX6_feedOn_20 (by decide) ?_
  refine zg_iald h1 dX6_feedOn_22 ?_
  refine zg_iast h1 dX6_feedOn_23 (fun S4 => ?_)
  exact zg_vret rfl dX6_feedOn_24
def fX6_feedOn (N : Nat) (b1 : Nat) (S : zb_S) (a2 : Int32) : Option (Unit × zb_S) := fX6_feedOn_0 N b1 S a2
theorem zcX6_feedOn {l : Launch} {G : zb_G} (N : Nat) (b1 : Nat) (h1 : zb_kd b1 = 7) (S : zb_S) (a2 : Int32) : zb_C zb_eV l G 1 yX6_feedOn cX6_feedOn 3 none [.ref (zb_ad G 21), .ref (zb_ad G b1), .int a2] S (fX6_feedOn N b1 S a2) :=
  zb_C.of (by decide +kernel) rfl (Nat.le_of_ble_eq_true rfl) rfl (gX6_feedOn_0 N b1 h1 S a2)
-- X6_feed
def fX6_feed_0 (N : Nat) (S : zb_S) (a1 : Int32) : Option (Int32 × zb_S) :=
  zb_let (zb_pi S 21 0 0) (fun S1 : zb_S =>
  zb_bind (fX6_noLine N S1 a1) (fun r3 S2 =>
  if r3 = 0 then
    zb_bind (fX6_entry N S2 a1) (fun r5 S4 =>
    if zb_in ((6 * r5) + 0) (zb_sz 24) then
    if (zb_a S4 24 (Int32.toNatClampNeg ((6 * r5) + 0))) ≤ 0 then
      if zb_in 76 (zb_sz 24) then
      if (zb_a S4 24 (Int32.toNatClampNeg 76)) = 99 then
        some ((-4), S4)
      else
        zb_bind (fX6_note N S4) (fun _ S6 =>
        zb_bind (fX6_feedOn N 24 S6 a1) (fun _ S8 =>
        if zb_in 76 (zb_sz 24) then
        some (zb_a S8 24 (Int32.toNatClampNeg 76), S8) else none)) else none
    else
      some ((-3), S4) else none)
  else
    some ((-1), S2)))
set_option maxHeartbeats 4000000 in
set_option maxRecDepth 100000 in
theorem gX6_feed_0 {l : Launch} {G : zb_G} (N : Nat) (S : zb_S) (a1 : Int32) : zb_Go zb_eI l G 2 RX6 cX6_feed 2 (some .int) 0 [(0, .ref (zb_ad G 21)), (1, .int a1)] [] S (fX6_feed_0 N S a1) := by
  unfold fX6_feed_0
  refine zg_aload_n 0 dX6_feed_0 rfl rfl ?_
  refine zg_iconst (v := 0) dX6_feed_1 (by decide) ?_
  refine zp_X6_0 rfl zw_114 dX6_feed_2 (fun S1 => ?_)
  refine zg_aload_n 0 dX6_feed_5 rfl rfl ?_
  refine zg_iload_n 1 dX6_feed_6 rfl rfl ?_
  refine zg_callVI (As := [.int a1]) (rest := []) 1 (zcX6_noLine N S1 a1) (by decide) (by decide) rfl (by decide) rfl zw_303 zw_304 zw_305 zw_5 zw_306 (by decide +kernel) rfl rfl (Nat.le_of_ble_eq_true rfl) dX6_feed_7 (fun r3 S2 => ?_)
  refine zg_if_eq 15 dX6_feed_10 (by decide) ?_ ?_
  · refine zg_aload_n 0 dX6_feed_15 rfl rfl ?_
    refine zq_X6_11 rfl rfl zw_92 dX6_feed_16 ?_
    refine zg_bipush (v := 6) dX6_feed_19 (by decide) ?_
    refine zg_aload_n 0 dX6_feed_21 rfl rfl ?_
    refine zg_iload_n 1 dX6_feed_22 rfl rfl ?_
    refine zg_callVI (As := [.int a1]) (rest := [.int 6, .ref (zb_ad G 24)]) 1 (zcX6_entry N S2 a1) (by decide) (by decide) rfl (by decide) rfl zw_307 zw_308 zw_309 zw_5 zw_310 (by decide +kernel) rfl rfl (Nat.le_of_ble_eq_true rfl) dX6_feed_23 (fun r5 S4 => ?_)
    refine zg_imul dX6_feed_26 ?_
    refine zg_iconst (v := 0) dX6_feed_27 (by decide) ?_
    refine zg_iadd dX6_feed_28 ?_
    refine zg_iald rfl dX6_feed_29 ?_
    refine zg_if_le 36 dX6_feed_30 (by decide) ?_ ?_
    · refine zg_aload_n 0 dX6_feed_36 rfl rfl ?_
      refine zq_X6_11 rfl rfl zw_92 dX6_feed_37 ?_
      refine zg_bipush (v := 76) dX6_feed_40 (by decide) ?_
      refine zg_iald rfl dX6_feed_42 ?_
      refine zg_bipush (v := 99) dX6_feed_43 (by decide) ?_
      refine zg_icmp_ne 51 dX6_feed_45 (by decide) ?_ ?_
      · refine zg_aload_n 0 dX6_feed_51 rfl rfl ?_
        refine zg_callVV (As := []) (rest := []) 0 (zcX6_note N S4) (by decide) (by decide) rfl (by decide) rfl zw_311 zw_312 zw_313 zw_5 zw_314 (by decide +kernel) rfl rfl (Nat.le_of_ble_eq_true rfl) dX6_feed_52 (fun S6 => ?_)
        refine zg_aload_n 0 dX6_feed_55 rfl rfl ?_
        refine zg_aload_n 0 dX6_feed_56 rfl rfl ?_
        refine zq_X6_11 rfl rfl zw_92 dX6_feed_57 ?_
        refine zg_iload_n 1 dX6_feed_60 rfl rfl ?_
        refine zg_callVV (As := [.ref (zb_ad G 24), .int a1]) (rest := []) 2 (zcX6_feedOn N 24 rfl S6 a1) (by decide) (by decide) rfl (by decide) rfl zw_315 zw_316 zw_317 zw_5 zw_318 (by decide +kernel) rfl rfl (Nat.le_of_ble_eq_true rfl) dX6_feed_61 (fun S8 => ?_)
        refine zg_aload_n 0 dX6_feed_64 rfl rfl ?_
        refine zq_X6_11 rfl rfl zw_92 dX6_feed_65 ?_
        refine zg_bipush (v := 76) dX6_feed_68 (by decide) ?_
        refine zg_iald rfl dX6_feed_70 ?_
        exact zg_iret rfl dX6_feed_71
      · refine zg_bipush (v := (-4)) dX6_feed_48 (by decide) ?_
        exact zg_iret rfl dX6_feed_50
    · refine zg_bipush (v := (-3)) dX6_feed_33 (by decide) ?_
      exact zg_iret rfl dX6_feed_35
  · refine zg_iconst (v := (-1)) dX6_feed_13 (by decide) ?_
    exact zg_iret rfl dX6_feed_14
def fX6_feed (N : Nat) (S : zb_S) (a1 : Int32) : Option (Int32 × zb_S) := fX6_feed_0 N S a1
theorem zcX6_feed {l : Launch} {G : zb_G} (N : Nat) (S : zb_S) (a1 : Int32) : zb_C zb_eI l G 2 yX6_feed cX6_feed 2 (some .int) [.ref (zb_ad G 21), .int a1] S (fX6_feed N S a1) :=
  zb_C.of (by decide +kernel) rfl (Nat.le_of_ble_eq_true rfl) rfl (gX6_feed_0 N S a1)
-- X6_liftOn
def fX6_liftOn_0 (N : Nat) (b0 : Nat) (S : zb_S) (a1 : Int32) : Option (Int32 × zb_S) :=
  if zb_in ((6 * a1) + 0) (zb_sz b0) then
  zb_let (zb_a S b0 (Int32.toNatClampNeg ((6 * a1) + 0))) (fun x1 : Int32 =>
  if zb_in ((6 * a1) + 0) (zb_sz b0) then zb_let (zb_pa S b0 (Int32.toNatClampNeg ((6 * a1) + 0)) 0) (fun S2 : zb_S =>
  if zb_in ((6 * a1) + 2) (zb_sz b0) then zb_let (zb_pa S2 b0 (Int32.toNatClampNeg ((6 * a1) + 2)) 0) (fun S3 : zb_S =>
  some (x1, S3)) else none) else none) else none
set_option maxHeartbeats 4000000 in
set_option maxRecDepth 100000 in
theorem gX6_liftOn_0 {l : Launch} {G : zb_G} (N : Nat) (b0 : Nat) (h0 : zb_kd b0 = 7) (S : zb_S) (a1 : Int32) : zb_Go zb_eI l G 0 RX6 cX6_liftOn 3 (some .int) 0 [(0, .ref (zb_ad G b0)), (1, .int a1)] [] S (fX6_liftOn_0 N b0 S a1) := by
  unfold fX6_liftOn_0
  refine zg_aload_n 0 dX6_liftOn_0 rfl rfl ?_
  refine zg_bipush (v := 6) dX6_liftOn_1 (by decide) ?_
  refine zg_iload_n 1 dX6_liftOn_3 rfl rfl ?_
  refine zg_imul dX6_liftOn_4 ?_
  refine zg_iconst (v := 0) dX6_liftOn_5 (by decide) ?_
  refine zg_iadd dX6_liftOn_6 ?_
  refine zg_iald h0 dX6_liftOn_7 ?_
  refine zg_istore_nL (fun x1 => [(2, .int x1), (0, .ref (zb_ad G b0)), (1, .int a1)]) dX6_liftOn_8 rfl (by decide) (fun _ => rfl) (fun x1 => ?_)
  refine zg_aload_n 1 dX6_liftOn_9 rfl rfl ?_
  refine zg_bipush (v := 6) dX6_liftOn_10 (by decide) ?_
  refine zg_iload_n 2 dX6_liftOn_12 rfl rfl ?_
  refine zg_imul dX6_liftOn_13 ?_
  refine zg_iconst (v := 0) dX6_liftOn_14 (by decide) ?_
  refine zg_iadd dX6_liftOn_15 ?_
  refine zg_iconst (v := 0) dX6_liftOn_16 (by decide) ?_
  refine zg_iast h0 dX6_liftOn_17 (fun S2 => ?_)
  refine zg_aload_n 1 dX6_liftOn_18 rfl rfl ?_
  refine zg_bipush (v := 6) dX6_liftOn_19 (by decide) ?_
  refine zg_iload_n 2 dX6_liftOn_21 rfl rfl ?_
  refine zg_imul dX6_liftOn_22 ?_
  refine zg_iconst (v := 2) dX6_liftOn_23 (by decide) ?_
  refine zg_iadd dX6_liftOn_24 ?_
  refine zg_iconst (v := 0) dX6_liftOn_25 (by decide) ?_
  refine zg_iast h0 dX6_liftOn_26 (fun S3 => ?_)
  refine zg_iload_n 0 dX6_liftOn_27 rfl rfl ?_
  exact zg_iret rfl dX6_liftOn_28
def fX6_liftOn (N : Nat) (b0 : Nat) (S : zb_S) (a1 : Int32) : Option (Int32 × zb_S) := fX6_liftOn_0 N b0 S a1
theorem zcX6_liftOn {l : Launch} {G : zb_G} (N : Nat) (b0 : Nat) (h0 : zb_kd b0 = 7) (S : zb_S) (a1 : Int32) : zb_C zb_eI l G 0 yX6_liftOn cX6_liftOn 3 (some .int) [.ref (zb_ad G b0), .int a1] S (fX6_liftOn N b0 S a1) :=
  zb_C.of (by decide +kernel) rfl (Nat.le_of_ble_eq_true rfl) rfl (gX6_liftOn_0 N b0 h0 S a1)
-- X6_lift
def fX6_lift_0 (N : Nat) (S : zb_S) (a1 : Int32) : Option (Int32 × zb_S) :=
  zb_let (zb_pi S 21 0 0) (fun S1 : zb_S =>
  zb_bind (fX6_noZone N S1 a1) (fun r3 S2 =>
  if r3 = 0 then
    if zb_in ((6 * a1) + 0) (zb_sz 24) then
    if (zb_a S2 24 (Int32.toNatClampNeg ((6 * a1) + 0))) = 0 then
      some ((-3), S2)
    else
      zb_bind (fX6_note N S2) (fun _ S4 =>
      zb_bind (fX6_liftOn N 24 S4 a1) (fun r7 S6 =>
      some (r7, S6))) else none
  else
    some ((-1), S2)))
set_option maxHeartbeats 4000000 in
set_option maxRecDepth 100000 in
theorem gX6_lift_0 {l : Launch} {G : zb_G} (N : Nat) (S : zb_S) (a1 : Int32) : zb_Go zb_eI l G 2 RX6 cX6_lift 2 (some .int) 0 [(0, .ref (zb_ad G 21)), (1, .int a1)] [] S (fX6_lift_0 N S a1) := by
  unfold fX6_lift_0
  refine zg_aload_n 0 dX6_lift_0 rfl rfl ?_
  refine zg_iconst (v := 0) dX6_lift_1 (by decide) ?_
  refine zp_X6_0 rfl zw_114 dX6_lift_2 (fun S1 => ?_)
  refine zg_aload_n 0 dX6_lift_5 rfl rfl ?_
  refine zg_iload_n 1 dX6_lift_6 rfl rfl ?_
  refine zg_callVI (As := [.int a1]) (rest := []) 1 (zcX6_noZone N S1 a1) (by decide) (by decide) rfl (by decide) rfl zw_253 zw_254 zw_255 zw_5 zw_256 (by decide +kernel) rfl rfl (Nat.le_of_ble_eq_true rfl) dX6_lift_7 (fun r3 S2 => ?_)
  refine zg_if_eq 15 dX6_lift_10 (by decide) ?_ ?_
  · refine zg_aload_n 0 dX6_lift_15 rfl rfl ?_
    refine zq_X6_11 rfl rfl zw_92 dX6_lift_16 ?_
    refine zg_bipush (v := 6) dX6_lift_19 (by decide) ?_
    refine zg_iload_n 1 dX6_lift_21 rfl rfl ?_
    refine zg_imul dX6_lift_22 ?_
    refine zg_iconst (v := 0) dX6_lift_23 (by decide) ?_
    refine zg_iadd dX6_lift_24 ?_
    refine zg_iald rfl dX6_lift_25 ?_
    refine zg_if_ne 32 dX6_lift_26 (by decide) ?_ ?_
    · refine zg_aload_n 0 dX6_lift_32 rfl rfl ?_
      refine zg_callVV (As := []) (rest := []) 0 (zcX6_note N S2) (by decide) (by decide) rfl (by decide) rfl zw_311 zw_312 zw_313 zw_5 zw_314 (by decide +kernel) rfl rfl (Nat.le_of_ble_eq_true rfl) dX6_lift_33 (fun S4 => ?_)
      refine zg_aload_n 0 dX6_lift_36 rfl rfl ?_
      refine zq_X6_11 rfl rfl zw_92 dX6_lift_37 ?_
      refine zg_iload_n 1 dX6_lift_40 rfl rfl ?_
      refine zg_callSI (As := [.ref (zb_ad G 24), .int a1]) (rest := []) 2 (zcX6_liftOn N 24 rfl S4 a1) (by decide) (by decide) zw_339 zw_340 zw_5 zw_341 (by decide +kernel) rfl rfl (Nat.le_of_ble_eq_true rfl) dX6_lift_41 (fun r7 S6 => ?_)
      exact zg_iret rfl dX6_lift_44
    · refine zg_bipush (v := (-3)) dX6_lift_29 (by decide) ?_
      exact zg_iret rfl dX6_lift_31
  · refine zg_iconst (v := (-1)) dX6_lift_13 (by decide) ?_
    exact zg_iret rfl dX6_lift_14
def fX6_lift (N : Nat) (S : zb_S) (a1 : Int32) : Option (Int32 × zb_S) := fX6_lift_0 N S a1
theorem zcX6_lift {l : Launch} {G : zb_G} (N : Nat) (S : zb_S) (a1 : Int32) : zb_C zb_eI l G 2 yX6_lift cX6_lift 2 (some .int) [.ref (zb_ad G 21), .int a1] S (fX6_lift N S a1) :=
  zb_C.of (by decide +kernel) rfl (Nat.le_of_ble_eq_true rfl) rfl (gX6_lift_0 N S a1)
-- X6_turn
def fX6_turn_0 (N : Nat) (S : zb_S) : Option (Int32 × zb_S) :=
  zb_let (zb_pi S 21 0 0) (fun S1 : zb_S =>
  zb_bind (fX6_note N S1) (fun _ S2 =>
  if zb_in 72 (zb_sz 24) then
  if zb_in 72 (zb_sz 24) then zb_let (zb_pa S2 24 (Int32.toNatClampNeg 72) (1 - (zb_a S2 24 (Int32.toNatClampNeg 72)))) (fun S4 : zb_S =>
  if zb_in 72 (zb_sz 24) then
  some (zb_a S4 24 (Int32.toNatClampNeg 72), S4) else none) else none else none))
set_option maxHeartbeats 4000000 in
set_option maxRecDepth 100000 in
theorem gX6_turn_0 {l : Launch} {G : zb_G} (N : Nat) (S : zb_S) : zb_Go zb_eI l G 1 RX6 cX6_turn 1 (some .int) 0 [(0, .ref (zb_ad G 21))] [] S (fX6_turn_0 N S) := by
  unfold fX6_turn_0
  refine zg_aload_n 0 dX6_turn_0 rfl rfl ?_
  refine zg_iconst (v := 0) dX6_turn_1 (by decide) ?_
  refine zp_X6_0 rfl zw_114 dX6_turn_2 (fun S1 => ?_)
  refine zg_aload_n 0 dX6_turn_5 rfl rfl ?_
  refine zg_callVV (As := []) (rest := []) 0 (zcX6_note N S1) (by decide) (by decide) rfl (by decide) rfl zw_311 zw_312 zw_313 zw_5 zw_314 (by decide +kernel) rfl rfl (Nat.le_of_ble_eq_true rfl) dX6_turn_6 (fun S2 => ?_)
  refine zg_aload_n 0 dX6_turn_9 rfl rfl ?_
  refine zq_X6_11 rfl rfl zw_92 dX6_turn_10 ?_
  refine zg_bipush (v := 72) dX6_turn_13 (by decide) ?_
  refine zg_iconst (v := 1) dX6_turn_15 (by decide) ?_
  refine zg_aload_n 0 dX6_turn_16 rfl rfl ?_
  refine zq_X6_11 rfl rfl zw_92 dX6_turn_17 ?_
  refine zg_bipush (v := 72) dX6_turn_20 (by decide) ?_
  refine zg_iald rfl dX6_turn_22 ?_
  refine zg_isub dX6_turn_23 ?_
  refine zg_iast rfl dX6_turn_24 (fun S4 => ?_)
  refine zg_aload_n 0 dX6_turn_25 rfl rfl ?_
  refine zq_X6_11 rfl rfl zw_92 dX6_turn_26 ?_
  refine zg_bipush (v := 72) dX6_turn_29 (by decide) ?_
  refine zg_iald rfl dX6_turn_31 ?_
  exact zg_iret rfl dX6_turn_32
def fX6_turn (N : Nat) (S : zb_S) : Option (Int32 × zb_S) := fX6_turn_0 N S
theorem zcX6_turn {l : Launch} {G : zb_G} (N : Nat) (S : zb_S) : zb_C zb_eI l G 1 yX6_turn cX6_turn 1 (some .int) [.ref (zb_ad G 21)] S (fX6_turn N S) :=
  zb_C.of (by decide +kernel) rfl (Nat.le_of_ble_eq_true rfl) rfl (gX6_turn_0 N S)
-- X6_eye
def fX6_eye_0 (N : Nat) (S : zb_S) (a1 : Int32) (a2 : Int32) : Option (Int32 × zb_S) :=
  zb_let (zb_pi S 21 0 0) (fun S1 : zb_S =>
  zb_bind (fX6_noZone N S1 a1) (fun r3 S2 =>
  if r3 = 0 then
    zb_bind (fX6_in N S2 (Int32.toInt64 a2) 0 2) (fun r5 S4 =>
    if r5 = 0 then
      some ((-2), S4)
    else
      zb_bind (fX6_note N S4) (fun _ S6 =>
      if zb_in ((6 * a1) + 1) (zb_sz 24) then
      zb_let (zb_a S6 24 (Int32.toNatClampNeg ((6 * a1) + 1))) (fun x8 : Int32 =>
      if zb_in ((6 * a1) + 1) (zb_sz 24) then zb_let (zb_pa S6 24 (Int32.toNatClampNeg ((6 * a1) + 1)) a2) (fun S9 : zb_S =>
      some (x8, S9)) else none) else none))
  else
    some ((-1), S2)))
set_option maxHeartbeats 4000000 in
set_option maxRecDepth 100000 in
theorem gX6_eye_0 {l : Launch} {G : zb_G} (N : Nat) (S : zb_S) (a1 : Int32) (a2 : Int32) : zb_Go zb_eI l G 2 RX6 cX6_eye 4 (some .int) 0 [(0, .ref (zb_ad G 21)), (1, .int a1), (2, .int a2)] [] S (fX6_eye_0 N S a1 a2) := by
  unfold fX6_eye_0
  refine zg_aload_n 0 dX6_eye_0 rfl rfl ?_
  refine zg_iconst (v := 0) dX6_eye_1 (by decide) ?_
  refine zp_X6_0 rfl zw_114 dX6_eye_2 (fun S1 => ?_)
  refine zg_aload_n 0 dX6_eye_5 rfl rfl ?_
  refine zg_iload_n 1 dX6_eye_6 rfl rfl ?_
  refine zg_callVI (As := [.int a1]) (rest := []) 1 (zcX6_noZone N S1 a1) (by decide) (by decide) rfl (by decide) rfl zw_253 zw_254 zw_255 zw_5 zw_256 (by decide +kernel) rfl rfl (Nat.le_of_ble_eq_true rfl) dX6_eye_7 (fun r3 S2 => ?_)
  refine zg_if_eq 15 dX6_eye_10 (by decide) ?_ ?_
  · refine zg_iload_n 2 dX6_eye_15 rfl rfl ?_
    refine zg_i2l dX6_eye_16 ?_
    refine zg_lconst (v := 0) dX6_eye_17 (by decide) ?_
    refine zg_ldc2 zw_366 dX6_eye_18 ?_
    refine zg_callSI (As := [.long (Int32.toInt64 a2), .long 0, .long 2]) (rest := []) 3 (zcX6_in N S2 (Int32.toInt64 a2) 0 2) (by decide) (by decide) zw_117 zw_118 zw_5 zw_119 (by decide +kernel) rfl rfl (Nat.le_of_ble_eq_true rfl) dX6_eye_21 (fun r5 S4 => ?_)
    refine zg_if_ne 30 dX6_eye_24 (by decide) ?_ ?_
    · refine zg_aload_n 0 dX6_eye_30 rfl rfl ?_
      refine zg_callVV (As := []) (rest := []) 0 (zcX6_note N S4) (by decide) (by decide) rfl (by decide) rfl zw_311 zw_312 zw_313 zw_5 zw_314 (by decide +kernel) rfl rfl (Nat.le_of_ble_eq_true rfl) dX6_eye_31 (fun S6 => ?_)
      refine zg_aload_n 0 dX6_eye_34 rfl rfl ?_
      refine zq_X6_11 rfl rfl zw_92 dX6_eye_35 ?_
      refine zg_bipush (v := 6) dX6_eye_38 (by decide) ?_
      refine zg_iload_n 1 dX6_eye_40 rfl rfl ?_
      refine zg_imul dX6_eye_41 ?_
      refine zg_iconst (v := 1) dX6_eye_42 (by decide) ?_
      refine zg_iadd dX6_eye_43 ?_
      refine zg_iald rfl dX6_eye_44 ?_
      refine zg_istore_nL (fun x8 => [(3, .int x8), (0, .ref (zb_ad G 21)), (1, .int a1), (2, .int a2)]) dX6_eye_45 rfl (by decide) (fun _ => rfl) (fun x8 => ?_)
      refine zg_aload_n 1 dX6_eye_46 rfl rfl ?_
      refine zq_X6_11 rfl rfl zw_92 dX6_eye_47 ?_
      refine zg_bipush (v := 6) dX6_eye_50 (by decide) ?_
      refine zg_iload_n 2 dX6_eye_52 rfl rfl ?_
      refine zg_imul dX6_eye_53 ?_
      refine zg_iconst (v := 1) dX6_eye_54 (by decide) ?_
      refine zg_iadd dX6_eye_55 ?_
      refine zg_iload_n 3 dX6_eye_56 rfl rfl ?_
      refine zg_iast rfl dX6_eye_57 (fun S9 => ?_)
      refine zg_iload_n 0 dX6_eye_58 rfl rfl ?_
      exact zg_iret rfl dX6_eye_59
    · refine zg_bipush (v := (-2)) dX6_eye_27 (by decide) ?_
      exact zg_iret rfl dX6_eye_29
  · refine zg_iconst (v := (-1)) dX6_eye_13 (by decide) ?_
    exact zg_iret rfl dX6_eye_14
def fX6_eye (N : Nat) (S : zb_S) (a1 : Int32) (a2 : Int32) : Option (Int32 × zb_S) := fX6_eye_0 N S a1 a2
theorem zcX6_eye {l : Launch} {G : zb_G} (N : Nat) (S : zb_S) (a1 : Int32) (a2 : Int32) : zb_C zb_eI l G 2 yX6_eye cX6_eye 4 (some .int) [.ref (zb_ad G 21), .int a1, .int a2] S (fX6_eye N S a1 a2) :=
  zb_C.of (by decide +kernel) rfl (Nat.le_of_ble_eq_true rfl) rfl (gX6_eye_0 N S a1 a2)
-- X6_make
def fX6_make_29 (N : Nat) (S : zb_S) (l1 : Int32) (l2 : Int32) (s0 : Int64) (s2 : Int64) : Option (Int32 × zb_S) :=
  zb_bind (fX6_in N S s2 0 s0) (fun r2 S1 =>
  if r2 = 0 then
    some ((-2), S1)
  else
    zb_bind (fX6_note N S1) (fun _ S3 =>
    if zb_in (73 + l1) (zb_sz 24) then
    zb_let (zb_a S3 24 (Int32.toNatClampNeg (73 + l1))) (fun x5 : Int32 =>
    if zb_in (73 + l1) (zb_sz 24) then zb_let (zb_pa S3 24 (Int32.toNatClampNeg (73 + l1)) l2) (fun S6 : zb_S =>
    some (x5, S6)) else none) else none))
set_option maxHeartbeats 4000000 in
set_option maxRecDepth 100000 in
theorem gX6_make_29 {l : Launch} {G : zb_G} (N : Nat) (S : zb_S) (l1 : Int32) (l2 : Int32) (s0 : Int64) (s2 : Int64) : zb_Go zb_eI l G 1 RX6 cX6_make 4 (some .int) 29 [(0, .ref (zb_ad G 21)), (1, .int l1), (2, .int l2)] [.long s0, .long 0, .long s2] S (fX6_make_29 N S l1 l2 s0 s2) := by
  unfold fX6_make_29
  refine zg_callSI (As := [.long s2, .long 0, .long s0]) (rest := []) 3 (zcX6_in N S s2 0 s0) (by decide) (by decide) zw_117 zw_118 zw_5 zw_119 (by decide +kernel) rfl rfl (Nat.le_of_ble_eq_true rfl) dX6_make_29 (fun r2 S1 => ?_)
  refine zg_if_ne 38 dX6_make_32 (by decide) ?_ ?_
  · refine zg_aload_n 0 dX6_make_38 rfl rfl ?_
    refine zg_callVV (As := []) (rest := []) 0 (zcX6_note N S1) (by decide) (by decide) rfl (by decide) rfl zw_311 zw_312 zw_313 zw_5 zw_314 (by decide +kernel) rfl rfl (Nat.le_of_ble_eq_true rfl) dX6_make_39 (fun S3 => ?_)
    refine zg_aload_n 0 dX6_make_42 rfl rfl ?_
    refine zq_X6_11 rfl rfl zw_92 dX6_make_43 ?_
    refine zg_bipush (v := 73) dX6_make_46 (by decide) ?_
    refine zg_iload_n 1 dX6_make_48 rfl rfl ?_
    refine zg_iadd dX6_make_49 ?_
    refine zg_iald rfl dX6_make_50 ?_
    refine zg_istore_nL (fun x5 => [(3, .int x5), (0, .ref (zb_ad G 21)), (1, .int l1), (2, .int l2)]) dX6_make_51 rfl (by decide) (fun _ => rfl) (fun x5 => ?_)
    refine zg_aload_n 1 dX6_make_52 rfl rfl ?_
    refine zq_X6_11 rfl rfl zw_92 dX6_make_53 ?_
    refine zg_bipush (v := 73) dX6_make_56 (by decide) ?_
    refine zg_iload_n 2 dX6_make_58 rfl rfl ?_
    refine zg_iadd dX6_make_59 ?_
    refine zg_iload_n 3 dX6_make_60 rfl rfl ?_
    refine zg_iast rfl dX6_make_61 (fun S6 => ?_)
    refine zg_iload_n 0 dX6_make_62 rfl rfl ?_
    exact zg_iret rfl dX6_make_63
  · refine zg_bipush (v := (-2)) dX6_make_35 (by decide) ?_
    exact zg_iret rfl dX6_make_37
def fX6_make_0 (N : Nat) (S : zb_S) (a1 : Int32) (a2 : Int32) : Option (Int32 × zb_S) :=
  zb_let (zb_pi S 21 0 0) (fun S1 : zb_S =>
  zb_bind (fX6_in N S1 (Int32.toInt64 a1) 0 1) (fun r3 S2 =>
  if r3 = 0 then
    some ((-2), S2)
  else
    if a1 = 0 then
      fX6_make_29 N S2 a1 a2 1 (Int32.toInt64 a2)
    else
      fX6_make_29 N S2 a1 a2 9 (Int32.toInt64 a2)))
set_option maxHeartbeats 4000000 in
set_option maxRecDepth 100000 in
theorem gX6_make_0 {l : Launch} {G : zb_G} (N : Nat) (S : zb_S) (a1 : Int32) (a2 : Int32) : zb_Go zb_eI l G 1 RX6 cX6_make 4 (some .int) 0 [(0, .ref (zb_ad G 21)), (1, .int a1), (2, .int a2)] [] S (fX6_make_0 N S a1 a2) := by
  unfold fX6_make_0
  refine zg_aload_n 0 dX6_make_0 rfl rfl ?_
  refine zg_iconst (v := 0) dX6_make_1 (by decide) ?_
  refine zp_X6_0 rfl zw_114 dX6_make_2 (fun S1 => ?_)
  refine zg_iload_n 1 dX6_make_5 rfl rfl ?_
  refine zg_i2l dX6_make_6 ?_
  refine zg_lconst (v := 0) dX6_make_7 (by decide) ?_
  refine zg_lconst (v := 1) dX6_make_8 (by decide) ?_
  refine zg_callSI (As := [.long (Int32.toInt64 a1), .long 0, .long 1]) (rest := []) 3 (zcX6_in N S1 (Int32.toInt64 a1) 0 1) (by decide) (by decide) zw_117 zw_118 zw_5 zw_119 (by decide +kernel) rfl rfl (Nat.le_of_ble_eq_true rfl) dX6_make_9 (fun r3 S2 => ?_)
  refine zg_if_eq 35 dX6_make_12 (by decide) ?_ ?_
  · refine zg_bipush (v := (-2)) dX6_make_35 (by decide) ?_
    exact zg_iret rfl dX6_make_37
  · refine zg_iload_n 2 dX6_make_15 rfl rfl ?_
    refine zg_i2l dX6_make_16 ?_
    refine zg_lconst (v := 0) dX6_make_17 (by decide) ?_
    refine zg_iload_n 1 dX6_make_18 rfl rfl ?_
    refine zg_if_ne 26 dX6_make_19 (by decide) ?_ ?_
    · refine zg_ldc2 zw_183 dX6_make_26 ?_
      exact gX6_make_29 N S2 a1 a2 9 (Int32.toInt64 a2)
    · refine zg_lconst (v := 1) dX6_make_22 (by decide) ?_
      refine zg_goto (tgt := 29) dX6_make_23 (by decide) ?_
      exact gX6_make_29 N S2 a1 a2 1 (Int32.toInt64 a2)
def fX6_make (N : Nat) (S : zb_S) (a1 : Int32) (a2 : Int32) : Option (Int32 × zb_S) := fX6_make_0 N S a1 a2
theorem zcX6_make {l : Launch} {G : zb_G} (N : Nat) (S : zb_S) (a1 : Int32) (a2 : Int32) : zb_C zb_eI l G 1 yX6_make cX6_make 4 (some .int) [.ref (zb_ad G 21), .int a1, .int a2] S (fX6_make N S a1 a2) :=
  zb_C.of (by decide +kernel) rfl (Nat.le_of_ble_eq_true rfl) rfl (gX6_make_0 N S a1 a2)
-- X6_clear
def fX6_clear_0 (N : Nat) (S : zb_S) (a1 : Int32) : Option (Int32 × zb_S) :=
  zb_let (zb_pi S 21 0 0) (fun S1 : zb_S =>
  zb_bind (fX6_noZone N S1 a1) (fun r3 S2 =>
  if r3 = 0 then
    if zb_in ((6 * a1) + 2) (zb_sz 24) then
    if (zb_a S2 24 (Int32.toNatClampNeg ((6 * a1) + 2))) = 0 then
      some ((-3), S2)
    else
      zb_bind (fX6_note N S2) (fun _ S4 =>
      if zb_in ((6 * a1) + 2) (zb_sz 24) then zb_let (zb_pa S4 24 (Int32.toNatClampNeg ((6 * a1) + 2)) 0) (fun S6 : zb_S =>
      zb_bind (fX6_those N 24 S6 2) (fun r8 S7 =>
      zb_bind (fX6_ones N S7 r8) (fun r10 S9 =>
      some (r10, S9)))) else none) else none
  else
    some ((-1), S2)))
set_option maxHeartbeats 4000000 in
set_option maxRecDepth 100000 in
theorem gX6_clear_0 {l : Launch} {G : zb_G} (N : Nat) (S : zb_S) (a1 : Int32) : zb_Go zb_eI l G 2 RX6 cX6_clear 2 (some .int) 0 [(0, .ref (zb_ad G 21)), (1, .int a1)] [] S (fX6_clear_0 N S a1) := by
  unfold fX6_clear_0
  refine zg_aload_n 0 dX6_clear_0 rfl rfl ?_
  refine zg_iconst (v := 0) dX6_clear_1 (by decide) ?_
  refine zp_X6_0 rfl zw_114 dX6_clear_2 (fun S1 => ?_)
  refine zg_aload_n 0 dX6_clear_5 rfl rfl ?_
  refine zg_iload_n 1 dX6_clear_6 rfl rfl ?_
  refine zg_callVI (As := [.int a1]) (rest := []) 1 (zcX6_noZone N S1 a1) (by decide) (by decide) rfl (by decide) rfl zw_253 zw_254 zw_255 zw_5 zw_256 (by decide +kernel) rfl rfl (Nat.le_of_ble_eq_true rfl) dX6_clear_7 (fun r3 S2 => ?_)
  refine zg_if_eq 15 dX6_clear_10 (by decide) ?_ ?_
  · refine zg_aload_n 0 dX6_clear_15 rfl rfl ?_
    refine zq_X6_11 rfl rfl zw_92 dX6_clear_16 ?_
    refine zg_bipush (v := 6) dX6_clear_19 (by decide) ?_
    refine zg_iload_n 1 dX6_clear_21 rfl rfl ?_
    refine zg_imul dX6_clear_22 ?_
    refine zg_iconst (v := 2) dX6_clear_23 (by decide) ?_
    refine zg_iadd dX6_clear_24 ?_
    refine zg_iald rfl dX6_clear_25 ?_
    refine zg_if_ne 32 dX6_clear_26 (by decide) ?_ ?_
    · refine zg_aload_n 0 dX6_clear_32 rfl rfl ?_
      refine zg_callVV (As := []) (rest := []) 0 (zcX6_note N S2) (by decide) (by decide) rfl (by decide) rfl zw_311 zw_312 zw_313 zw_5 zw_314 (by decide +kernel) rfl rfl (Nat.le_of_ble_eq_true rfl) dX6_clear_33 (fun S4 => ?_)
      refine zg_aload_n 0 dX6_clear_36 rfl rfl ?_
      refine zq_X6_11 rfl rfl zw_92 dX6_clear_37 ?_
      refine zg_bipush (v := 6) dX6_clear_40 (by decide) ?_
      refine zg_iload_n 1 dX6_clear_42 rfl rfl ?_
      refine zg_imul dX6_clear_43 ?_
      refine zg_iconst (v := 2) dX6_clear_44 (by decide) ?_
      refine zg_iadd dX6_clear_45 ?_
      refine zg_iconst (v := 0) dX6_clear_46 (by decide) ?_
      refine zg_iast rfl dX6_clear_47 (fun S6 => ?_)
      refine zg_aload_n 0 dX6_clear_48 rfl rfl ?_
      refine zg_aload_n 0 dX6_clear_49 rfl rfl ?_
      refine zq_X6_11 rfl rfl zw_92 dX6_clear_50 ?_
      refine zg_iconst (v := 2) dX6_clear_53 (by decide) ?_
      refine zg_callVI (As := [.ref (zb_ad G 24), .int 2]) (rest := []) 2 (zcX6_those N 24 rfl S6 2) (by decide) (by decide) rfl (by decide) rfl zw_391 zw_392 zw_393 zw_5 zw_394 (by decide +kernel) rfl rfl (Nat.le_of_ble_eq_true rfl) dX6_clear_54 (fun r8 S7 => ?_)
      refine zg_callSI (As := [.int r8]) (rest := []) 1 (zcX6_ones N S7 r8) (by decide) (by decide) zw_395 zw_396 zw_5 zw_397 (by decide +kernel) rfl rfl (Nat.le_of_ble_eq_true rfl) dX6_clear_57 (fun r10 S9 => ?_)
      exact zg_iret rfl dX6_clear_60
    · refine zg_bipush (v := (-3)) dX6_clear_29 (by decide) ?_
      exact zg_iret rfl dX6_clear_31
  · refine zg_iconst (v := (-1)) dX6_clear_13 (by decide) ?_
    exact zg_iret rfl dX6_clear_14
def fX6_clear (N : Nat) (S : zb_S) (a1 : Int32) : Option (Int32 × zb_S) := fX6_clear_0 N S a1
theorem zcX6_clear {l : Launch} {G : zb_G} (N : Nat) (S : zb_S) (a1 : Int32) : zb_C zb_eI l G 2 yX6_clear cX6_clear 2 (some .int) [.ref (zb_ad G 21), .int a1] S (fX6_clear N S a1) :=
  zb_C.of (by decide +kernel) rfl (Nat.le_of_ble_eq_true rfl) rfl (gX6_clear_0 N S a1)
-- X6_step
def fX6_step_0 (N : Nat) (S : zb_S) (a1 : Int32) : Option (Int32 × zb_S) :=
  zb_let (zb_pi S 21 0 0) (fun S1 : zb_S =>
  zb_bind (fX6_in N S1 (Int32.toInt64 a1) 1 99) (fun r3 S2 =>
  if r3 = 0 then
    some ((-2), S2)
  else
    zb_bind (fX6_note N S2) (fun _ S4 =>
    if zb_in 77 (zb_sz 24) then
    zb_let (zb_a S4 24 (Int32.toNatClampNeg 77)) (fun x6 : Int32 =>
    zb_bind (fX6_stepsOn N 24 S4 a1) (fun _ S7 =>
    if zb_in 77 (zb_sz 24) then
    some ((zb_a S7 24 (Int32.toNatClampNeg 77)) - x6, S7) else none)) else none)))
set_option maxHeartbeats 4000000 in
set_option maxRecDepth 100000 in
theorem gX6_step_0 {l : Launch} {G : zb_G} (N : Nat) (S : zb_S) (a1 : Int32) : zb_Go zb_eI l G 6 RX6 cX6_step 3 (some .int) 0 [(0, .ref (zb_ad G 21)), (1, .int a1)] [] S (fX6_step_0 N S a1) := by
  unfold fX6_step_0
  refine zg_aload_n 0 dX6_step_0 rfl rfl ?_
  refine zg_iconst (v := 0) dX6_step_1 (by decide) ?_
  refine zp_X6_0 rfl zw_114 dX6_step_2 (fun S1 => ?_)
  refine zg_iload_n 1 dX6_step_5 rfl rfl ?_
  refine zg_i2l dX6_step_6 ?_
  refine zg_lconst (v := 1) dX6_step_7 (by decide) ?_
  refine zg_ldc2 zw_463 dX6_step_8 ?_
  refine zg_callSI (As := [.long (Int32.toInt64 a1), .long 1, .long 99]) (rest := []) 3 (zcX6_in N S1 (Int32.toInt64 a1) 1 99) (by decide) (by decide) zw_117 zw_118 zw_5 zw_119 (by decide +kernel) rfl rfl (Nat.le_of_ble_eq_true rfl) dX6_step_11 (fun r3 S2 => ?_)
  refine zg_if_ne 20 dX6_step_14 (by decide) ?_ ?_
  · refine zg_aload_n 0 dX6_step_20 rfl rfl ?_
    refine zg_callVV (As := []) (rest := []) 0 (zcX6_note N S2) (by decide) (by decide) rfl (by decide) rfl zw_311 zw_312 zw_313 zw_5 zw_314 (by decide +kernel) rfl rfl (Nat.le_of_ble_eq_true rfl) dX6_step_21 (fun S4 => ?_)
    refine zg_aload_n 0 dX6_step_24 rfl rfl ?_
    refine zq_X6_11 rfl rfl zw_92 dX6_step_25 ?_
    refine zg_bipush (v := 77) dX6_step_28 (by decide) ?_
    refine zg_iald rfl dX6_step_30 ?_
    refine zg_istore_nL (fun x6 => [(2, .int x6), (0, .ref (zb_ad G 21)), (1, .int a1)]) dX6_step_31 rfl (by decide) (fun _ => rfl) (fun x6 => ?_)
    refine zg_aload_n 1 dX6_step_32 rfl rfl ?_
    refine zg_aload_n 1 dX6_step_33 rfl rfl ?_
    refine zq_X6_11 rfl rfl zw_92 dX6_step_34 ?_
    refine zg_iload_n 2 dX6_step_37 rfl rfl ?_
    refine zg_callVV (As := [.ref (zb_ad G 24), .int a1]) (rest := []) 2 (zcX6_stepsOn N 24 rfl S4 a1) (by decide) (by decide) rfl (by decide) rfl zw_464 zw_465 zw_466 zw_5 zw_467 (by decide +kernel) rfl rfl (Nat.le_of_ble_eq_true rfl) dX6_step_38 (fun S7 => ?_)
    refine zg_aload_n 1 dX6_step_41 rfl rfl ?_
    refine zq_X6_11 rfl rfl zw_92 dX6_step_42 ?_
    refine zg_bipush (v := 77) dX6_step_45 (by decide) ?_
    refine zg_iald rfl dX6_step_47 ?_
    refine zg_iload_n 0 dX6_step_48 rfl rfl ?_
    refine zg_isub dX6_step_49 ?_
    exact zg_iret rfl dX6_step_50
  · refine zg_bipush (v := (-2)) dX6_step_17 (by decide) ?_
    exact zg_iret rfl dX6_step_19
def fX6_step (N : Nat) (S : zb_S) (a1 : Int32) : Option (Int32 × zb_S) := fX6_step_0 N S a1
theorem zcX6_step {l : Launch} {G : zb_G} (N : Nat) (S : zb_S) (a1 : Int32) : zb_C zb_eI l G 6 yX6_step cX6_step 3 (some .int) [.ref (zb_ad G 21), .int a1] S (fX6_step N S a1) :=
  zb_C.of (by decide +kernel) rfl (Nat.le_of_ble_eq_true rfl) rfl (gX6_step_0 N S a1)
-- X6_undo
def fX6_undo_27b (N : Nat) (k27 : zb_S → Int32 → Option (Int32 × zb_S)) (S : zb_S) (l1 : Int32) : Option (Int32 × zb_S) :=
  if 79 ≤ l1 then
    some (zb_i S 21 14, S)
  else
    if zb_in ((79 * (zb_i S 21 14)) + l1) (zb_sz 26) then
    if zb_in l1 (zb_sz 24) then zb_let (zb_pa S 24 (Int32.toNatClampNeg l1) (zb_a S 26 (Int32.toNatClampNeg ((79 * (zb_i S 21 14)) + l1)))) (fun S1 : zb_S =>
    zb_let (l1 + 1) (fun x2 : Int32 =>
    k27 S1 x2)) else none else none
set_option maxHeartbeats 4000000 in
set_option maxRecDepth 100000 in
theorem gX6_undo_27b {l : Launch} {G : zb_G} (N : Nat) (k27 : zb_S → Int32 → Option (Int32 × zb_S)) (hk27 : ∀ (S : zb_S) (l1 : Int32), zb_Go zb_eI l G 0 RX6 cX6_undo 2 (some .int) 27 [(0, .ref (zb_ad G 21)), (1, .int l1)] [] S (k27 S l1)) (S : zb_S) (l1 : Int32) : zb_Go zb_eI l G 0 RX6 cX6_undo 2 (some .int) 27 [(0, .ref (zb_ad G 21)), (1, .int l1)] [] S (fX6_undo_27b N k27 S l1) := by
  unfold fX6_undo_27b
  refine zg_iload_n 1 dX6_undo_27 rfl rfl ?_
  refine zg_bipush (v := 79) dX6_undo_28 (by decide) ?_
  refine zg_icmp_ge 59 dX6_undo_30 (by decide) ?_ ?_
  · refine zg_aload_n 0 dX6_undo_59 rfl rfl ?_
    refine zq_X6_14 rfl zw_219 dX6_undo_60 ?_
    exact zg_iret rfl dX6_undo_63
  · refine zg_aload_n 0 dX6_undo_33 rfl rfl ?_
    refine zq_X6_11 rfl rfl zw_92 dX6_undo_34 ?_
    refine zg_iload_n 1 dX6_undo_37 rfl rfl ?_
    refine zg_aload_n 0 dX6_undo_38 rfl rfl ?_
    refine zq_X6_13 rfl rfl zw_94 dX6_undo_39 ?_
    refine zg_bipush (v := 79) dX6_undo_42 (by decide) ?_
    refine zg_aload_n 0 dX6_undo_44 rfl rfl ?_
    refine zq_X6_14 rfl zw_219 dX6_undo_45 ?_
    refine zg_imul dX6_undo_48 ?_
    refine zg_iload_n 1 dX6_undo_49 rfl rfl ?_
    refine zg_iadd dX6_undo_50 ?_
    refine zg_iald rfl dX6_undo_51 ?_
    refine zg_iast rfl dX6_undo_52 (fun S1 => ?_)
    refine zg_iincL (fun x2 => [(1, .int x2), (0, .ref (zb_ad G 21))]) 1 dX6_undo_53 rfl rfl (by decide) (fun _ => rfl) (fun x2 => ?_)
    refine zg_goto (tgt := 27) dX6_undo_56 (by decide) ?_
    refine zg_sub [1, 0] rfl ?_
    exact hk27 S1 x2
def fX6_undo_27 (N : Nat) : Nat → zb_S → Int32 → Option (Int32 × zb_S)
  | 0, _, _ => none
  | n + 1, S, l1 => fX6_undo_27b N (fX6_undo_27 N n) S l1
set_option maxHeartbeats 4000000 in
set_option maxRecDepth 100000 in
theorem gX6_undo_27 {l : Launch} {G : zb_G} (N : Nat) : ∀ (n : Nat) (S : zb_S) (l1 : Int32), zb_Go zb_eI l G 0 RX6 cX6_undo 2 (some .int) 27 [(0, .ref (zb_ad G 21)), (1, .int l1)] [] S (fX6_undo_27 N n S l1) := by
  intro n
  induction n with
  | zero => intros; exact zg_none
  | succ n ih =>
    intro S l1
    exact gX6_undo_27b N (fX6_undo_27 N n) ih S l1
def fX6_undo_0 (N : Nat) (S : zb_S) : Option (Int32 × zb_S) :=
  zb_let (zb_pi S 21 0 0) (fun S1 : zb_S =>
  if (zb_i S1 21 14) = 0 then
    some ((-3), S1)
  else
    zb_let (zb_pi S1 21 14 ((zb_i S1 21 14) - 1)) (fun S2 : zb_S =>
    fX6_undo_27 N N S2 0))
set_option maxHeartbeats 4000000 in
set_option maxRecDepth 100000 in
theorem gX6_undo_0 {l : Launch} {G : zb_G} (N : Nat) (S : zb_S) : zb_Go zb_eI l G 0 RX6 cX6_undo 2 (some .int) 0 [(0, .ref (zb_ad G 21))] [] S (fX6_undo_0 N S) := by
  unfold fX6_undo_0
  refine zg_aload_n 0 dX6_undo_0 rfl rfl ?_
  refine zg_iconst (v := 0) dX6_undo_1 (by decide) ?_
  refine zp_X6_0 rfl zw_114 dX6_undo_2 (fun S1 => ?_)
  refine zg_aload_n 0 dX6_undo_5 rfl rfl ?_
  refine zq_X6_14 rfl zw_219 dX6_undo_6 ?_
  refine zg_if_ne 15 dX6_undo_9 (by decide) ?_ ?_
  · refine zg_aload_n 0 dX6_undo_15 rfl rfl ?_
    refine zg_dup dX6_undo_16 rfl ?_
    refine zq_X6_14 rfl zw_219 dX6_undo_17 ?_
    refine zg_iconst (v := 1) dX6_undo_20 (by decide) ?_
    refine zg_isub dX6_undo_21 ?_
    refine zp_X6_14 rfl zw_219 dX6_undo_22 (fun S2 => ?_)
    refine zg_iconst (v := 0) dX6_undo_25 (by decide) ?_
    refine zg_istore_n (lv' := [(1, .int 0), (0, .ref (zb_ad G 21))]) dX6_undo_26 rfl (by decide) rfl ?_
    refine zg_sub [1, 0] rfl ?_
    exact gX6_undo_27 N N S2 0
  · refine zg_bipush (v := (-3)) dX6_undo_12 (by decide) ?_
    exact zg_iret rfl dX6_undo_14
def fX6_undo (N : Nat) (S : zb_S) : Option (Int32 × zb_S) := fX6_undo_0 N S
theorem zcX6_undo {l : Launch} {G : zb_G} (N : Nat) (S : zb_S) : zb_C zb_eI l G 0 yX6_undo cX6_undo 2 (some .int) [.ref (zb_ad G 21)] S (fX6_undo N S) :=
  zb_C.of (by decide +kernel) rfl (Nat.le_of_ble_eq_true rfl) rfl (gX6_undo_0 N S)
-- X6_ahead
def fX6_ahead_0 (N : Nat) (S : zb_S) (a1 : Int32) (a2 : Int32) (a3 : Int32) : Option (Int32 × zb_S) :=
  zb_let (zb_pi S 21 0 0) (fun S1 : zb_S =>
  zb_bind (fX6_noZone N S1 a2) (fun r3 S2 =>
  if r3 = 0 then
    zb_bind (fX6_in N S2 (Int32.toInt64 a1) 0 99) (fun r5 S4 =>
    if r5 = 0 then
      some ((-2), S4)
    else
      zb_bind (fX6_in N S4 (Int32.toInt64 a3) 0 6) (fun r7 S6 =>
      if r7 = 0 then
        some ((-2), S6)
      else
        zb_bind (fX6_layTrial N S6) (fun _ S8 =>
        zb_bind (fX6_stepsOn N 25 S8 a1) (fun _ S10 =>
        zb_bind (fX6_tellOf N 25 S10 a2 a3) (fun r13 S12 =>
        some (r13, S12))))))
  else
    some ((-1), S2)))
set_option maxHeartbeats 4000000 in
set_option maxRecDepth 100000 in
theorem gX6_ahead_0 {l : Launch} {G : zb_G} (N : Nat) (S : zb_S) (a1 : Int32) (a2 : Int32) (a3 : Int32) : zb_Go zb_eI l G 6 RX6 cX6_ahead 4 (some .int) 0 [(0, .ref (zb_ad G 21)), (1, .int a1), (2, .int a2), (3, .int a3)] [] S (fX6_ahead_0 N S a1 a2 a3) := by
  unfold fX6_ahead_0
  refine zg_aload_n 0 dX6_ahead_0 rfl rfl ?_
  refine zg_iconst (v := 0) dX6_ahead_1 (by decide) ?_
  refine zp_X6_0 rfl zw_114 dX6_ahead_2 (fun S1 => ?_)
  refine zg_aload_n 0 dX6_ahead_5 rfl rfl ?_
  refine zg_iload_n 2 dX6_ahead_6 rfl rfl ?_
  refine zg_callVI (As := [.int a2]) (rest := []) 1 (zcX6_noZone N S1 a2) (by decide) (by decide) rfl (by decide) rfl zw_253 zw_254 zw_255 zw_5 zw_256 (by decide +kernel) rfl rfl (Nat.le_of_ble_eq_true rfl) dX6_ahead_7 (fun r3 S2 => ?_)
  refine zg_if_eq 15 dX6_ahead_10 (by decide) ?_ ?_
  · refine zg_iload_n 1 dX6_ahead_15 rfl rfl ?_
    refine zg_i2l dX6_ahead_16 ?_
    refine zg_lconst (v := 0) dX6_ahead_17 (by decide) ?_
    refine zg_ldc2 zw_463 dX6_ahead_18 ?_
    refine zg_callSI (As := [.long (Int32.toInt64 a1), .long 0, .long 99]) (rest := []) 3 (zcX6_in N S2 (Int32.toInt64 a1) 0 99) (by decide) (by decide) zw_117 zw_118 zw_5 zw_119 (by decide +kernel) rfl rfl (Nat.le_of_ble_eq_true rfl) dX6_ahead_21 (fun r5 S4 => ?_)
    refine zg_if_eq 39 dX6_ahead_24 (by decide) ?_ ?_
    · refine zg_bipush (v := (-2)) dX6_ahead_39 (by decide) ?_
      exact zg_iret rfl dX6_ahead_41
    · refine zg_iload_n 3 dX6_ahead_27 rfl rfl ?_
      refine zg_i2l dX6_ahead_28 ?_
      refine zg_lconst (v := 0) dX6_ahead_29 (by decide) ?_
      refine zg_ldc2 zw_252 dX6_ahead_30 ?_
      refine zg_callSI (As := [.long (Int32.toInt64 a3), .long 0, .long 6]) (rest := []) 3 (zcX6_in N S4 (Int32.toInt64 a3) 0 6) (by decide) (by decide) zw_117 zw_118 zw_5 zw_119 (by decide +kernel) rfl rfl (Nat.le_of_ble_eq_true rfl) dX6_ahead_33 (fun r7 S6 => ?_)
      refine zg_if_ne 42 dX6_ahead_36 (by decide) ?_ ?_
      · refine zg_aload_n 0 dX6_ahead_42 rfl rfl ?_
        refine zg_callVV (As := []) (rest := []) 0 (zcX6_layTrial N S6) (by decide) (by decide) rfl (by decide) rfl zw_542 zw_543 zw_544 zw_5 zw_545 (by decide +kernel) rfl rfl (Nat.le_of_ble_eq_true rfl) dX6_ahead_43 (fun S8 => ?_)
        refine zg_aload_n 0 dX6_ahead_46 rfl rfl ?_
        refine zg_aload_n 0 dX6_ahead_47 rfl rfl ?_
        refine zq_X6_12 rfl rfl zw_93 dX6_ahead_48 ?_
        refine zg_iload_n 1 dX6_ahead_51 rfl rfl ?_
        refine zg_callVV (As := [.ref (zb_ad G 25), .int a1]) (rest := []) 2 (zcX6_stepsOn N 25 rfl S8 a1) (by decide) (by decide) rfl (by decide) rfl zw_464 zw_465 zw_466 zw_5 zw_467 (by decide +kernel) rfl rfl (Nat.le_of_ble_eq_true rfl) dX6_ahead_52 (fun S10 => ?_)
        refine zg_aload_n 0 dX6_ahead_55 rfl rfl ?_
        refine zg_aload_n 0 dX6_ahead_56 rfl rfl ?_
        refine zq_X6_12 rfl rfl zw_93 dX6_ahead_57 ?_
        refine zg_iload_n 2 dX6_ahead_60 rfl rfl ?_
        refine zg_iload_n 3 dX6_ahead_61 rfl rfl ?_
        refine zg_callVI (As := [.ref (zb_ad G 25), .int a2, .int a3]) (rest := []) 3 (zcX6_tellOf N 25 rfl S10 a2 a3) (by decide) (by decide) rfl (by decide) rfl zw_257 zw_258 zw_259 zw_5 zw_260 (by decide +kernel) rfl rfl (Nat.le_of_ble_eq_true rfl) dX6_ahead_62 (fun r13 S12 => ?_)
        exact zg_iret rfl dX6_ahead_65
      · refine zg_bipush (v := (-2)) dX6_ahead_39 (by decide) ?_
        exact zg_iret rfl dX6_ahead_41
  · refine zg_iconst (v := (-1)) dX6_ahead_13 (by decide) ?_
    exact zg_iret rfl dX6_ahead_14
def fX6_ahead (N : Nat) (S : zb_S) (a1 : Int32) (a2 : Int32) (a3 : Int32) : Option (Int32 × zb_S) := fX6_ahead_0 N S a1 a2 a3
theorem zcX6_ahead {l : Launch} {G : zb_G} (N : Nat) (S : zb_S) (a1 : Int32) (a2 : Int32) (a3 : Int32) : zb_C zb_eI l G 6 yX6_ahead cX6_ahead 4 (some .int) [.ref (zb_ad G 21), .int a1, .int a2, .int a3] S (fX6_ahead N S a1 a2 a3) :=
  zb_C.of (by decide +kernel) rfl (Nat.le_of_ble_eq_true rfl) rfl (gX6_ahead_0 N S a1 a2 a3)
-- X6_emptyOf
def fX6_emptyOf_2b (N : Nat) (k2 : zb_S → Int32 → Option (Int32 × zb_S)) (S : zb_S) (l1 : Int32) : Option (Int32 × zb_S) :=
  if 60 < l1 then
    some ((-9), S)
  else
    zb_bind (fX6_those N 25 S 0) (fun r2 S1 =>
    if r2 = 0 then
      some (l1, S1)
    else
      zb_bind (fX6_stepOn N 25 S1) (fun _ S3 =>
      zb_let (l1 + 1) (fun x5 : Int32 =>
      k2 S3 x5)))
set_option maxHeartbeats 4000000 in
set_option maxRecDepth 100000 in
theorem gX6_emptyOf_2b {l : Launch} {G : zb_G} (N : Nat) (k2 : zb_S → Int32 → Option (Int32 × zb_S)) (hk2 : ∀ (S : zb_S) (l1 : Int32), zb_Go zb_eI l G 5 RX6 cX6_emptyOf 2 (some .int) 2 [(0, .ref (zb_ad G 21)), (1, .int l1)] [] S (k2 S l1)) (S : zb_S) (l1 : Int32) : zb_Go zb_eI l G 5 RX6 cX6_emptyOf 2 (some .int) 2 [(0, .ref (zb_ad G 21)), (1, .int l1)] [] S (fX6_emptyOf_2b N k2 S l1) := by
  unfold fX6_emptyOf_2b
  refine zg_iload_n 1 dX6_emptyOf_2 rfl rfl ?_
  refine zg_bipush (v := 60) dX6_emptyOf_3 (by decide) ?_
  refine zg_icmp_gt 36 dX6_emptyOf_5 (by decide) ?_ ?_
  · refine zg_bipush (v := (-9)) dX6_emptyOf_36 (by decide) ?_
    exact zg_iret rfl dX6_emptyOf_38
  · refine zg_aload_n 0 dX6_emptyOf_8 rfl rfl ?_
    refine zg_aload_n 0 dX6_emptyOf_9 rfl rfl ?_
    refine zq_X6_12 rfl rfl zw_93 dX6_emptyOf_10 ?_
    refine zg_iconst (v := 0) dX6_emptyOf_13 (by decide) ?_
    refine zg_callVI (As := [.ref (zb_ad G 25), .int 0]) (rest := []) 2 (zcX6_those N 25 rfl S 0) (by decide) (by decide) rfl (by decide) rfl zw_391 zw_392 zw_393 zw_5 zw_394 (by decide +kernel) rfl rfl (Nat.le_of_ble_eq_true rfl) dX6_emptyOf_14 (fun r2 S1 => ?_)
    refine zg_if_ne 22 dX6_emptyOf_17 (by decide) ?_ ?_
    · refine zg_aload_n 0 dX6_emptyOf_22 rfl rfl ?_
      refine zg_aload_n 0 dX6_emptyOf_23 rfl rfl ?_
      refine zq_X6_12 rfl rfl zw_93 dX6_emptyOf_24 ?_
      refine zg_callVV (As := [.ref (zb_ad G 25)]) (rest := []) 1 (zcX6_stepOn N 25 rfl S1) (by decide) (by decide) rfl (by decide) rfl zw_468 zw_469 zw_470 zw_5 zw_471 (by decide +kernel) rfl rfl (Nat.le_of_ble_eq_true rfl) dX6_emptyOf_27 (fun S3 => ?_)
      refine zg_iincL (fun x5 => [(1, .int x5), (0, .ref (zb_ad G 21))]) 1 dX6_emptyOf_30 rfl rfl (by decide) (fun _ => rfl) (fun x5 => ?_)
      refine zg_goto (tgt := 2) dX6_emptyOf_33 (by decide) ?_
      refine zg_sub [1, 0] rfl ?_
      exact hk2 S3 x5
    · refine zg_iload_n 1 dX6_emptyOf_20 rfl rfl ?_
      exact zg_iret rfl dX6_emptyOf_21
def fX6_emptyOf_2 (N : Nat) : Nat → zb_S → Int32 → Option (Int32 × zb_S)
  | 0, _, _ => none
  | n + 1, S, l1 => fX6_emptyOf_2b N (fX6_emptyOf_2 N n) S l1
set_option maxHeartbeats 4000000 in
set_option maxRecDepth 100000 in
theorem gX6_emptyOf_2 {l : Launch} {G : zb_G} (N : Nat) : ∀ (n : Nat) (S : zb_S) (l1 : Int32), zb_Go zb_eI l G 5 RX6 cX6_emptyOf 2 (some .int) 2 [(0, .ref (zb_ad G 21)), (1, .int l1)] [] S (fX6_emptyOf_2 N n S l1) := by
  intro n
  induction n with
  | zero => intros; exact zg_none
  | succ n ih =>
    intro S l1
    exact gX6_emptyOf_2b N (fX6_emptyOf_2 N n) ih S l1
def fX6_emptyOf_0 (N : Nat) (S : zb_S) : Option (Int32 × zb_S) :=
  fX6_emptyOf_2 N N S 0
set_option maxHeartbeats 4000000 in
set_option maxRecDepth 100000 in
theorem gX6_emptyOf_0 {l : Launch} {G : zb_G} (N : Nat) (S : zb_S) : zb_Go zb_eI l G 5 RX6 cX6_emptyOf 2 (some .int) 0 [(0, .ref (zb_ad G 21))] [] S (fX6_emptyOf_0 N S) := by
  unfold fX6_emptyOf_0
  refine zg_iconst (v := 0) dX6_emptyOf_0 (by decide) ?_
  refine zg_istore_n (lv' := [(1, .int 0), (0, .ref (zb_ad G 21))]) dX6_emptyOf_1 rfl (by decide) rfl ?_
  refine zg_sub [1, 0] rfl ?_
  exact gX6_emptyOf_2 N N S 0
def fX6_emptyOf (N : Nat) (S : zb_S) : Option (Int32 × zb_S) := fX6_emptyOf_0 N S
theorem zcX6_emptyOf {l : Launch} {G : zb_G} (N : Nat) (S : zb_S) : zb_C zb_eI l G 5 yX6_emptyOf cX6_emptyOf 2 (some .int) [.ref (zb_ad G 21)] S (fX6_emptyOf N S) :=
  zb_C.of (by decide +kernel) rfl (Nat.le_of_ble_eq_true rfl) rfl (gX6_emptyOf_0 N S)
-- X6_bestRest
def fX6_bestRest_49 (N : Nat) (k7 : zb_S → Int32 → Int32 → Int32 → Option (Int32 × zb_S)) (S : zb_S) (l1 : Int32) (l2 : Int32) (l3 : Int32) : Option (Int32 × zb_S) :=
  zb_let (l3 + 1) (fun x1 : Int32 =>
  k7 S l1 l2 x1)
set_option maxHeartbeats 4000000 in
set_option maxRecDepth 100000 in
theorem gX6_bestRest_49 {l : Launch} {G : zb_G} (N : Nat) (k7 : zb_S → Int32 → Int32 → Int32 → Option (Int32 × zb_S)) (hk7 : ∀ (S : zb_S) (l1 : Int32) (l2 : Int32) (l3 : Int32), zb_Go zb_eI l G 6 RX6 cX6_bestRest 5 (some .int) 7 [(0, .ref (zb_ad G 21)), (1, .int l1), (2, .int l2), (3, .int l3)] [] S (k7 S l1 l2 l3)) (S : zb_S) (l1 : Int32) (l2 : Int32) (l3 : Int32) : zb_Go zb_eI l G 6 RX6 cX6_bestRest 5 (some .int) 49 [(0, .ref (zb_ad G 21)), (1, .int l1), (2, .int l2), (3, .int l3)] [] S (fX6_bestRest_49 N k7 S l1 l2 l3) := by
  unfold fX6_bestRest_49
  refine zg_iincL (fun x1 => [(3, .int x1), (0, .ref (zb_ad G 21)), (1, .int l1), (2, .int l2)]) 3 dX6_bestRest_49 rfl rfl (by decide) (fun _ => rfl) (fun x1 => ?_)
  refine zg_goto (tgt := 7) dX6_bestRest_52 (by decide) ?_
  refine zg_sub [1, 2, 3, 0] rfl ?_
  exact hk7 S l1 l2 x1
def fX6_bestRest_7b (N : Nat) (k7 : zb_S → Int32 → Int32 → Int32 → Option (Int32 × zb_S)) (S : zb_S) (l1 : Int32) (l2 : Int32) (l3 : Int32) : Option (Int32 × zb_S) :=
  if 10 ≤ l3 then
    some (l1, S)
  else
    zb_bind (fX6_layTrial N S) (fun _ S1 =>
    if zb_in 74 (zb_sz 25) then zb_let (zb_pa S1 25 (Int32.toNatClampNeg 74) l3) (fun S3 : zb_S =>
    zb_bind (fX6_emptyOf N S3) (fun r5 S4 =>
    if r5 = (-9) then
      fX6_bestRest_49 N k7 S4 l1 l2 l3
    else
      if l2 ≤ r5 then
        fX6_bestRest_49 N k7 S4 l1 l2 l3
      else
        fX6_bestRest_49 N k7 S4 l3 r5 l3)) else none)
set_option maxHeartbeats 4000000 in
set_option maxRecDepth 100000 in
theorem gX6_bestRest_7b {l : Launch} {G : zb_G} (N : Nat) (k7 : zb_S → Int32 → Int32 → Int32 → Option (Int32 × zb_S)) (hk7 : ∀ (S : zb_S) (l1 : Int32) (l2 : Int32) (l3 : Int32), zb_Go zb_eI l G 6 RX6 cX6_bestRest 5 (some .int) 7 [(0, .ref (zb_ad G 21)), (1, .int l1), (2, .int l2), (3, .int l3)] [] S (k7 S l1 l2 l3)) (S : zb_S) (l1 : Int32) (l2 : Int32) (l3 : Int32) : zb_Go zb_eI l G 6 RX6 cX6_bestRest 5 (some .int) 7 [(0, .ref (zb_ad G 21)), (1, .int l1), (2, .int l2), (3, .int l3)] [] S (fX6_bestRest_7b N k7 S l1 l2 l3) := by
  unfold fX6_bestRest_7b
  refine zg_iload_n 3 dX6_bestRest_7 rfl rfl ?_
  refine zg_bipush (v := 10) dX6_bestRest_8 (by decide) ?_
  refine zg_icmp_ge 55 dX6_bestRest_10 (by decide) ?_ ?_
  · refine zg_iload_n 1 dX6_bestRest_55 rfl rfl ?_
    exact zg_iret rfl dX6_bestRest_56
  · refine zg_aload_n 0 dX6_bestRest_13 rfl rfl ?_
    refine zg_callVV (As := []) (rest := []) 0 (zcX6_layTrial N S) (by decide) (by decide) rfl (by decide) rfl zw_542 zw_543 zw_544 zw_5 zw_545 (by decide +kernel) rfl rfl (Nat.le_of_ble_eq_true rfl) dX6_bestRest_14 (fun S1 => ?_)
    refine zg_aload_n 0 dX6_bestRest_17 rfl rfl ?_
    refine zq_X6_12 rfl rfl zw_93 dX6_bestRest_18 ?_
    refine zg_bipush (v := 74) dX6_bestRest_21 (by decide) ?_
    refine zg_iload_n 3 dX6_bestRest_23 rfl rfl ?_
    refine zg_iast rfl dX6_bestRest_24 (fun S3 => ?_)
    refine zg_aload_n 0 dX6_bestRest_25 rfl rfl ?_
    refine zg_callVI (As := []) (rest := []) 0 (zcX6_emptyOf N S3) (by decide) (by decide) rfl (by decide) rfl zw_567 zw_568 zw_569 zw_5 zw_570 (by decide +kernel) rfl rfl (Nat.le_of_ble_eq_true rfl) dX6_bestRest_26 (fun r5 S4 => ?_)
    refine zg_istore (lv' := [(4, .int r5), (0, .ref (zb_ad G 21)), (1, .int l1), (2, .int l2), (3, .int l3)]) dX6_bestRest_29 (by decide) rfl ?_
    refine zg_iload 0 dX6_bestRest_31 rfl ?_
    refine zg_bipush (v := (-9)) dX6_bestRest_33 (by decide) ?_
    refine zg_icmp_eq 49 dX6_bestRest_35 (by decide) ?_ ?_
    · refine zg_sub [1, 2, 3, 4] rfl ?_
      exact gX6_bestRest_49 N k7 hk7 S4 l1 l2 l3
    · refine zg_iload 0 dX6_bestRest_38 rfl ?_
      refine zg_iload_n 3 dX6_bestRest_40 rfl rfl ?_
      refine zg_icmp_ge 49 dX6_bestRest_41 (by decide) ?_ ?_
      · refine zg_sub [1, 2, 3, 4] rfl ?_
        exact gX6_bestRest_49 N k7 hk7 S4 l1 l2 l3
      · refine zg_iload 0 dX6_bestRest_44 rfl ?_
        refine zg_istore_n (lv' := [(2, .int r5), (4, .int r5), (0, .ref (zb_ad G 21)), (1, .int l1), (3, .int l3)]) dX6_bestRest_46 rfl (by decide) rfl ?_
        refine zg_iload_n 4 dX6_bestRest_47 rfl rfl ?_
        refine zg_istore_n (lv' := [(1, .int l3), (2, .int r5), (4, .int r5), (0, .ref (zb_ad G 21)), (3, .int l3)]) dX6_bestRest_48 rfl (by decide) rfl ?_
        refine zg_sub [3, 0, 1, 4] rfl ?_
        exact gX6_bestRest_49 N k7 hk7 S4 l3 r5 l3
def fX6_bestRest_7 (N : Nat) : Nat → zb_S → Int32 → Int32 → Int32 → Option (Int32 × zb_S)
  | 0, _, _, _, _ => none
  | n + 1, S, l1, l2, l3 => fX6_bestRest_7b N (fX6_bestRest_7 N n) S l1 l2 l3
set_option maxHeartbeats 4000000 in
set_option maxRecDepth 100000 in
theorem gX6_bestRest_7 {l : Launch} {G : zb_G} (N : Nat) : ∀ (n : Nat) (S : zb_S) (l1 : Int32) (l2 : Int32) (l3 : Int32), zb_Go zb_eI l G 6 RX6 cX6_bestRest 5 (some .int) 7 [(0, .ref (zb_ad G 21)), (1, .int l1), (2, .int l2), (3, .int l3)] [] S (fX6_bestRest_7 N n S l1 l2 l3) := by
  intro n
  induction n with
  | zero => intros; exact zg_none
  | succ n ih =>
    intro S l1 l2 l3
    exact gX6_bestRest_7b N (fX6_bestRest_7 N n) ih S l1 l2 l3
def fX6_bestRest_0 (N : Nat) (S : zb_S) : Option (Int32 × zb_S) :=
  fX6_bestRest_7 N N S 0 61 0
set_option maxHeartbeats 4000000 in
set_option maxRecDepth 100000 in
theorem gX6_bestRest_0 {l : Launch} {G : zb_G} (N : Nat) (S : zb_S) : zb_Go zb_eI l G 6 RX6 cX6_bestRest 5 (some .int) 0 [(0, .ref (zb_ad G 21))] [] S (fX6_bestRest_0 N S) := by
  unfold fX6_bestRest_0
  refine zg_iconst (v := 0) dX6_bestRest_0 (by decide) ?_
  refine zg_istore_n (lv' := [(1, .int 0), (0, .ref (zb_ad G 21))]) dX6_bestRest_1 rfl (by decide) rfl ?_
  refine zg_bipush (v := 61) dX6_bestRest_2 (by decide) ?_
  refine zg_istore_n (lv' := [(2, .int 61), (1, .int 0), (0, .ref (zb_ad G 21))]) dX6_bestRest_4 rfl (by decide) rfl ?_
  refine zg_iconst (v := 0) dX6_bestRest_5 (by decide) ?_
  refine zg_istore_n (lv' := [(3, .int 0), (2, .int 61), (1, .int 0), (0, .ref (zb_ad G 21))]) dX6_bestRest_6 rfl (by decide) rfl ?_
  refine zg_sub [3, 2, 1, 0] rfl ?_
  exact gX6_bestRest_7 N N S 0 61 0
def fX6_bestRest (N : Nat) (S : zb_S) : Option (Int32 × zb_S) := fX6_bestRest_0 N S
theorem zcX6_bestRest {l : Launch} {G : zb_G} (N : Nat) (S : zb_S) : zb_C zb_eI l G 6 yX6_bestRest cX6_bestRest 5 (some .int) [.ref (zb_ad G 21)] S (fX6_bestRest N S) :=
  zb_C.of (by decide +kernel) rfl (Nat.le_of_ble_eq_true rfl) rfl (gX6_bestRest_0 N S)
-- X6_rowAt
def fX6_rowAt_42 (N : Nat) (k8 : zb_S → Int32 → Int32 → Int32 → Option (Int32 × zb_S)) (S : zb_S) (l1 : Int32) (l2 : Int32) (l3 : Int32) : Option (Int32 × zb_S) :=
  zb_let (l3 + 1) (fun x1 : Int32 =>
  k8 S l1 l2 x1)
set_option maxHeartbeats 4000000 in
set_option maxRecDepth 100000 in
theorem gX6_rowAt_42 {l : Launch} {G : zb_G} (N : Nat) (k8 : zb_S → Int32 → Int32 → Int32 → Option (Int32 × zb_S)) (hk8 : ∀ (S : zb_S) (l1 : Int32) (l2 : Int32) (l3 : Int32), zb_Go zb_eI l G 5 RX6 cX6_rowAt 4 (some .int) 8 [(0, .ref (zb_ad G 21)), (1, .int l1), (2, .int l2), (3, .int l3)] [] S (k8 S l1 l2 l3)) (S : zb_S) (l1 : Int32) (l2 : Int32) (l3 : Int32) : zb_Go zb_eI l G 5 RX6 cX6_rowAt 4 (some .int) 42 [(0, .ref (zb_ad G 21)), (1, .int l1), (2, .int l2), (3, .int l3)] [] S (fX6_rowAt_42 N k8 S l1 l2 l3) := by
  unfold fX6_rowAt_42
  refine zg_iincL (fun x1 => [(3, .int x1), (0, .ref (zb_ad G 21)), (1, .int l1), (2, .int l2)]) 3 dX6_rowAt_42 rfl rfl (by decide) (fun _ => rfl) (fun x1 => ?_)
  refine zg_goto (tgt := 8) dX6_rowAt_45 (by decide) ?_
  refine zg_sub [1, 2, 3, 0] rfl ?_
  exact hk8 S l1 l2 x1
def fX6_rowAt_8b (N : Nat) (k8 : zb_S → Int32 → Int32 → Int32 → Option (Int32 × zb_S)) (S : zb_S) (l1 : Int32) (l2 : Int32) (l3 : Int32) : Option (Int32 × zb_S) :=
  if 60 ≤ l3 then
    some (l2, S)
  else
    zb_bind (fX6_stepOn N 25 S) (fun _ S1 =>
    if (zb_i S1 21 26) ≤ 0 then
      fX6_rowAt_42 N k8 S1 l1 l2 l3
    else
      if l2 = l1 then
        some (zb_i S1 21 26, S1)
      else
        zb_let (l2 + 1) (fun x3 : Int32 =>
        fX6_rowAt_42 N k8 S1 l1 x3 l3))
set_option maxHeartbeats 4000000 in
set_option maxRecDepth 100000 in
theorem gX6_rowAt_8b {l : Launch} {G : zb_G} (N : Nat) (k8 : zb_S → Int32 → Int32 → Int32 → Option (Int32 × zb_S)) (hk8 : ∀ (S : zb_S) (l1 : Int32) (l2 : Int32) (l3 : Int32), zb_Go zb_eI l G 5 RX6 cX6_rowAt 4 (some .int) 8 [(0, .ref (zb_ad G 21)), (1, .int l1), (2, .int l2), (3, .int l3)] [] S (k8 S l1 l2 l3)) (S : zb_S) (l1 : Int32) (l2 : Int32) (l3 : Int32) : zb_Go zb_eI l G 5 RX6 cX6_rowAt 4 (some .int) 8 [(0, .ref (zb_ad G 21)), (1, .int l1), (2, .int l2), (3, .int l3)] [] S (fX6_rowAt_8b N k8 S l1 l2 l3) := by
  unfold fX6_rowAt_8b
  refine zg_iload_n 3 dX6_rowAt_8 rfl rfl ?_
  refine zg_bipush (v := 60) dX6_rowAt_9 (by decide) ?_
  refine zg_icmp_ge 48 dX6_rowAt_11 (by decide) ?_ ?_
  · refine zg_iload_n 2 dX6_rowAt_48 rfl rfl ?_
    exact zg_iret rfl dX6_rowAt_49
  · refine zg_aload_n 0 dX6_rowAt_14 rfl rfl ?_
    refine zg_aload_n 0 dX6_rowAt_15 rfl rfl ?_
    refine zq_X6_12 rfl rfl zw_93 dX6_rowAt_16 ?_
    refine zg_callVV (As := [.ref (zb_ad G 25)]) (rest := []) 1 (zcX6_stepOn N 25 rfl S) (by decide) (by decide) rfl (by decide) rfl zw_468 zw_469 zw_470 zw_5 zw_471 (by decide +kernel) rfl rfl (Nat.le_of_ble_eq_true rfl) dX6_rowAt_19 (fun S1 => ?_)
    refine zg_aload_n 0 dX6_rowAt_22 rfl rfl ?_
    refine zq_X6_26 rfl zw_472 dX6_rowAt_23 ?_
    refine zg_if_le 42 dX6_rowAt_26 (by decide) ?_ ?_
    · exact gX6_rowAt_42 N k8 hk8 S1 l1 l2 l3
    · refine zg_iload_n 2 dX6_rowAt_29 rfl rfl ?_
      refine zg_iload_n 1 dX6_rowAt_30 rfl rfl ?_
      refine zg_icmp_ne 39 dX6_rowAt_31 (by decide) ?_ ?_
      · refine zg_iincL (fun x3 => [(2, .int x3), (0, .ref (zb_ad G 21)), (1, .int l1), (3, .int l3)]) 2 dX6_rowAt_39 rfl rfl (by decide) (fun _ => rfl) (fun x3 => ?_)
        refine zg_sub [1, 2, 0, 3] rfl ?_
        exact gX6_rowAt_42 N k8 hk8 S1 l1 x3 l3
      · refine zg_aload_n 0 dX6_rowAt_34 rfl rfl ?_
        refine zq_X6_26 rfl zw_472 dX6_rowAt_35 ?_
        exact zg_iret rfl dX6_rowAt_38
def fX6_rowAt_8 (N : Nat) : Nat → zb_S → Int32 → Int32 → Int32 → Option (Int32 × zb_S)
  | 0, _, _, _, _ => none
  | n + 1, S, l1, l2, l3 => fX6_rowAt_8b N (fX6_rowAt_8 N n) S l1 l2 l3
set_option maxHeartbeats 4000000 in
set_option maxRecDepth 100000 in
theorem gX6_rowAt_8 {l : Launch} {G : zb_G} (N : Nat) : ∀ (n : Nat) (S : zb_S) (l1 : Int32) (l2 : Int32) (l3 : Int32), zb_Go zb_eI l G 5 RX6 cX6_rowAt 4 (some .int) 8 [(0, .ref (zb_ad G 21)), (1, .int l1), (2, .int l2), (3, .int l3)] [] S (fX6_rowAt_8 N n S l1 l2 l3) := by
  intro n
  induction n with
  | zero => intros; exact zg_none
  | succ n ih =>
    intro S l1 l2 l3
    exact gX6_rowAt_8b N (fX6_rowAt_8 N n) ih S l1 l2 l3
def fX6_rowAt_0 (N : Nat) (S : zb_S) (a1 : Int32) : Option (Int32 × zb_S) :=
  zb_bind (fX6_layTrial N S) (fun _ S1 =>
  fX6_rowAt_8 N N S1 a1 0 0)
set_option maxHeartbeats 4000000 in
set_option maxRecDepth 100000 in
theorem gX6_rowAt_0 {l : Launch} {G : zb_G} (N : Nat) (S : zb_S) (a1 : Int32) : zb_Go zb_eI l G 5 RX6 cX6_rowAt 4 (some .int) 0 [(0, .ref (zb_ad G 21)), (1, .int a1)] [] S (fX6_rowAt_0 N S a1) := by
  unfold fX6_rowAt_0
  refine zg_aload_n 0 dX6_rowAt_0 rfl rfl ?_
  refine zg_callVV (As := []) (rest := []) 0 (zcX6_layTrial N S) (by decide) (by decide) rfl (by decide) rfl zw_542 zw_543 zw_544 zw_5 zw_545 (by decide +kernel) rfl rfl (Nat.le_of_ble_eq_true rfl) dX6_rowAt_1 (fun S1 => ?_)
  refine zg_iconst (v := 0) dX6_rowAt_4 (by decide) ?_
  refine zg_istore_n (lv' := [(2, .int 0), (0, .ref (zb_ad G 21)), (1, .int a1)]) dX6_rowAt_5 rfl (by decide) rfl ?_
  refine zg_iconst (v := 0) dX6_rowAt_6 (by decide) ?_
  refine zg_istore_n (lv' := [(3, .int 0), (2, .int 0), (0, .ref (zb_ad G 21)), (1, .int a1)]) dX6_rowAt_7 rfl (by decide) rfl ?_
  refine zg_sub [2, 3, 1, 0] rfl ?_
  exact gX6_rowAt_8 N N S1 a1 0 0
def fX6_rowAt (N : Nat) (S : zb_S) (a1 : Int32) : Option (Int32 × zb_S) := fX6_rowAt_0 N S a1
theorem zcX6_rowAt {l : Launch} {G : zb_G} (N : Nat) (S : zb_S) (a1 : Int32) : zb_C zb_eI l G 5 yX6_rowAt cX6_rowAt 4 (some .int) [.ref (zb_ad G 21), .int a1] S (fX6_rowAt N S a1) :=
  zb_C.of (by decide +kernel) rfl (Nat.le_of_ble_eq_true rfl) rfl (gX6_rowAt_0 N S a1)
-- X6_manyOut
def fX6_manyOut_0 (N : Nat) (S : zb_S) : Option (Int32 × zb_S) :=
  zb_bind (fX6_layTrial N S) (fun _ S1 =>
  zb_bind (fX6_stepsOn N 25 S1 60) (fun _ S3 =>
  if zb_in 77 (zb_sz 25) then
  if zb_in 77 (zb_sz 24) then
  some ((zb_a S3 25 (Int32.toNatClampNeg 77)) - (zb_a S3 24 (Int32.toNatClampNeg 77)), S3) else none else none))
set_option maxHeartbeats 4000000 in
set_option maxRecDepth 100000 in
theorem gX6_manyOut_0 {l : Launch} {G : zb_G} (N : Nat) (S : zb_S) : zb_Go zb_eI l G 6 RX6 cX6_manyOut 1 (some .int) 0 [(0, .ref (zb_ad G 21))] [] S (fX6_manyOut_0 N S) := by
  unfold fX6_manyOut_0
  refine zg_aload_n 0 dX6_manyOut_0 rfl rfl ?_
  refine zg_callVV (As := []) (rest := []) 0 (zcX6_layTrial N S) (by decide) (by decide) rfl (by decide) rfl zw_542 zw_543 zw_544 zw_5 zw_545 (by decide +kernel) rfl rfl (Nat.le_of_ble_eq_true rfl) dX6_manyOut_1 (fun S1 => ?_)
  refine zg_aload_n 0 dX6_manyOut_4 rfl rfl ?_
  refine zg_aload_n 0 dX6_manyOut_5 rfl rfl ?_
  refine zq_X6_12 rfl rfl zw_93 dX6_manyOut_6 ?_
  refine zg_bipush (v := 60) dX6_manyOut_9 (by decide) ?_
  refine zg_callVV (As := [.ref (zb_ad G 25), .int 60]) (rest := []) 2 (zcX6_stepsOn N 25 rfl S1 60) (by decide) (by decide) rfl (by decide) rfl zw_464 zw_465 zw_466 zw_5 zw_467 (by decide +kernel) rfl rfl (Nat.le_of_ble_eq_true rfl) dX6_manyOut_11 (fun S3 => ?_)
  refine zg_aload_n 0 dX6_manyOut_14 rfl rfl ?_
  refine zq_X6_12 rfl rfl zw_93 dX6_manyOut_15 ?_
  refine zg_bipush (v := 77) dX6_manyOut_18 (by decide) ?_
  refine zg_iald rfl dX6_manyOut_20 ?_
  refine zg_aload_n 0 dX6_manyOut_21 rfl rfl ?_
  refine zq_X6_11 rfl rfl zw_92 dX6_manyOut_22 ?_
  refine zg_bipush (v := 77) dX6_manyOut_25 (by decide) ?_
  refine zg_iald rfl dX6_manyOut_27 ?_
  refine zg_isub dX6_manyOut_28 ?_
  exact zg_iret rfl dX6_manyOut_29
def fX6_manyOut (N : Nat) (S : zb_S) : Option (Int32 × zb_S) := fX6_manyOut_0 N S
theorem zcX6_manyOut {l : Launch} {G : zb_G} (N : Nat) (S : zb_S) : zb_C zb_eI l G 6 yX6_manyOut cX6_manyOut 1 (some .int) [.ref (zb_ad G 21)] S (fX6_manyOut N S) :=
  zb_C.of (by decide +kernel) rfl (Nat.le_of_ble_eq_true rfl) rfl (gX6_manyOut_0 N S)
-- X6_ask
def fX6_ask_0 (N : Nat) (S : zb_S) (a1 : Int32) : Option (Int32 × zb_S) :=
  zb_let (zb_pi S 21 0 0) (fun S1 : zb_S =>
  if a1 = 0 then
    zb_bind (fX6_layTrial N S1) (fun _ S2 =>
    zb_bind (fX6_emptyOf N S2) (fun r5 S4 =>
    some (r5, S4)))
  else if a1 = 1 then
    zb_bind (fX6_bestRest N S1) (fun r8 S7 =>
    some (r8, S7))
  else if a1 = 2 then
    zb_bind (fX6_manyOut N S1) (fun r11 S10 =>
    some (r11, S10))
  else 
    some ((-2), S1))
set_option maxHeartbeats 4000000 in
set_option maxRecDepth 100000 in
theorem gX6_ask_0 {l : Launch} {G : zb_G} (N : Nat) (S : zb_S) (a1 : Int32) : zb_Go zb_eI l G 7 RX6 cX6_ask 2 (some .int) 0 [(0, .ref (zb_ad G 21)), (1, .int a1)] [] S (fX6_ask_0 N S a1) := by
  unfold fX6_ask_0
  refine zg_aload_n 0 dX6_ask_0 rfl rfl ?_
  refine zg_iconst (v := 0) dX6_ask_1 (by decide) ?_
  refine zp_X6_0 rfl zw_114 dX6_ask_2 (fun S1 => ?_)
  refine zg_iload_n 1 dX6_ask_5 rfl rfl ?_
  refine zg_if (fun q6 => ?_) (fun q6 => ?_)
  · refine zg_tableIn dX6_ask_6 (by rw [q6]; decide) (by rw [q6]; decide) (by rw [q6]; rfl) (by decide : (6 : Int) + 26 = (32 : Nat)) ?_
    refine zg_aload_n 0 dX6_ask_32 rfl rfl ?_
    refine zg_callVV (As := []) (rest := []) 0 (zcX6_layTrial N S1) (by decide) (by decide) rfl (by decide) rfl zw_542 zw_543 zw_544 zw_5 zw_545 (by decide +kernel) rfl rfl (Nat.le_of_ble_eq_true rfl) dX6_ask_33 (fun S2 => ?_)
    refine zg_aload_n 0 dX6_ask_36 rfl rfl ?_
    refine zg_callVI (As := []) (rest := []) 0 (zcX6_emptyOf N S2) (by decide) (by decide) rfl (by decide) rfl zw_567 zw_568 zw_569 zw_5 zw_570 (by decide +kernel) rfl rfl (Nat.le_of_ble_eq_true rfl) dX6_ask_37 (fun r5 S4 => ?_)
    exact zg_iret rfl dX6_ask_40
  · refine zg_if (fun q9 => ?_) (fun q9 => ?_)
    · refine zg_tableIn dX6_ask_6 (by rw [q9]; decide) (by rw [q9]; decide) (by rw [q9]; rfl) (by decide : (6 : Int) + 35 = (41 : Nat)) ?_
      refine zg_aload_n 0 dX6_ask_41 rfl rfl ?_
      refine zg_callVI (As := []) (rest := []) 0 (zcX6_bestRest N S1) (by decide) (by decide) rfl (by decide) rfl zw_571 zw_572 zw_573 zw_5 zw_574 (by decide +kernel) rfl rfl (Nat.le_of_ble_eq_true rfl) dX6_ask_42 (fun r8 S7 => ?_)
      exact zg_iret rfl dX6_ask_45
    · refine zg_if (fun q12 => ?_) (fun q12 => ?_)
      · refine zg_tableIn dX6_ask_6 (by rw [q12]; decide) (by rw [q12]; decide) (by rw [q12]; rfl) (by decide : (6 : Int) + 40 = (46 : Nat)) ?_
        refine zg_aload_n 0 dX6_ask_46 rfl rfl ?_
        refine zg_callVI (As := []) (rest := []) 0 (zcX6_manyOut N S1) (by decide) (by decide) rfl (by decide) rfl zw_575 zw_576 zw_577 zw_5 zw_578 (by decide +kernel) rfl rfl (Nat.le_of_ble_eq_true rfl) dX6_ask_47 (fun r11 S10 => ?_)
        exact zg_iret rfl dX6_ask_50
      · refine zg_tableOut dX6_ask_6 (by have q6 := lv_neT q6 (show (0 : Int32).toInt = 0 from by decide); have q9 := lv_neT q9 (show (1 : Int32).toInt = 1 from by decide); have q12 := lv_neT q12 (show (2 : Int32).toInt = 2 from by decide); omega) (by decide : (6 : Int) + 45 = (51 : Nat)) ?_
        refine zg_bipush (v := (-2)) dX6_ask_51 (by decide) ?_
        exact zg_iret rfl dX6_ask_53
def fX6_ask (N : Nat) (S : zb_S) (a1 : Int32) : Option (Int32 × zb_S) := fX6_ask_0 N S a1
theorem zcX6_ask {l : Launch} {G : zb_G} (N : Nat) (S : zb_S) (a1 : Int32) : zb_C zb_eI l G 7 yX6_ask cX6_ask 2 (some .int) [.ref (zb_ad G 21), .int a1] S (fX6_ask N S a1) :=
  zb_C.of (by decide +kernel) rfl (Nat.le_of_ble_eq_true rfl) rfl (gX6_ask_0 N S a1)
-- X6_row
def fX6_row_0 (N : Nat) (S : zb_S) (a1 : Int32) : Option (Int32 × zb_S) :=
  zb_let (zb_pi S 21 0 0) (fun S1 : zb_S =>
  zb_bind (fX6_manyOut N S1) (fun r3 S2 =>
  zb_bind (fX6_in N S2 (Int32.toInt64 a1) 0 (Int32.toInt64 (r3 - 1))) (fun r5 S4 =>
  if r5 = 0 then
    some ((-9), S4)
  else
    zb_bind (fX6_rowAt N S4 a1) (fun r7 S6 =>
    some (r7, S6)))))
set_option maxHeartbeats 4000000 in
set_option maxRecDepth 100000 in
theorem gX6_row_0 {l : Launch} {G : zb_G} (N : Nat) (S : zb_S) (a1 : Int32) : zb_Go zb_eI l G 7 RX6 cX6_row 2 (some .int) 0 [(0, .ref (zb_ad G 21)), (1, .int a1)] [] S (fX6_row_0 N S a1) := by
  unfold fX6_row_0
  refine zg_aload_n 0 dX6_row_0 rfl rfl ?_
  refine zg_iconst (v := 0) dX6_row_1 (by decide) ?_
  refine zp_X6_0 rfl zw_114 dX6_row_2 (fun S1 => ?_)
  refine zg_iload_n 1 dX6_row_5 rfl rfl ?_
  refine zg_i2l dX6_row_6 ?_
  refine zg_lconst (v := 0) dX6_row_7 (by decide) ?_
  refine zg_aload_n 0 dX6_row_8 rfl rfl ?_
  refine zg_callVI (As := []) (rest := [.long 0, .long (Int32.toInt64 a1)]) 0 (zcX6_manyOut N S1) (by decide) (by decide) rfl (by decide) rfl zw_575 zw_576 zw_577 zw_5 zw_578 (by decide +kernel) rfl rfl (Nat.le_of_ble_eq_true rfl) dX6_row_9 (fun r3 S2 => ?_)
  refine zg_iconst (v := 1) dX6_row_12 (by decide) ?_
  refine zg_isub dX6_row_13 ?_
  refine zg_i2l dX6_row_14 ?_
  refine zg_callSI (As := [.long (Int32.toInt64 a1), .long 0, .long (Int32.toInt64 (r3 - 1))]) (rest := []) 3 (zcX6_in N S2 (Int32.toInt64 a1) 0 (Int32.toInt64 (r3 - 1))) (by decide) (by decide) zw_117 zw_118 zw_5 zw_119 (by decide +kernel) rfl rfl (Nat.le_of_ble_eq_true rfl) dX6_row_15 (fun r5 S4 => ?_)
  refine zg_if_eq 29 dX6_row_18 (by decide) ?_ ?_
  · refine zg_bipush (v := (-9)) dX6_row_29 (by decide) ?_
    exact zg_iret rfl dX6_row_31
  · refine zg_aload_n 0 dX6_row_21 rfl rfl ?_
    refine zg_iload_n 1 dX6_row_22 rfl rfl ?_
    refine zg_callVI (As := [.int a1]) (rest := []) 1 (zcX6_rowAt N S4 a1) (by decide) (by decide) rfl (by decide) rfl zw_588 zw_589 zw_590 zw_5 zw_591 (by decide +kernel) rfl rfl (Nat.le_of_ble_eq_true rfl) dX6_row_23 (fun r7 S6 => ?_)
    refine zg_goto (tgt := 31) dX6_row_26 (by decide) ?_
    exact zg_iret rfl dX6_row_31
def fX6_row (N : Nat) (S : zb_S) (a1 : Int32) : Option (Int32 × zb_S) := fX6_row_0 N S a1
theorem zcX6_row {l : Launch} {G : zb_G} (N : Nat) (S : zb_S) (a1 : Int32) : zb_C zb_eI l G 7 yX6_row cX6_row 2 (some .int) [.ref (zb_ad G 21), .int a1] S (fX6_row N S a1) :=
  zb_C.of (by decide +kernel) rfl (Nat.le_of_ble_eq_true rfl) rfl (gX6_row_0 N S a1)
-- X6_does
def fX6_does_274 (N : Nat) (S : zb_S) (s0 : Int32) (s1 : Int32) : Option (Int32 × zb_S) :=
  if s1 = s0 then
    if (1 : Int32) = 0 ∨ (1 : Int32) = 1 then some (1, S) else none
  else
    if (0 : Int32) = 0 ∨ (0 : Int32) = 1 then some (0, S) else none
set_option maxHeartbeats 4000000 in
set_option maxRecDepth 100000 in
theorem gX6_does_274 {l : Launch} {G : zb_G} (N : Nat) (S : zb_S) (s0 : Int32) (s1 : Int32) : zb_Go zb_eI l G 6 RX6 cX6_does 4 (some .boolean) 274 [] [.int s0, .int s1] S (fX6_does_274 N S s0 s1) := by
  unfold fX6_does_274
  refine zg_icmp_ne 281 dX6_does_274 (by decide) ?_ ?_
  · refine zg_iconst (v := 0) dX6_does_281 (by decide) ?_
    exact zg_zret rfl dX6_does_282
  · refine zg_iconst (v := 1) dX6_does_277 (by decide) ?_
    refine zg_goto (tgt := 282) dX6_does_278 (by decide) ?_
    exact zg_zret rfl dX6_does_282
def fX6_does_264 (N : Nat) (S : zb_S) (l3 : Int32) (s0 : Int32) : Option (Int32 × zb_S) :=
  if l3 = 1 then
    fX6_does_274 N S 1 s0
  else
    fX6_does_274 N S 0 s0
set_option maxHeartbeats 4000000 in
set_option maxRecDepth 100000 in
theorem gX6_does_264 {l : Launch} {G : zb_G} (N : Nat) (S : zb_S) (l3 : Int32) (s0 : Int32) : zb_Go zb_eI l G 6 RX6 cX6_does 4 (some .boolean) 264 [(3, .int l3)] [.int s0] S (fX6_does_264 N S l3 s0) := by
  unfold fX6_does_264
  refine zg_iload_n 0 dX6_does_264 rfl rfl ?_
  refine zg_iconst (v := 1) dX6_does_265 (by decide) ?_
  refine zg_icmp_ne 273 dX6_does_266 (by decide) ?_ ?_
  · refine zg_iconst (v := 0) dX6_does_273 (by decide) ?_
    refine zg_sub [] rfl ?_
    exact gX6_does_274 N S 0 s0
  · refine zg_iconst (v := 1) dX6_does_269 (by decide) ?_
    refine zg_goto (tgt := 274) dX6_does_270 (by decide) ?_
    refine zg_sub [] rfl ?_
    exact gX6_does_274 N S 1 s0
def fX6_does_0 (N : Nat) (S : zb_S) (a1 : Int32) (a2 : Int32) (a3 : Int32) : Option (Int32 × zb_S) :=
  if a1 = 1 then
    zb_bind (fX6_stepsOn N 25 S ((10 * a2) + a3)) (fun _ S1 =>
    if ((10 * a2) + a3) ≤ 0 then
      if (0 : Int32) = 0 ∨ (0 : Int32) = 1 then some (0, S1) else none
    else
      if (1 : Int32) = 0 ∨ (1 : Int32) = 1 then some (1, S1) else none)
  else if a1 = 2 then
    if a2 = 0 then
      zb_bind (fX6_noLine N S a3) (fun r5 S4 =>
      if r5 = 0 then
        zb_bind (fX6_entry N S4 a3) (fun r7 S6 =>
        if zb_in ((6 * r7) + 0) (zb_sz 25) then
        if 0 < (zb_a S6 25 (Int32.toNatClampNeg ((6 * r7) + 0))) then
          if (0 : Int32) = 0 ∨ (0 : Int32) = 1 then some (0, S6) else none
        else
          if zb_in 76 (zb_sz 25) then
          if (zb_a S6 25 (Int32.toNatClampNeg 76)) = 99 then
            if (0 : Int32) = 0 ∨ (0 : Int32) = 1 then some (0, S6) else none
          else
            zb_bind (fX6_feedOn N 25 S6 a3) (fun _ S8 =>
            if (1 : Int32) = 0 ∨ (1 : Int32) = 1 then some (1, S8) else none) else none else none)
      else
        if (0 : Int32) = 0 ∨ (0 : Int32) = 1 then some (0, S4) else none)
    else
      if (0 : Int32) = 0 ∨ (0 : Int32) = 1 then some (0, S) else none
  else if a1 = 3 then
    if a2 = 0 then
      zb_bind (fX6_noZone N S a3) (fun r12 S11 =>
      if r12 = 0 then
        if zb_in ((6 * a3) + 0) (zb_sz 25) then
        if (zb_a S11 25 (Int32.toNatClampNeg ((6 * a3) + 0))) ≤ 0 then
          if (0 : Int32) = 0 ∨ (0 : Int32) = 1 then some (0, S11) else none
        else
          zb_bind (fX6_liftOn N 25 S11 a3) (fun r14 S13 =>
          if r14 ≤ 0 then
            if (0 : Int32) = 0 ∨ (0 : Int32) = 1 then some (0, S13) else none
          else
            if (1 : Int32) = 0 ∨ (1 : Int32) = 1 then some (1, S13) else none) else none
      else
        if (0 : Int32) = 0 ∨ (0 : Int32) = 1 then some (0, S11) else none)
    else
      if (0 : Int32) = 0 ∨ (0 : Int32) = 1 then some (0, S) else none
  else if a1 = 4 then
    if a2 = 0 then
      if a3 = 0 then
        if zb_in 72 (zb_sz 25) then
        if zb_in 72 (zb_sz 25) then zb_let (zb_pa S 25 (Int32.toNatClampNeg 72) (1 - (zb_a S 25 (Int32.toNatClampNeg 72)))) (fun S16 : zb_S =>
        if (1 : Int32) = 0 ∨ (1 : Int32) = 1 then some (1, S16) else none) else none else none
      else
        if (0 : Int32) = 0 ∨ (0 : Int32) = 1 then some (0, S) else none
    else
      if (0 : Int32) = 0 ∨ (0 : Int32) = 1 then some (0, S) else none
  else if a1 = 5 then
    zb_bind (fX6_noZone N S a2) (fun r19 S18 =>
    if r19 = 0 then
      if a3 ≤ 2 then
        if zb_in ((6 * a2) + 1) (zb_sz 25) then zb_let (zb_pa S18 25 (Int32.toNatClampNeg ((6 * a2) + 1)) a3) (fun S20 : zb_S =>
        if (1 : Int32) = 0 ∨ (1 : Int32) = 1 then some (1, S20) else none) else none
      else
        if (0 : Int32) = 0 ∨ (0 : Int32) = 1 then some (0, S18) else none
    else
      if (0 : Int32) = 0 ∨ (0 : Int32) = 1 then some (0, S18) else none)
  else if a1 = 6 then
    zb_bind (fX6_noZone N S a2) (fun r23 S22 =>
    if r23 = 0 then
      if 2 ≤ a3 then
        if (0 : Int32) = 0 ∨ (0 : Int32) = 1 then some (0, S22) else none
      else
        if zb_in ((6 * a2) + 0) (zb_sz 25) then
        if (zb_a S22 25 (Int32.toNatClampNeg ((6 * a2) + 0))) ≤ 0 then
          fX6_does_264 N S22 a3 0
        else
          fX6_does_264 N S22 a3 1 else none
    else
      if (0 : Int32) = 0 ∨ (0 : Int32) = 1 then some (0, S22) else none)
  else if a1 = 7 then
    if zb_in 77 (zb_sz 25) then
    if (zb_a S 25 (Int32.toNatClampNeg 77)) = ((10 * a2) + a3) then
      if (1 : Int32) = 0 ∨ (1 : Int32) = 1 then some (1, S) else none
    else
      if (0 : Int32) = 0 ∨ (0 : Int32) = 1 then some (0, S) else none else none
  else if a1 = 8 then
    zb_bind (fX6_noZone N S a2) (fun r27 S26 =>
    if r27 = 0 then
      if 2 ≤ a3 then
        if (0 : Int32) = 0 ∨ (0 : Int32) = 1 then some (0, S26) else none
      else
        if zb_in ((6 * a2) + 2) (zb_sz 25) then
        if (zb_a S26 25 (Int32.toNatClampNeg ((6 * a2) + 2))) = a3 then
          if (1 : Int32) = 0 ∨ (1 : Int32) = 1 then some (1, S26) else none
        else
          if (0 : Int32) = 0 ∨ (0 : Int32) = 1 then some (0, S26) else none else none
    else
      if (0 : Int32) = 0 ∨ (0 : Int32) = 1 then some (0, S26) else none)
  else 
    if (0 : Int32) = 0 ∨ (0 : Int32) = 1 then some (0, S) else none
set_option maxHeartbeats 4000000 in
set_option maxRecDepth 100000 in
theorem gX6_does_0 {l : Launch} {G : zb_G} (N : Nat) (S : zb_S) (a1 : Int32) (a2 : Int32) (a3 : Int32) : zb_Go zb_eI l G 6 RX6 cX6_does 4 (some .boolean) 0 [(0, .ref (zb_ad G 21)), (1, .int a1), (2, .int a2), (3, .int a3)] [] S (fX6_does_0 N S a1 a2 a3) := by
  unfold fX6_does_0
  refine zg_iload_n 1 dX6_does_0 rfl rfl ?_
  refine zg_if (fun q3 => ?_) (fun q3 => ?_)
  · refine zg_tableIn dX6_does_1 (by rw [q3]; decide) (by rw [q3]; decide) (by rw [q3]; rfl) (by decide : (1 : Int) + 47 = (48 : Nat)) ?_
    refine zg_aload_n 0 dX6_does_48 rfl rfl ?_
    refine zg_aload_n 0 dX6_does_49 rfl rfl ?_
    refine zq_X6_12 rfl rfl zw_93 dX6_does_50 ?_
    refine zg_bipush (v := 10) dX6_does_53 (by decide) ?_
    refine zg_iload_n 2 dX6_does_55 rfl rfl ?_
    refine zg_imul dX6_does_56 ?_
    refine zg_iload_n 3 dX6_does_57 rfl rfl ?_
    refine zg_iadd dX6_does_58 ?_
    refine zg_callVV (As := [.ref (zb_ad G 25), .int ((10 * a2) + a3)]) (rest := []) 2 (zcX6_stepsOn N 25 rfl S ((10 * a2) + a3)) (by decide) (by decide) rfl (by decide) rfl zw_464 zw_465 zw_466 zw_5 zw_467 (by decide +kernel) rfl rfl (Nat.le_of_ble_eq_true rfl) dX6_does_59 (fun S1 => ?_)
    refine zg_bipush (v := 10) dX6_does_62 (by decide) ?_
    refine zg_iload_n 2 dX6_does_64 rfl rfl ?_
    refine zg_imul dX6_does_65 ?_
    refine zg_iload_n 3 dX6_does_66 rfl rfl ?_
    refine zg_iadd dX6_does_67 ?_
    refine zg_if_le 75 dX6_does_68 (by decide) ?_ ?_
    · refine zg_iconst (v := 0) dX6_does_75 (by decide) ?_
      exact zg_zret rfl dX6_does_76
    · refine zg_iconst (v := 1) dX6_does_71 (by decide) ?_
      refine zg_goto (tgt := 76) dX6_does_72 (by decide) ?_
      exact zg_zret rfl dX6_does_76
  · refine zg_if (fun q10 => ?_) (fun q10 => ?_)
    · refine zg_tableIn dX6_does_1 (by rw [q10]; decide) (by rw [q10]; decide) (by rw [q10]; rfl) (by decide : (1 : Int) + 76 = (77 : Nat)) ?_
      refine zg_iload_n 2 dX6_does_77 rfl rfl ?_
      refine zg_if_ne 119 dX6_does_78 (by decide) ?_ ?_
      · refine zg_iconst (v := 0) dX6_does_119 (by decide) ?_
        exact zg_zret rfl dX6_does_120
      · refine zg_aload_n 0 dX6_does_81 rfl rfl ?_
        refine zg_iload_n 3 dX6_does_82 rfl rfl ?_
        refine zg_callVI (As := [.int a3]) (rest := []) 1 (zcX6_noLine N S a3) (by decide) (by decide) rfl (by decide) rfl zw_303 zw_304 zw_305 zw_5 zw_306 (by decide +kernel) rfl rfl (Nat.le_of_ble_eq_true rfl) dX6_does_83 (fun r5 S4 => ?_)
        refine zg_if_ne 119 dX6_does_86 (by decide) ?_ ?_
        · refine zg_iconst (v := 0) dX6_does_119 (by decide) ?_
          exact zg_zret rfl dX6_does_120
        · refine zg_aload_n 0 dX6_does_89 rfl rfl ?_
          refine zq_X6_12 rfl rfl zw_93 dX6_does_90 ?_
          refine zg_bipush (v := 6) dX6_does_93 (by decide) ?_
          refine zg_aload_n 0 dX6_does_95 rfl rfl ?_
          refine zg_iload_n 3 dX6_does_96 rfl rfl ?_
          refine zg_callVI (As := [.int a3]) (rest := [.int 6, .ref (zb_ad G 25)]) 1 (zcX6_entry N S4 a3) (by decide) (by decide) rfl (by decide) rfl zw_307 zw_308 zw_309 zw_5 zw_310 (by decide +kernel) rfl rfl (Nat.le_of_ble_eq_true rfl) dX6_does_97 (fun r7 S6 => ?_)
          refine zg_imul dX6_does_100 ?_
          refine zg_iconst (v := 0) dX6_does_101 (by decide) ?_
          refine zg_iadd dX6_does_102 ?_
          refine zg_iald rfl dX6_does_103 ?_
          refine zg_if_gt 119 dX6_does_104 (by decide) ?_ ?_
          · refine zg_iconst (v := 0) dX6_does_119 (by decide) ?_
            exact zg_zret rfl dX6_does_120
          · refine zg_aload_n 0 dX6_does_107 rfl rfl ?_
            refine zq_X6_12 rfl rfl zw_93 dX6_does_108 ?_
            refine zg_bipush (v := 76) dX6_does_111 (by decide) ?_
            refine zg_iald rfl dX6_does_113 ?_
            refine zg_bipush (v := 99) dX6_does_114 (by decide) ?_
            refine zg_icmp_ne 121 dX6_does_116 (by decide) ?_ ?_
            · refine zg_aload_n 0 dX6_does_121 rfl rfl ?_
              refine zg_aload_n 0 dX6_does_122 rfl rfl ?_
              refine zq_X6_12 rfl rfl zw_93 dX6_does_123 ?_
              refine zg_iload_n 3 dX6_does_126 rfl rfl ?_
              refine zg_callVV (As := [.ref (zb_ad G 25), .int a3]) (rest := []) 2 (zcX6_feedOn N 25 rfl S6 a3) (by decide) (by decide) rfl (by decide) rfl zw_315 zw_316 zw_317 zw_5 zw_318 (by decide +kernel) rfl rfl (Nat.le_of_ble_eq_true rfl) dX6_does_127 (fun S8 => ?_)
              refine zg_iconst (v := 1) dX6_does_130 (by decide) ?_
              exact zg_zret rfl dX6_does_131
            · refine zg_iconst (v := 0) dX6_does_119 (by decide) ?_
              exact zg_zret rfl dX6_does_120
    · refine zg_if (fun q15 => ?_) (fun q15 => ?_)
      · refine zg_tableIn dX6_does_1 (by rw [q15]; decide) (by rw [q15]; decide) (by rw [q15]; rfl) (by decide : (1 : Int) + 131 = (132 : Nat)) ?_
        refine zg_iload_n 2 dX6_does_132 rfl rfl ?_
        refine zg_if_ne 173 dX6_does_133 (by decide) ?_ ?_
        · refine zg_iconst (v := 0) dX6_does_173 (by decide) ?_
          exact zg_zret rfl dX6_does_174
        · refine zg_aload_n 0 dX6_does_136 rfl rfl ?_
          refine zg_iload_n 3 dX6_does_137 rfl rfl ?_
          refine zg_callVI (As := [.int a3]) (rest := []) 1 (zcX6_noZone N S a3) (by decide) (by decide) rfl (by decide) rfl zw_253 zw_254 zw_255 zw_5 zw_256 (by decide +kernel) rfl rfl (Nat.le_of_ble_eq_true rfl) dX6_does_138 (fun r12 S11 => ?_)
          refine zg_if_ne 173 dX6_does_141 (by decide) ?_ ?_
          · refine zg_iconst (v := 0) dX6_does_173 (by decide) ?_
            exact zg_zret rfl dX6_does_174
          · refine zg_aload_n 0 dX6_does_144 rfl rfl ?_
            refine zq_X6_12 rfl rfl zw_93 dX6_does_145 ?_
            refine zg_bipush (v := 6) dX6_does_148 (by decide) ?_
            refine zg_iload_n 3 dX6_does_150 rfl rfl ?_
            refine zg_imul dX6_does_151 ?_
            refine zg_iconst (v := 0) dX6_does_152 (by decide) ?_
            refine zg_iadd dX6_does_153 ?_
            refine zg_iald rfl dX6_does_154 ?_
            refine zg_if_le 173 dX6_does_155 (by decide) ?_ ?_
            · refine zg_iconst (v := 0) dX6_does_173 (by decide) ?_
              exact zg_zret rfl dX6_does_174
            · refine zg_aload_n 0 dX6_does_158 rfl rfl ?_
              refine zq_X6_12 rfl rfl zw_93 dX6_does_159 ?_
              refine zg_iload_n 3 dX6_does_162 rfl rfl ?_
              refine zg_callSI (As := [.ref (zb_ad G 25), .int a3]) (rest := []) 2 (zcX6_liftOn N 25 rfl S11 a3) (by decide) (by decide) zw_339 zw_340 zw_5 zw_341 (by decide +kernel) rfl rfl (Nat.le_of_ble_eq_true rfl) dX6_does_163 (fun r14 S13 => ?_)
              refine zg_if_le 173 dX6_does_166 (by decide) ?_ ?_
              · refine zg_iconst (v := 0) dX6_does_173 (by decide) ?_
                exact zg_zret rfl dX6_does_174
              · refine zg_iconst (v := 1) dX6_does_169 (by decide) ?_
                refine zg_goto (tgt := 174) dX6_does_170 (by decide) ?_
                exact zg_zret rfl dX6_does_174
      · refine zg_if (fun q17 => ?_) (fun q17 => ?_)
        · refine zg_tableIn dX6_does_1 (by rw [q17]; decide) (by rw [q17]; decide) (by rw [q17]; rfl) (by decide : (1 : Int) + 174 = (175 : Nat)) ?_
          refine zg_iload_n 2 dX6_does_175 rfl rfl ?_
          refine zg_if_ne 183 dX6_does_176 (by decide) ?_ ?_
          · refine zg_iconst (v := 0) dX6_does_183 (by decide) ?_
            exact zg_zret rfl dX6_does_184
          · refine zg_iload_n 3 dX6_does_179 rfl rfl ?_
            refine zg_if_eq 185 dX6_does_180 (by decide) ?_ ?_
            · refine zg_aload_n 0 dX6_does_185 rfl rfl ?_
              refine zq_X6_12 rfl rfl zw_93 dX6_does_186 ?_
              refine zg_bipush (v := 72) dX6_does_189 (by decide) ?_
              refine zg_iconst (v := 1) dX6_does_191 (by decide) ?_
              refine zg_aload_n 0 dX6_does_192 rfl rfl ?_
              refine zq_X6_12 rfl rfl zw_93 dX6_does_193 ?_
              refine zg_bipush (v := 72) dX6_does_196 (by decide) ?_
              refine zg_iald rfl dX6_does_198 ?_
              refine zg_isub dX6_does_199 ?_
              refine zg_iast rfl dX6_does_200 (fun S16 => ?_)
              refine zg_iconst (v := 1) dX6_does_201 (by decide) ?_
              exact zg_zret rfl dX6_does_202
            · refine zg_iconst (v := 0) dX6_does_183 (by decide) ?_
              exact zg_zret rfl dX6_does_184
        · refine zg_if (fun q21 => ?_) (fun q21 => ?_)
          · refine zg_tableIn dX6_does_1 (by rw [q21]; decide) (by rw [q21]; decide) (by rw [q21]; rfl) (by decide : (1 : Int) + 202 = (203 : Nat)) ?_
            refine zg_aload_n 0 dX6_does_203 rfl rfl ?_
            refine zg_iload_n 2 dX6_does_204 rfl rfl ?_
            refine zg_callVI (As := [.int a2]) (rest := []) 1 (zcX6_noZone N S a2) (by decide) (by decide) rfl (by decide) rfl zw_253 zw_254 zw_255 zw_5 zw_256 (by decide +kernel) rfl rfl (Nat.le_of_ble_eq_true rfl) dX6_does_205 (fun r19 S18 => ?_)
            refine zg_if_ne 216 dX6_does_208 (by decide) ?_ ?_
            · refine zg_iconst (v := 0) dX6_does_216 (by decide) ?_
              exact zg_zret rfl dX6_does_217
            · refine zg_iload_n 3 dX6_does_211 rfl rfl ?_
              refine zg_iconst (v := 2) dX6_does_212 (by decide) ?_
              refine zg_icmp_le 218 dX6_does_213 (by decide) ?_ ?_
              · refine zg_aload_n 0 dX6_does_218 rfl rfl ?_
                refine zq_X6_12 rfl rfl zw_93 dX6_does_219 ?_
                refine zg_bipush (v := 6) dX6_does_222 (by decide) ?_
                refine zg_iload_n 2 dX6_does_224 rfl rfl ?_
                refine zg_imul dX6_does_225 ?_
                refine zg_iconst (v := 1) dX6_does_226 (by decide) ?_
                refine zg_iadd dX6_does_227 ?_
                refine zg_iload_n 3 dX6_does_228 rfl rfl ?_
                refine zg_iast rfl dX6_does_229 (fun S20 => ?_)
                refine zg_iconst (v := 1) dX6_does_230 (by decide) ?_
                exact zg_zret rfl dX6_does_231
              · refine zg_iconst (v := 0) dX6_does_216 (by decide) ?_
                exact zg_zret rfl dX6_does_217
          · refine zg_if (fun q24 => ?_) (fun q24 => ?_)
            · refine zg_tableIn dX6_does_1 (by rw [q24]; decide) (by rw [q24]; decide) (by rw [q24]; rfl) (by decide : (1 : Int) + 231 = (232 : Nat)) ?_
              refine zg_aload_n 0 dX6_does_232 rfl rfl ?_
              refine zg_iload_n 2 dX6_does_233 rfl rfl ?_
              refine zg_callVI (As := [.int a2]) (rest := []) 1 (zcX6_noZone N S a2) (by decide) (by decide) rfl (by decide) rfl zw_253 zw_254 zw_255 zw_5 zw_256 (by decide +kernel) rfl rfl (Nat.le_of_ble_eq_true rfl) dX6_does_234 (fun r23 S22 => ?_)
              refine zg_if_ne 281 dX6_does_237 (by decide) ?_ ?_
              · refine zg_iconst (v := 0) dX6_does_281 (by decide) ?_
                exact zg_zret rfl dX6_does_282
              · refine zg_iload_n 3 dX6_does_240 rfl rfl ?_
                refine zg_iconst (v := 2) dX6_does_241 (by decide) ?_
                refine zg_icmp_ge 281 dX6_does_242 (by decide) ?_ ?_
                · refine zg_iconst (v := 0) dX6_does_281 (by decide) ?_
                  exact zg_zret rfl dX6_does_282
                · refine zg_aload_n 0 dX6_does_245 rfl rfl ?_
                  refine zq_X6_12 rfl rfl zw_93 dX6_does_246 ?_
                  refine zg_bipush (v := 6) dX6_does_249 (by decide) ?_
                  refine zg_iload_n 2 dX6_does_251 rfl rfl ?_
                  refine zg_imul dX6_does_252 ?_
                  refine zg_iconst (v := 0) dX6_does_253 (by decide) ?_
                  refine zg_iadd dX6_does_254 ?_
                  refine zg_iald rfl dX6_does_255 ?_
                  refine zg_if_le 263 dX6_does_256 (by decide) ?_ ?_
                  · refine zg_iconst (v := 0) dX6_does_263 (by decide) ?_
                    refine zg_sub [3] rfl ?_
                    exact gX6_does_264 N S22 a3 0
                  · refine zg_iconst (v := 1) dX6_does_259 (by decide) ?_
                    refine zg_goto (tgt := 264) dX6_does_260 (by decide) ?_
                    refine zg_sub [3] rfl ?_
                    exact gX6_does_264 N S22 a3 1
            · refine zg_if (fun q25 => ?_) (fun q25 => ?_)
              · refine zg_tableIn dX6_does_1 (by rw [q25]; decide) (by rw [q25]; decide) (by rw [q25]; rfl) (by decide : (1 : Int) + 282 = (283 : Nat)) ?_
                refine zg_aload_n 0 dX6_does_283 rfl rfl ?_
                refine zq_X6_12 rfl rfl zw_93 dX6_does_284 ?_
                refine zg_bipush (v := 77) dX6_does_287 (by decide) ?_
                refine zg_iald rfl dX6_does_289 ?_
                refine zg_bipush (v := 10) dX6_does_290 (by decide) ?_
                refine zg_iload_n 2 dX6_does_292 rfl rfl ?_
                refine zg_imul dX6_does_293 ?_
                refine zg_iload_n 3 dX6_does_294 rfl rfl ?_
                refine zg_iadd dX6_does_295 ?_
                refine zg_icmp_ne 303 dX6_does_296 (by decide) ?_ ?_
                · refine zg_iconst (v := 0) dX6_does_303 (by decide) ?_
                  exact zg_zret rfl dX6_does_304
                · refine zg_iconst (v := 1) dX6_does_299 (by decide) ?_
                  refine zg_goto (tgt := 304) dX6_does_300 (by decide) ?_
                  exact zg_zret rfl dX6_does_304
              · refine zg_if (fun q28 => ?_) (fun q28 => ?_)
                · refine zg_tableIn dX6_does_1 (by rw [q28]; decide) (by rw [q28]; decide) (by rw [q28]; rfl) (by decide : (1 : Int) + 304 = (305 : Nat)) ?_
                  refine zg_aload_n 0 dX6_does_305 rfl rfl ?_
                  refine zg_iload_n 2 dX6_does_306 rfl rfl ?_
                  refine zg_callVI (As := [.int a2]) (rest := []) 1 (zcX6_noZone N S a2) (by decide) (by decide) rfl (by decide) rfl zw_253 zw_254 zw_255 zw_5 zw_256 (by decide +kernel) rfl rfl (Nat.le_of_ble_eq_true rfl) dX6_does_307 (fun r27 S26 => ?_)
                  refine zg_if_ne 337 dX6_does_310 (by decide) ?_ ?_
                  · refine zg_iconst (v := 0) dX6_does_337 (by decide) ?_
                    exact zg_zret rfl dX6_does_338
                  · refine zg_iload_n 3 dX6_does_313 rfl rfl ?_
                    refine zg_iconst (v := 2) dX6_does_314 (by decide) ?_
                    refine zg_icmp_ge 337 dX6_does_315 (by decide) ?_ ?_
                    · refine zg_iconst (v := 0) dX6_does_337 (by decide) ?_
                      exact zg_zret rfl dX6_does_338
                    · refine zg_aload_n 0 dX6_does_318 rfl rfl ?_
                      refine zq_X6_12 rfl rfl zw_93 dX6_does_319 ?_
                      refine zg_bipush (v := 6) dX6_does_322 (by decide) ?_
                      refine zg_iload_n 2 dX6_does_324 rfl rfl ?_
                      refine zg_imul dX6_does_325 ?_
                      refine zg_iconst (v := 2) dX6_does_326 (by decide) ?_
                      refine zg_iadd dX6_does_327 ?_
                      refine zg_iald rfl dX6_does_328 ?_
                      refine zg_iload_n 3 dX6_does_329 rfl rfl ?_
                      refine zg_icmp_ne 337 dX6_does_330 (by decide) ?_ ?_
                      · refine zg_iconst (v := 0) dX6_does_337 (by decide) ?_
                        exact zg_zret rfl dX6_does_338
                      · refine zg_iconst (v := 1) dX6_does_333 (by decide) ?_
                        refine zg_goto (tgt := 338) dX6_does_334 (by decide) ?_
                        exact zg_zret rfl dX6_does_338
                · refine zg_tableOut dX6_does_1 (by have q3 := lv_neT q3 (show (1 : Int32).toInt = 1 from by decide); have q10 := lv_neT q10 (show (2 : Int32).toInt = 2 from by decide); have q15 := lv_neT q15 (show (3 : Int32).toInt = 3 from by decide); have q17 := lv_neT q17 (show (4 : Int32).toInt = 4 from by decide); have q21 := lv_neT q21 (show (5 : Int32).toInt = 5 from by decide); have q24 := lv_neT q24 (show (6 : Int32).toInt = 6 from by decide); have q25 := lv_neT q25 (show (7 : Int32).toInt = 7 from by decide); have q28 := lv_neT q28 (show (8 : Int32).toInt = 8 from by decide); omega) (by decide : (1 : Int) + 338 = (339 : Nat)) ?_
                  refine zg_iconst (v := 0) dX6_does_339 (by decide) ?_
                  exact zg_zret rfl dX6_does_340
def fX6_does (N : Nat) (S : zb_S) (a1 : Int32) (a2 : Int32) (a3 : Int32) : Option (Int32 × zb_S) := fX6_does_0 N S a1 a2 a3
theorem zcX6_does {l : Launch} {G : zb_G} (N : Nat) (S : zb_S) (a1 : Int32) (a2 : Int32) (a3 : Int32) : zb_C zb_eI l G 6 yX6_does cX6_does 4 (some .boolean) [.ref (zb_ad G 21), .int a1, .int a2, .int a3] S (fX6_does N S a1 a2 a3) :=
  zb_C.of (by decide +kernel) rfl (Nat.le_of_ble_eq_true rfl) rfl (gX6_does_0 N S a1 a2 a3)
-- X6_longPower
def fX6_longPower_5b (N : Nat) (k5 : zb_S → Int64 → Int32 → Int64 → Int32 → Option (Int64 × zb_S)) (S : zb_S) (l0 : Int64) (l2 : Int32) (l3 : Int64) (l5 : Int32) : Option (Int64 × zb_S) :=
  if l2 ≤ l5 then
    some (l3, S)
  else
    zb_let (l3 * l0) (fun x1 : Int64 =>
    zb_let (l5 + 1) (fun x2 : Int32 =>
    k5 S l0 l2 x1 x2))
set_option maxHeartbeats 4000000 in
set_option maxRecDepth 100000 in
theorem gX6_longPower_5b {l : Launch} {G : zb_G} (N : Nat) (k5 : zb_S → Int64 → Int32 → Int64 → Int32 → Option (Int64 × zb_S)) (hk5 : ∀ (S : zb_S) (l0 : Int64) (l2 : Int32) (l3 : Int64) (l5 : Int32), zb_Go zb_eL l G 0 RX6 cX6_longPower 6 (some .long) 5 [(0, .long l0), (2, .int l2), (3, .long l3), (5, .int l5)] [] S (k5 S l0 l2 l3 l5)) (S : zb_S) (l0 : Int64) (l2 : Int32) (l3 : Int64) (l5 : Int32) : zb_Go zb_eL l G 0 RX6 cX6_longPower 6 (some .long) 5 [(0, .long l0), (2, .int l2), (3, .long l3), (5, .int l5)] [] S (fX6_longPower_5b N k5 S l0 l2 l3 l5) := by
  unfold fX6_longPower_5b
  refine zg_iload 3 dX6_longPower_5 rfl ?_
  refine zg_iload_n 1 dX6_longPower_7 rfl rfl ?_
  refine zg_icmp_ge 21 dX6_longPower_8 (by decide) ?_ ?_
  · refine zg_lload_n 2 dX6_longPower_21 rfl rfl ?_
    exact zg_lret rfl dX6_longPower_22
  · refine zg_lload_n 2 dX6_longPower_11 rfl rfl ?_
    refine zg_lload_n 0 dX6_longPower_12 rfl rfl ?_
    refine zg_lmul dX6_longPower_13 ?_
    refine zg_lstore_nL (fun x1 => [(3, .long x1), (0, .long l0), (2, .int l2), (5, .int l5)]) dX6_longPower_14 rfl (by decide) (fun _ => rfl) (fun x1 => ?_)
    refine zg_iincL (fun x2 => [(5, .int x2), (3, .long x1), (0, .long l0), (2, .int l2)]) 3 dX6_longPower_15 rfl rfl (by decide) (fun _ => rfl) (fun x2 => ?_)
    refine zg_goto (tgt := 5) dX6_longPower_18 (by decide) ?_
    refine zg_sub [2, 3, 1, 0] rfl ?_
    exact hk5 S l0 l2 x1 x2
def fX6_longPower_5 (N : Nat) : Nat → zb_S → Int64 → Int32 → Int64 → Int32 → Option (Int64 × zb_S)
  | 0, _, _, _, _, _ => none
  | n + 1, S, l0, l2, l3, l5 => fX6_longPower_5b N (fX6_longPower_5 N n) S l0 l2 l3 l5
set_option maxHeartbeats 4000000 in
set_option maxRecDepth 100000 in
theorem gX6_longPower_5 {l : Launch} {G : zb_G} (N : Nat) : ∀ (n : Nat) (S : zb_S) (l0 : Int64) (l2 : Int32) (l3 : Int64) (l5 : Int32), zb_Go zb_eL l G 0 RX6 cX6_longPower 6 (some .long) 5 [(0, .long l0), (2, .int l2), (3, .long l3), (5, .int l5)] [] S (fX6_longPower_5 N n S l0 l2 l3 l5) := by
  intro n
  induction n with
  | zero => intros; exact zg_none
  | succ n ih =>
    intro S l0 l2 l3 l5
    exact gX6_longPower_5b N (fX6_longPower_5 N n) ih S l0 l2 l3 l5
def fX6_longPower_0 (N : Nat) (S : zb_S) (a0 : Int64) (a2 : Int32) : Option (Int64 × zb_S) :=
  fX6_longPower_5 N N S a0 a2 1 0
set_option maxHeartbeats 4000000 in
set_option maxRecDepth 100000 in
theorem gX6_longPower_0 {l : Launch} {G : zb_G} (N : Nat) (S : zb_S) (a0 : Int64) (a2 : Int32) : zb_Go zb_eL l G 0 RX6 cX6_longPower 6 (some .long) 0 [(0, .long a0), (2, .int a2)] [] S (fX6_longPower_0 N S a0 a2) := by
  unfold fX6_longPower_0
  refine zg_lconst (v := 1) dX6_longPower_0 (by decide) ?_
  refine zg_lstore_n (lv' := [(3, .long 1), (0, .long a0), (2, .int a2)]) dX6_longPower_1 rfl (by decide) rfl ?_
  refine zg_iconst (v := 0) dX6_longPower_2 (by decide) ?_
  refine zg_istore (lv' := [(5, .int 0), (3, .long 1), (0, .long a0), (2, .int a2)]) dX6_longPower_3 (by decide) rfl ?_
  refine zg_sub [2, 3, 1, 0] rfl ?_
  exact gX6_longPower_5 N N S a0 a2 1 0
def fX6_longPower (N : Nat) (S : zb_S) (a0 : Int64) (a2 : Int32) : Option (Int64 × zb_S) := fX6_longPower_0 N S a0 a2
theorem zcX6_longPower {l : Launch} {G : zb_G} (N : Nat) (S : zb_S) (a0 : Int64) (a2 : Int32) : zb_C zb_eL l G 0 yX6_longPower cX6_longPower 6 (some .long) [.long a0, .int a2] S (fX6_longPower N S a0 a2) :=
  zb_C.of (by decide +kernel) rfl (Nat.le_of_ble_eq_true rfl) rfl (gX6_longPower_0 N S a0 a2)
-- X6_judge
def fX6_judge_44b (N : Nat) (k44 : zb_S → Int32 → Int64 → Int32 → Option (Int32 × zb_S)) (S : zb_S) (l1 : Int32) (l2 : Int64) (l4 : Int32) : Option (Int32 × zb_S) :=
  if l1 ≤ l4 then
    some ((-9), S)
  else
    zb_bind (fX6_longPower N S 1000 ((l1 - 1) - l4)) (fun r2 S1 =>
    if r2 = 0 then none else
    if 1000 = 0 then none else
    zb_let (Int64.toInt32 ((l2 / r2) - (l2 / r2) / 1000 * 1000)) (fun x3 : Int32 =>
    if 100 = 0 then none else
    if 10 = 0 then none else
    if 10 = 0 then none else
    if 10 = 0 then none else
    zb_bind (fX6_does N S1 (x3 / 100) ((x3 / 10) - (x3 / 10) / 10 * 10) (x3 - x3 / 10 * 10)) (fun r5 S4 =>
    if r5 = 0 then
      some (l4, S4)
    else
      zb_let (l4 + 1) (fun x6 : Int32 =>
      k44 S4 l1 l2 x6))))
set_option maxHeartbeats 4000000 in
set_option maxRecDepth 100000 in
theorem gX6_judge_44b {l : Launch} {G : zb_G} (N : Nat) (k44 : zb_S → Int32 → Int64 → Int32 → Option (Int32 × zb_S)) (hk44 : ∀ (S : zb_S) (l1 : Int32) (l2 : Int64) (l4 : Int32), zb_Go zb_eI l G 7 RX6 cX6_judge 6 (some .int) 44 [(0, .ref (zb_ad G 21)), (1, .int l1), (2, .long l2), (4, .int l4)] [] S (k44 S l1 l2 l4)) (S : zb_S) (l1 : Int32) (l2 : Int64) (l4 : Int32) : zb_Go zb_eI l G 7 RX6 cX6_judge 6 (some .int) 44 [(0, .ref (zb_ad G 21)), (1, .int l1), (2, .long l2), (4, .int l4)] [] S (fX6_judge_44b N k44 S l1 l2 l4) := by
  unfold fX6_judge_44b
  refine zg_iload 3 dX6_judge_44 rfl ?_
  refine zg_iload_n 1 dX6_judge_46 rfl rfl ?_
  refine zg_icmp_ge 105 dX6_judge_47 (by decide) ?_ ?_
  · refine zg_bipush (v := (-9)) dX6_judge_105 (by decide) ?_
    exact zg_iret rfl dX6_judge_107
  · refine zg_lload_n 2 dX6_judge_50 rfl rfl ?_
    refine zg_ldc2 zw_618 dX6_judge_51 ?_
    refine zg_iload_n 1 dX6_judge_54 rfl rfl ?_
    refine zg_iconst (v := 1) dX6_judge_55 (by decide) ?_
    refine zg_isub dX6_judge_56 ?_
    refine zg_iload 3 dX6_judge_57 rfl ?_
    refine zg_isub dX6_judge_59 ?_
    refine zg_callSJ (As := [.long 1000, .int ((l1 - 1) - l4)]) (rest := [.long l2]) 2 (zcX6_longPower N S 1000 ((l1 - 1) - l4)) (by decide) (by decide) zw_619 zw_620 zw_5 zw_621 (by decide +kernel) rfl rfl (Nat.le_of_ble_eq_true rfl) dX6_judge_60 (fun r2 S1 => ?_)
    refine zg_ldiv dX6_judge_63 (fun _ => ?_)
    refine zg_ldc2 zw_618 dX6_judge_64 ?_
    refine zg_lrem dX6_judge_67 (fun _ => ?_)
    refine zg_l2i dX6_judge_68 ?_
    refine zg_istoreL (fun x3 => [(5, .int x3), (0, .ref (zb_ad G 21)), (1, .int l1), (2, .long l2), (4, .int l4)]) dX6_judge_69 (by decide) (fun _ => rfl) (fun x3 => ?_)
    refine zg_aload_n 1 dX6_judge_71 rfl rfl ?_
    refine zg_iload 0 dX6_judge_72 rfl ?_
    refine zg_bipush (v := 100) dX6_judge_74 (by decide) ?_
    refine zg_idiv dX6_judge_76 (fun _ => ?_)
    refine zg_iload 0 dX6_judge_77 rfl ?_
    refine zg_bipush (v := 10) dX6_judge_79 (by decide) ?_
    refine zg_idiv dX6_judge_81 (fun _ => ?_)
    refine zg_bipush (v := 10) dX6_judge_82 (by decide) ?_
    refine zg_irem dX6_judge_84 (fun _ => ?_)
    refine zg_iload 0 dX6_judge_85 rfl ?_
    refine zg_bipush (v := 10) dX6_judge_87 (by decide) ?_
    refine zg_irem dX6_judge_89 (fun _ => ?_)
    refine zg_callVI (As := [.int (x3 / 100), .int ((x3 / 10) - (x3 / 10) / 10 * 10), .int (x3 - x3 / 10 * 10)]) (rest := []) 3 (zcX6_does N S1 (x3 / 100) ((x3 / 10) - (x3 / 10) / 10 * 10) (x3 - x3 / 10 * 10)) (by decide) (by decide) rfl (by decide) rfl zw_622 zw_623 zw_624 zw_5 zw_625 (by decide +kernel) rfl rfl (Nat.le_of_ble_eq_true rfl) dX6_judge_90 (fun r5 S4 => ?_)
    refine zg_if_ne 99 dX6_judge_93 (by decide) ?_ ?_
    · refine zg_iincL (fun x6 => [(4, .int x6), (5, .int x3), (0, .ref (zb_ad G 21)), (1, .int l1), (2, .long l2)]) 4 dX6_judge_99 rfl rfl (by decide) (fun _ => rfl) (fun x6 => ?_)
      refine zg_goto (tgt := 44) dX6_judge_102 (by decide) ?_
      refine zg_sub [2, 3, 4, 0] rfl ?_
      exact hk44 S4 l1 l2 x6
    · refine zg_iload 4 dX6_judge_96 rfl ?_
      exact zg_iret rfl dX6_judge_98
def fX6_judge_44 (N : Nat) : Nat → zb_S → Int32 → Int64 → Int32 → Option (Int32 × zb_S)
  | 0, _, _, _, _ => none
  | n + 1, S, l1, l2, l4 => fX6_judge_44b N (fX6_judge_44 N n) S l1 l2 l4
set_option maxHeartbeats 4000000 in
set_option maxRecDepth 100000 in
theorem gX6_judge_44 {l : Launch} {G : zb_G} (N : Nat) : ∀ (n : Nat) (S : zb_S) (l1 : Int32) (l2 : Int64) (l4 : Int32), zb_Go zb_eI l G 7 RX6 cX6_judge 6 (some .int) 44 [(0, .ref (zb_ad G 21)), (1, .int l1), (2, .long l2), (4, .int l4)] [] S (fX6_judge_44 N n S l1 l2 l4) := by
  intro n
  induction n with
  | zero => intros; exact zg_none
  | succ n ih =>
    intro S l1 l2 l4
    exact gX6_judge_44b N (fX6_judge_44 N n) ih S l1 l2 l4
def fX6_judge_0 (N : Nat) (S : zb_S) (a1 : Int32) (a2 : Int64) : Option (Int32 × zb_S) :=
  zb_let (zb_pi S 21 0 0) (fun S1 : zb_S =>
  zb_bind (fX6_in N S1 (Int32.toInt64 a1) 1 4) (fun r3 S2 =>
  if r3 = 0 then
    some ((-2), S2)
  else
    zb_bind (fX6_longPower N S2 1000 a1) (fun r5 S4 =>
    zb_bind (fX6_in N S4 a2 0 (r5 - 1)) (fun r7 S6 =>
    if r7 = 0 then
      some ((-2), S6)
    else
      zb_bind (fX6_layTrial N S6) (fun _ S8 =>
      fX6_judge_44 N N S8 a1 a2 0)))))
set_option maxHeartbeats 4000000 in
set_option maxRecDepth 100000 in
theorem gX6_judge_0 {l : Launch} {G : zb_G} (N : Nat) (S : zb_S) (a1 : Int32) (a2 : Int64) : zb_Go zb_eI l G 7 RX6 cX6_judge 6 (some .int) 0 [(0, .ref (zb_ad G 21)), (1, .int a1), (2, .long a2)] [] S (fX6_judge_0 N S a1 a2) := by
  unfold fX6_judge_0
  refine zg_aload_n 0 dX6_judge_0 rfl rfl ?_
  refine zg_iconst (v := 0) dX6_judge_1 (by decide) ?_
  refine zp_X6_0 rfl zw_114 dX6_judge_2 (fun S1 => ?_)
  refine zg_iload_n 1 dX6_judge_5 rfl rfl ?_
  refine zg_i2l dX6_judge_6 ?_
  refine zg_lconst (v := 1) dX6_judge_7 (by decide) ?_
  refine zg_ldc2 zw_617 dX6_judge_8 ?_
  refine zg_callSI (As := [.long (Int32.toInt64 a1), .long 1, .long 4]) (rest := []) 3 (zcX6_in N S1 (Int32.toInt64 a1) 1 4) (by decide) (by decide) zw_117 zw_118 zw_5 zw_119 (by decide +kernel) rfl rfl (Nat.le_of_ble_eq_true rfl) dX6_judge_11 (fun r3 S2 => ?_)
  refine zg_if_eq 34 dX6_judge_14 (by decide) ?_ ?_
  · refine zg_bipush (v := (-2)) dX6_judge_34 (by decide) ?_
    exact zg_iret rfl dX6_judge_36
  · refine zg_lload_n 2 dX6_judge_17 rfl rfl ?_
    refine zg_lconst (v := 0) dX6_judge_18 (by decide) ?_
    refine zg_ldc2 zw_618 dX6_judge_19 ?_
    refine zg_iload_n 1 dX6_judge_22 rfl rfl ?_
    refine zg_callSJ (As := [.long 1000, .int a1]) (rest := [.long 0, .long a2]) 2 (zcX6_longPower N S2 1000 a1) (by decide) (by decide) zw_619 zw_620 zw_5 zw_621 (by decide +kernel) rfl rfl (Nat.le_of_ble_eq_true rfl) dX6_judge_23 (fun r5 S4 => ?_)
    refine zg_lconst (v := 1) dX6_judge_26 (by decide) ?_
    refine zg_lsub dX6_judge_27 ?_
    refine zg_callSI (As := [.long a2, .long 0, .long (r5 - 1)]) (rest := []) 3 (zcX6_in N S4 a2 0 (r5 - 1)) (by decide) (by decide) zw_117 zw_118 zw_5 zw_119 (by decide +kernel) rfl rfl (Nat.le_of_ble_eq_true rfl) dX6_judge_28 (fun r7 S6 => ?_)
    refine zg_if_ne 37 dX6_judge_31 (by decide) ?_ ?_
    · refine zg_aload_n 0 dX6_judge_37 rfl rfl ?_
      refine zg_callVV (As := []) (rest := []) 0 (zcX6_layTrial N S6) (by decide) (by decide) rfl (by decide) rfl zw_542 zw_543 zw_544 zw_5 zw_545 (by decide +kernel) rfl rfl (Nat.le_of_ble_eq_true rfl) dX6_judge_38 (fun S8 => ?_)
      refine zg_iconst (v := 0) dX6_judge_41 (by decide) ?_
      refine zg_istore (lv' := [(4, .int 0), (0, .ref (zb_ad G 21)), (1, .int a1), (2, .long a2)]) dX6_judge_42 (by decide) rfl ?_
      refine zg_sub [1, 2, 3, 0] rfl ?_
      exact gX6_judge_44 N N S8 a1 a2 0
    · refine zg_bipush (v := (-2)) dX6_judge_34 (by decide) ?_
      exact zg_iret rfl dX6_judge_36
def fX6_judge (N : Nat) (S : zb_S) (a1 : Int32) (a2 : Int64) : Option (Int32 × zb_S) := fX6_judge_0 N S a1 a2
theorem zcX6_judge {l : Launch} {G : zb_G} (N : Nat) (S : zb_S) (a1 : Int32) (a2 : Int64) : zb_C zb_eI l G 7 yX6_judge cX6_judge 6 (some .int) [.ref (zb_ad G 21), .int a1, .long a2] S (fX6_judge N S a1 a2) :=
  zb_C.of (by decide +kernel) rfl (Nat.le_of_ble_eq_true rfl) rfl (gX6_judge_0 N S a1 a2)
-- X6_see
def fX6_see_0 (N : Nat) (S : zb_S) (a1 : Int32) (a2 : Int32) (a3 : Int32) : Option (Int32 × zb_S) :=
  zb_let (zb_pi S 21 0 0) (fun S1 : zb_S =>
  zb_bind (fX6_in N S1 (Int32.toInt64 a1) 0 30) (fun r3 S2 =>
  if r3 = 0 then
    some ((-2), S2)
  else
    zb_bind (fX6_in N S2 (Int32.toInt64 a2) 0 99) (fun r5 S4 =>
    if r5 = 0 then
      some ((-2), S4)
    else
      zb_bind (fX6_in N S4 (Int32.toInt64 a3) 0 1) (fun r7 S6 =>
      if r7 = 0 then
        some ((-2), S6)
      else
        if (zb_i S6 21 17) = 6 then
          some ((-4), S6)
        else
          if zb_in (zb_i S6 21 17) (zb_sz 29) then zb_let (zb_pa S6 29 (Int32.toNatClampNeg (zb_i S6 21 17)) a1) (fun S8 : zb_S =>
          if zb_in (zb_i S8 21 17) (zb_sz 30) then zb_let (zb_pa S8 30 (Int32.toNatClampNeg (zb_i S8 21 17)) a2) (fun S9 : zb_S =>
          if zb_in (zb_i S9 21 17) (zb_sz 31) then zb_let (zb_pa S9 31 (Int32.toNatClampNeg (zb_i S9 21 17)) a3) (fun S10 : zb_S =>
          zb_let (zb_pi S10 21 17 ((zb_i S10 21 17) + 1)) (fun S11 : zb_S =>
          some (zb_i S11 21 17, S11))) else none) else none) else none))))
set_option maxHeartbeats 4000000 in
set_option maxRecDepth 100000 in
theorem gX6_see_0 {l : Launch} {G : zb_G} (N : Nat) (S : zb_S) (a1 : Int32) (a2 : Int32) (a3 : Int32) : zb_Go zb_eI l G 1 RX6 cX6_see 4 (some .int) 0 [(0, .ref (zb_ad G 21)), (1, .int a1), (2, .int a2), (3, .int a3)] [] S (fX6_see_0 N S a1 a2 a3) := by
  unfold fX6_see_0
  refine zg_aload_n 0 dX6_see_0 rfl rfl ?_
  refine zg_iconst (v := 0) dX6_see_1 (by decide) ?_
  refine zp_X6_0 rfl zw_114 dX6_see_2 (fun S1 => ?_)
  refine zg_iload_n 1 dX6_see_5 rfl rfl ?_
  refine zg_i2l dX6_see_6 ?_
  refine zg_lconst (v := 0) dX6_see_7 (by decide) ?_
  refine zg_ldc2 zw_639 dX6_see_8 ?_
  refine zg_callSI (As := [.long (Int32.toInt64 a1), .long 0, .long 30]) (rest := []) 3 (zcX6_in N S1 (Int32.toInt64 a1) 0 30) (by decide) (by decide) zw_117 zw_118 zw_5 zw_119 (by decide +kernel) rfl rfl (Nat.le_of_ble_eq_true rfl) dX6_see_11 (fun r3 S2 => ?_)
  refine zg_if_eq 39 dX6_see_14 (by decide) ?_ ?_
  · refine zg_bipush (v := (-2)) dX6_see_39 (by decide) ?_
    exact zg_iret rfl dX6_see_41
  · refine zg_iload_n 2 dX6_see_17 rfl rfl ?_
    refine zg_i2l dX6_see_18 ?_
    refine zg_lconst (v := 0) dX6_see_19 (by decide) ?_
    refine zg_ldc2 zw_463 dX6_see_20 ?_
    refine zg_callSI (As := [.long (Int32.toInt64 a2), .long 0, .long 99]) (rest := []) 3 (zcX6_in N S2 (Int32.toInt64 a2) 0 99) (by decide) (by decide) zw_117 zw_118 zw_5 zw_119 (by decide +kernel) rfl rfl (Nat.le_of_ble_eq_true rfl) dX6_see_23 (fun r5 S4 => ?_)
    refine zg_if_eq 39 dX6_see_26 (by decide) ?_ ?_
    · refine zg_bipush (v := (-2)) dX6_see_39 (by decide) ?_
      exact zg_iret rfl dX6_see_41
    · refine zg_iload_n 3 dX6_see_29 rfl rfl ?_
      refine zg_i2l dX6_see_30 ?_
      refine zg_lconst (v := 0) dX6_see_31 (by decide) ?_
      refine zg_lconst (v := 1) dX6_see_32 (by decide) ?_
      refine zg_callSI (As := [.long (Int32.toInt64 a3), .long 0, .long 1]) (rest := []) 3 (zcX6_in N S4 (Int32.toInt64 a3) 0 1) (by decide) (by decide) zw_117 zw_118 zw_5 zw_119 (by decide +kernel) rfl rfl (Nat.le_of_ble_eq_true rfl) dX6_see_33 (fun r7 S6 => ?_)
      refine zg_if_ne 42 dX6_see_36 (by decide) ?_ ?_
      · refine zg_aload_n 0 dX6_see_42 rfl rfl ?_
        refine zq_X6_17 rfl zw_640 dX6_see_43 ?_
        refine zg_bipush (v := 6) dX6_see_46 (by decide) ?_
        refine zg_icmp_ne 54 dX6_see_48 (by decide) ?_ ?_
        · refine zg_aload_n 0 dX6_see_54 rfl rfl ?_
          refine zq_X6_18 rfl rfl zw_98 dX6_see_55 ?_
          refine zg_aload_n 0 dX6_see_58 rfl rfl ?_
          refine zq_X6_17 rfl zw_640 dX6_see_59 ?_
          refine zg_iload_n 1 dX6_see_62 rfl rfl ?_
          refine zg_iast rfl dX6_see_63 (fun S8 => ?_)
          refine zg_aload_n 0 dX6_see_64 rfl rfl ?_
          refine zq_X6_19 rfl rfl zw_99 dX6_see_65 ?_
          refine zg_aload_n 0 dX6_see_68 rfl rfl ?_
          refine zq_X6_17 rfl zw_640 dX6_see_69 ?_
          refine zg_iload_n 2 dX6_see_72 rfl rfl ?_
          refine zg_iast rfl dX6_see_73 (fun S9 => ?_)
          refine zg_aload_n 0 dX6_see_74 rfl rfl ?_
          refine zq_X6_20 rfl rfl zw_100 dX6_see_75 ?_
          refine zg_aload_n 0 dX6_see_78 rfl rfl ?_
          refine zq_X6_17 rfl zw_640 dX6_see_79 ?_
          refine zg_iload_n 3 dX6_see_82 rfl rfl ?_
          refine zg_iast rfl dX6_see_83 (fun S10 => ?_)
          refine zg_aload_n 0 dX6_see_84 rfl rfl ?_
          refine zg_dup dX6_see_85 rfl ?_
          refine zq_X6_17 rfl zw_640 dX6_see_86 ?_
          refine zg_iconst (v := 1) dX6_see_89 (by decide) ?_
          refine zg_iadd dX6_see_90 ?_
          refine zp_X6_17 rfl zw_640 dX6_see_91 (fun S11 => ?_)
          refine zg_aload_n 0 dX6_see_94 rfl rfl ?_
          refine zq_X6_17 rfl zw_640 dX6_see_95 ?_
          exact zg_iret rfl dX6_see_98
        · refine zg_bipush (v := (-4)) dX6_see_51 (by decide) ?_
          exact zg_iret rfl dX6_see_53
      · refine zg_bipush (v := (-2)) dX6_see_39 (by decide) ?_
        exact zg_iret rfl dX6_see_41
def fX6_see (N : Nat) (S : zb_S) (a1 : Int32) (a2 : Int32) (a3 : Int32) : Option (Int32 × zb_S) := fX6_see_0 N S a1 a2 a3
theorem zcX6_see {l : Launch} {G : zb_G} (N : Nat) (S : zb_S) (a1 : Int32) (a2 : Int32) (a3 : Int32) : zb_C zb_eI l G 1 yX6_see cX6_see 4 (some .int) [.ref (zb_ad G 21), .int a1, .int a2, .int a3] S (fX6_see N S a1 a2 a3) :=
  zb_C.of (by decide +kernel) rfl (Nat.le_of_ble_eq_true rfl) rfl (gX6_see_0 N S a1 a2 a3)
-- X6_unsee
def fX6_unsee_0 (N : Nat) (S : zb_S) : Option (Int32 × zb_S) :=
  zb_let (zb_pi S 21 0 0) (fun S1 : zb_S =>
  zb_let (zb_i S1 21 17) (fun x2 : Int32 =>
  zb_let (zb_pi S1 21 17 0) (fun S3 : zb_S =>
  some (x2, S3))))
set_option maxHeartbeats 4000000 in
set_option maxRecDepth 100000 in
theorem gX6_unsee_0 {l : Launch} {G : zb_G} (N : Nat) (S : zb_S) : zb_Go zb_eI l G 0 RX6 cX6_unsee 2 (some .int) 0 [(0, .ref (zb_ad G 21))] [] S (fX6_unsee_0 N S) := by
  unfold fX6_unsee_0
  refine zg_aload_n 0 dX6_unsee_0 rfl rfl ?_
  refine zg_iconst (v := 0) dX6_unsee_1 (by decide) ?_
  refine zp_X6_0 rfl zw_114 dX6_unsee_2 (fun S1 => ?_)
  refine zg_aload_n 0 dX6_unsee_5 rfl rfl ?_
  refine zq_X6_17 rfl zw_640 dX6_unsee_6 ?_
  refine zg_istore_nL (fun x2 => [(1, .int x2), (0, .ref (zb_ad G 21))]) dX6_unsee_9 rfl (by decide) (fun _ => rfl) (fun x2 => ?_)
  refine zg_aload_n 1 dX6_unsee_10 rfl rfl ?_
  refine zg_iconst (v := 0) dX6_unsee_11 (by decide) ?_
  refine zp_X6_17 rfl zw_640 dX6_unsee_12 (fun S3 => ?_)
  refine zg_iload_n 0 dX6_unsee_15 rfl rfl ?_
  exact zg_iret rfl dX6_unsee_16
def fX6_unsee (N : Nat) (S : zb_S) : Option (Int32 × zb_S) := fX6_unsee_0 N S
theorem zcX6_unsee {l : Launch} {G : zb_G} (N : Nat) (S : zb_S) : zb_C zb_eI l G 0 yX6_unsee cX6_unsee 2 (some .int) [.ref (zb_ad G 21)] S (fX6_unsee N S) :=
  zb_C.of (by decide +kernel) rfl (Nat.le_of_ble_eq_true rfl) rfl (gX6_unsee_0 N S)
-- X6_isSo
def fX6_isSo_66 (N : Nat) (S : zb_S) (s0 : Int32) (s1 : Int32) : Option (Int32 × zb_S) :=
  if s1 = s0 then
    if (1 : Int32) = 0 ∨ (1 : Int32) = 1 then some (1, S) else none
  else
    if (0 : Int32) = 0 ∨ (0 : Int32) = 1 then some (0, S) else none
set_option maxHeartbeats 4000000 in
set_option maxRecDepth 100000 in
theorem gX6_isSo_66 {l : Launch} {G : zb_G} (N : Nat) (S : zb_S) (s0 : Int32) (s1 : Int32) : zb_Go zb_eI l G 6 RX6 cX6_isSo 3 (some .boolean) 66 [] [.int s0, .int s1] S (fX6_isSo_66 N S s0 s1) := by
  unfold fX6_isSo_66
  refine zg_icmp_ne 73 dX6_isSo_66 (by decide) ?_ ?_
  · refine zg_iconst (v := 0) dX6_isSo_73 (by decide) ?_
    exact zg_zret rfl dX6_isSo_74
  · refine zg_iconst (v := 1) dX6_isSo_69 (by decide) ?_
    refine zg_goto (tgt := 74) dX6_isSo_70 (by decide) ?_
    exact zg_zret rfl dX6_isSo_74
def fX6_isSo_51 (N : Nat) (S : zb_S) (l2 : Int32) (s0 : Int32) : Option (Int32 × zb_S) :=
  if zb_in l2 (zb_sz 31) then
  if (zb_a S 31 (Int32.toNatClampNeg l2)) = 1 then
    fX6_isSo_66 N S 1 s0
  else
    fX6_isSo_66 N S 0 s0 else none
set_option maxHeartbeats 4000000 in
set_option maxRecDepth 100000 in
theorem gX6_isSo_51 {l : Launch} {G : zb_G} (N : Nat) (S : zb_S) (l2 : Int32) (s0 : Int32) : zb_Go zb_eI l G 6 RX6 cX6_isSo 3 (some .boolean) 51 [(0, .ref (zb_ad G 21)), (2, .int l2)] [.int s0] S (fX6_isSo_51 N S l2 s0) := by
  unfold fX6_isSo_51
  refine zg_aload_n 0 dX6_isSo_51 rfl rfl ?_
  refine zq_X6_20 rfl rfl zw_100 dX6_isSo_52 ?_
  refine zg_iload_n 1 dX6_isSo_55 rfl rfl ?_
  refine zg_iald rfl dX6_isSo_56 ?_
  refine zg_iconst (v := 1) dX6_isSo_57 (by decide) ?_
  refine zg_icmp_ne 65 dX6_isSo_58 (by decide) ?_ ?_
  · refine zg_iconst (v := 0) dX6_isSo_65 (by decide) ?_
    refine zg_sub [] rfl ?_
    exact gX6_isSo_66 N S 0 s0
  · refine zg_iconst (v := 1) dX6_isSo_61 (by decide) ?_
    refine zg_goto (tgt := 66) dX6_isSo_62 (by decide) ?_
    refine zg_sub [] rfl ?_
    exact gX6_isSo_66 N S 1 s0
def fX6_isSo_0 (N : Nat) (S : zb_S) (a1 : Int32) (a2 : Int32) : Option (Int32 × zb_S) :=
  zb_bind (fX6_layTrial N S) (fun _ S1 =>
  if zb_in ((6 * a1) + 1) (zb_sz 25) then zb_let (zb_pa S1 25 (Int32.toNatClampNeg ((6 * a1) + 1)) 1) (fun S3 : zb_S =>
  if zb_in a2 (zb_sz 29) then
  zb_bind (fX6_stepsOn N 25 S3 (zb_a S3 29 (Int32.toNatClampNeg a2))) (fun _ S4 =>
  if zb_in 77 (zb_sz 25) then
  if zb_in a2 (zb_sz 30) then
  if (zb_a S4 25 (Int32.toNatClampNeg 77)) = (zb_a S4 30 (Int32.toNatClampNeg a2)) then
    fX6_isSo_51 N S4 a2 1
  else
    fX6_isSo_51 N S4 a2 0 else none else none) else none) else none)
set_option maxHeartbeats 4000000 in
set_option maxRecDepth 100000 in
theorem gX6_isSo_0 {l : Launch} {G : zb_G} (N : Nat) (S : zb_S) (a1 : Int32) (a2 : Int32) : zb_Go zb_eI l G 6 RX6 cX6_isSo 3 (some .boolean) 0 [(0, .ref (zb_ad G 21)), (1, .int a1), (2, .int a2)] [] S (fX6_isSo_0 N S a1 a2) := by
  unfold fX6_isSo_0
  refine zg_aload_n 0 dX6_isSo_0 rfl rfl ?_
  refine zg_callVV (As := []) (rest := []) 0 (zcX6_layTrial N S) (by decide) (by decide) rfl (by decide) rfl zw_542 zw_543 zw_544 zw_5 zw_545 (by decide +kernel) rfl rfl (Nat.le_of_ble_eq_true rfl) dX6_isSo_1 (fun S1 => ?_)
  refine zg_aload_n 0 dX6_isSo_4 rfl rfl ?_
  refine zq_X6_12 rfl rfl zw_93 dX6_isSo_5 ?_
  refine zg_bipush (v := 6) dX6_isSo_8 (by decide) ?_
  refine zg_iload_n 1 dX6_isSo_10 rfl rfl ?_
  refine zg_imul dX6_isSo_11 ?_
  refine zg_iconst (v := 1) dX6_isSo_12 (by decide) ?_
  refine zg_iadd dX6_isSo_13 ?_
  refine zg_iconst (v := 1) dX6_isSo_14 (by decide) ?_
  refine zg_iast rfl dX6_isSo_15 (fun S3 => ?_)
  refine zg_aload_n 0 dX6_isSo_16 rfl rfl ?_
  refine zg_aload_n 0 dX6_isSo_17 rfl rfl ?_
  refine zq_X6_12 rfl rfl zw_93 dX6_isSo_18 ?_
  refine zg_aload_n 0 dX6_isSo_21 rfl rfl ?_
  refine zq_X6_18 rfl rfl zw_98 dX6_isSo_22 ?_
  refine zg_iload_n 2 dX6_isSo_25 rfl rfl ?_
  refine zg_iald rfl dX6_isSo_26 ?_
  refine zg_callVV (As := [.ref (zb_ad G 25), .int (zb_a S3 29 (Int32.toNatClampNeg a2))]) (rest := []) 2 (zcX6_stepsOn N 25 rfl S3 (zb_a S3 29 (Int32.toNatClampNeg a2))) (by decide) (by decide) rfl (by decide) rfl zw_464 zw_465 zw_466 zw_5 zw_467 (by decide +kernel) rfl rfl (Nat.le_of_ble_eq_true rfl) dX6_isSo_27 (fun S4 => ?_)
  refine zg_aload_n 0 dX6_isSo_30 rfl rfl ?_
  refine zq_X6_12 rfl rfl zw_93 dX6_isSo_31 ?_
  refine zg_bipush (v := 77) dX6_isSo_34 (by decide) ?_
  refine zg_iald rfl dX6_isSo_36 ?_
  refine zg_aload_n 0 dX6_isSo_37 rfl rfl ?_
  refine zq_X6_19 rfl rfl zw_99 dX6_isSo_38 ?_
  refine zg_iload_n 2 dX6_isSo_41 rfl rfl ?_
  refine zg_iald rfl dX6_isSo_42 ?_
  refine zg_icmp_ne 50 dX6_isSo_43 (by decide) ?_ ?_
  · refine zg_iconst (v := 0) dX6_isSo_50 (by decide) ?_
    refine zg_sub [0, 2] rfl ?_
    exact gX6_isSo_51 N S4 a2 0
  · refine zg_iconst (v := 1) dX6_isSo_46 (by decide) ?_
    refine zg_goto (tgt := 51) dX6_isSo_47 (by decide) ?_
    refine zg_sub [0, 2] rfl ?_
    exact gX6_isSo_51 N S4 a2 1
def fX6_isSo (N : Nat) (S : zb_S) (a1 : Int32) (a2 : Int32) : Option (Int32 × zb_S) := fX6_isSo_0 N S a1 a2
theorem zcX6_isSo {l : Launch} {G : zb_G} (N : Nat) (S : zb_S) (a1 : Int32) (a2 : Int32) : zb_C zb_eI l G 6 yX6_isSo cX6_isSo 3 (some .boolean) [.ref (zb_ad G 21), .int a1, .int a2] S (fX6_isSo N S a1 a2) :=
  zb_C.of (by decide +kernel) rfl (Nat.le_of_ble_eq_true rfl) rfl (gX6_isSo_0 N S a1 a2)
-- X6_which
def fX6_which_68 (N : Nat) (k9 : zb_S → Int32 → Int32 → Option (Int32 × zb_S)) (k40 : zb_S → Int32 → Int32 → Int32 → Int32 → Option (Int32 × zb_S)) (S : zb_S) (l1 : Int32) (l2 : Int32) (l4 : Int32) (s0 : Int32) : Option (Int32 × zb_S) :=
  zb_let (l4 + 1) (fun x1 : Int32 =>
  k40 S l1 l2 s0 x1)
set_option maxHeartbeats 4000000 in
set_option maxRecDepth 100000 in
theorem gX6_which_68 {l : Launch} {G : zb_G} (N : Nat) (k9 : zb_S → Int32 → Int32 → Option (Int32 × zb_S)) (hk9 : ∀ (S : zb_S) (l1 : Int32) (l2 : Int32), zb_Go zb_eI l G 7 RX6 cX6_which 5 (some .int) 9 [(0, .ref (zb_ad G 21)), (1, .int l1), (2, .int l2)] [] S (k9 S l1 l2)) (k40 : zb_S → Int32 → Int32 → Int32 → Int32 → Option (Int32 × zb_S)) (hk40 : ∀ (S : zb_S) (l1 : Int32) (l2 : Int32) (l3 : Int32) (l4 : Int32), zb_Go zb_eI l G 7 RX6 cX6_which 5 (some .int) 40 [(0, .ref (zb_ad G 21)), (1, .int l1), (2, .int l2), (3, .int l3), (4, .int l4)] [] S (k40 S l1 l2 l3 l4)) (S : zb_S) (l1 : Int32) (l2 : Int32) (l4 : Int32) (s0 : Int32) : zb_Go zb_eI l G 7 RX6 cX6_which 5 (some .int) 68 [(0, .ref (zb_ad G 21)), (1, .int l1), (2, .int l2), (4, .int l4)] [.int s0] S (fX6_which_68 N k9 k40 S l1 l2 l4 s0) := by
  unfold fX6_which_68
  refine zg_istore_n (lv' := [(3, .int s0), (0, .ref (zb_ad G 21)), (1, .int l1), (2, .int l2), (4, .int l4)]) dX6_which_68 rfl (by decide) rfl ?_
  refine zg_iincL (fun x1 => [(4, .int x1), (3, .int s0), (0, .ref (zb_ad G 21)), (1, .int l1), (2, .int l2)]) 4 dX6_which_69 rfl rfl (by decide) (fun _ => rfl) (fun x1 => ?_)
  refine zg_goto (tgt := 40) dX6_which_72 (by decide) ?_
  refine zg_sub [2, 3, 4, 1, 0] rfl ?_
  exact hk40 S l1 l2 s0 x1
def fX6_which_67 (N : Nat) (k9 : zb_S → Int32 → Int32 → Option (Int32 × zb_S)) (k40 : zb_S → Int32 → Int32 → Int32 → Int32 → Option (Int32 × zb_S)) (S : zb_S) (l1 : Int32) (l2 : Int32) (l4 : Int32) : Option (Int32 × zb_S) :=
  fX6_which_68 N k9 k40 S l1 l2 l4 0
set_option maxHeartbeats 4000000 in
set_option maxRecDepth 100000 in
theorem gX6_which_67 {l : Launch} {G : zb_G} (N : Nat) (k9 : zb_S → Int32 → Int32 → Option (Int32 × zb_S)) (hk9 : ∀ (S : zb_S) (l1 : Int32) (l2 : Int32), zb_Go zb_eI l G 7 RX6 cX6_which 5 (some .int) 9 [(0, .ref (zb_ad G 21)), (1, .int l1), (2, .int l2)] [] S (k9 S l1 l2)) (k40 : zb_S → Int32 → Int32 → Int32 → Int32 → Option (Int32 × zb_S)) (hk40 : ∀ (S : zb_S) (l1 : Int32) (l2 : Int32) (l3 : Int32) (l4 : Int32), zb_Go zb_eI l G 7 RX6 cX6_which 5 (some .int) 40 [(0, .ref (zb_ad G 21)), (1, .int l1), (2, .int l2), (3, .int l3), (4, .int l4)] [] S (k40 S l1 l2 l3 l4)) (S : zb_S) (l1 : Int32) (l2 : Int32) (l4 : Int32) : zb_Go zb_eI l G 7 RX6 cX6_which 5 (some .int) 67 [(0, .ref (zb_ad G 21)), (1, .int l1), (2, .int l2), (4, .int l4)] [] S (fX6_which_67 N k9 k40 S l1 l2 l4) := by
  unfold fX6_which_67
  refine zg_iconst (v := 0) dX6_which_67 (by decide) ?_
  exact gX6_which_68 N k9 hk9 k40 hk40 S l1 l2 l4 0
def fX6_which_87 (N : Nat) (k9 : zb_S → Int32 → Int32 → Option (Int32 × zb_S)) (S : zb_S) (l2 : Int32) (s0 : Int32) (s1 : Int32) : Option (Int32 × zb_S) :=
  zb_let (s1 ||| s0) (fun x1 : Int32 =>
  zb_let (l2 + 1) (fun x2 : Int32 =>
  k9 S x1 x2))
set_option maxHeartbeats 4000000 in
set_option maxRecDepth 100000 in
theorem gX6_which_87 {l : Launch} {G : zb_G} (N : Nat) (k9 : zb_S → Int32 → Int32 → Option (Int32 × zb_S)) (hk9 : ∀ (S : zb_S) (l1 : Int32) (l2 : Int32), zb_Go zb_eI l G 7 RX6 cX6_which 5 (some .int) 9 [(0, .ref (zb_ad G 21)), (1, .int l1), (2, .int l2)] [] S (k9 S l1 l2)) (S : zb_S) (l2 : Int32) (s0 : Int32) (s1 : Int32) : zb_Go zb_eI l G 7 RX6 cX6_which 5 (some .int) 87 [(0, .ref (zb_ad G 21)), (2, .int l2)] [.int s0, .int s1] S (fX6_which_87 N k9 S l2 s0 s1) := by
  unfold fX6_which_87
  refine zg_ior dX6_which_87 ?_
  refine zg_istore_nL (fun x1 => [(1, .int x1), (0, .ref (zb_ad G 21)), (2, .int l2)]) dX6_which_88 rfl (by decide) (fun _ => rfl) (fun x1 => ?_)
  refine zg_iincL (fun x2 => [(2, .int x2), (1, .int x1), (0, .ref (zb_ad G 21))]) 2 dX6_which_89 rfl rfl (by decide) (fun _ => rfl) (fun x2 => ?_)
  refine zg_goto (tgt := 9) dX6_which_92 (by decide) ?_
  refine zg_sub [2, 1, 0] rfl ?_
  exact hk9 S x1 x2
def fX6_which_40b (N : Nat) (k9 : zb_S → Int32 → Int32 → Option (Int32 × zb_S)) (k40 : zb_S → Int32 → Int32 → Int32 → Int32 → Option (Int32 × zb_S)) (S : zb_S) (l1 : Int32) (l2 : Int32) (l3 : Int32) (l4 : Int32) : Option (Int32 × zb_S) :=
  if (zb_i S 21 17) ≤ l4 then
    if l3 = 0 then
      fX6_which_87 N k9 S l2 0 l1
    else
      fX6_which_87 N k9 S l2 ((1 : Int32) <<< (l2 &&& 31)) l1
  else
    if l3 = 0 then
      fX6_which_67 N k9 k40 S l1 l2 l4
    else
      zb_bind (fX6_isSo N S l2 l4) (fun r2 S1 =>
      if r2 = 0 then
        fX6_which_67 N k9 k40 S1 l1 l2 l4
      else
        fX6_which_68 N k9 k40 S1 l1 l2 l4 1)
set_option maxHeartbeats 4000000 in
set_option maxRecDepth 100000 in
theorem gX6_which_40b {l : Launch} {G : zb_G} (N : Nat) (k9 : zb_S → Int32 → Int32 → Option (Int32 × zb_S)) (hk9 : ∀ (S : zb_S) (l1 : Int32) (l2 : Int32), zb_Go zb_eI l G 7 RX6 cX6_which 5 (some .int) 9 [(0, .ref (zb_ad G 21)), (1, .int l1), (2, .int l2)] [] S (k9 S l1 l2)) (k40 : zb_S → Int32 → Int32 → Int32 → Int32 → Option (Int32 × zb_S)) (hk40 : ∀ (S : zb_S) (l1 : Int32) (l2 : Int32) (l3 : Int32) (l4 : Int32), zb_Go zb_eI l G 7 RX6 cX6_which 5 (some .int) 40 [(0, .ref (zb_ad G 21)), (1, .int l1), (2, .int l2), (3, .int l3), (4, .int l4)] [] S (k40 S l1 l2 l3 l4)) (S : zb_S) (l1 : Int32) (l2 : Int32) (l3 : Int32) (l4 : Int32) : zb_Go zb_eI l G 7 RX6 cX6_which 5 (some .int) 40 [(0, .ref (zb_ad G 21)), (1, .int l1), (2, .int l2), (3, .int l3), (4, .int l4)] [] S (fX6_which_40b N k9 k40 S l1 l2 l3 l4) := by
  unfold fX6_which_40b
  refine zg_iload 4 dX6_which_40 rfl ?_
  refine zg_aload_n 0 dX6_which_42 rfl rfl ?_
  refine zq_X6_17 rfl zw_640 dX6_which_43 ?_
  refine zg_icmp_ge 75 dX6_which_46 (by decide) ?_ ?_
  · refine zg_iload_n 1 dX6_which_75 rfl rfl ?_
    refine zg_iload_n 3 dX6_which_76 rfl rfl ?_
    refine zg_if_eq 86 dX6_which_77 (by decide) ?_ ?_
    · refine zg_iconst (v := 0) dX6_which_86 (by decide) ?_
      refine zg_sub [0, 2] rfl ?_
      exact gX6_which_87 N k9 hk9 S l2 0 l1
    · refine zg_iconst (v := 1) dX6_which_80 (by decide) ?_
      refine zg_iload_n 2 dX6_which_81 rfl rfl ?_
      refine zg_ishl dX6_which_82 ?_
      refine zg_goto (tgt := 87) dX6_which_83 (by decide) ?_
      refine zg_sub [0, 2] rfl ?_
      exact gX6_which_87 N k9 hk9 S l2 ((1 : Int32) <<< (l2 &&& 31)) l1
  · refine zg_iload_n 3 dX6_which_49 rfl rfl ?_
    refine zg_if_eq 67 dX6_which_50 (by decide) ?_ ?_
    · refine zg_sub [0, 1, 2, 4] rfl ?_
      exact gX6_which_67 N k9 hk9 k40 hk40 S l1 l2 l4
    · refine zg_aload_n 0 dX6_which_53 rfl rfl ?_
      refine zg_iload_n 2 dX6_which_54 rfl rfl ?_
      refine zg_iload 4 dX6_which_55 rfl ?_
      refine zg_callVI (As := [.int l2, .int l4]) (rest := []) 2 (zcX6_isSo N S l2 l4) (by decide) (by decide) rfl (by decide) rfl zw_672 zw_673 zw_674 zw_5 zw_675 (by decide +kernel) rfl rfl (Nat.le_of_ble_eq_true rfl) dX6_which_57 (fun r2 S1 => ?_)
      refine zg_if_eq 67 dX6_which_60 (by decide) ?_ ?_
      · refine zg_sub [0, 1, 2, 4] rfl ?_
        exact gX6_which_67 N k9 hk9 k40 hk40 S1 l1 l2 l4
      · refine zg_iconst (v := 1) dX6_which_63 (by decide) ?_
        refine zg_goto (tgt := 68) dX6_which_64 (by decide) ?_
        refine zg_sub [0, 1, 2, 4] rfl ?_
        exact gX6_which_68 N k9 hk9 k40 hk40 S1 l1 l2 l4 1
def fX6_which_40 (N : Nat) (k9 : zb_S → Int32 → Int32 → Option (Int32 × zb_S)) : Nat → zb_S → Int32 → Int32 → Int32 → Int32 → Option (Int32 × zb_S)
  | 0, _, _, _, _, _ => none
  | n + 1, S, l1, l2, l3, l4 => fX6_which_40b N k9 (fX6_which_40 N k9 n) S l1 l2 l3 l4
set_option maxHeartbeats 4000000 in
set_option maxRecDepth 100000 in
theorem gX6_which_40 {l : Launch} {G : zb_G} (N : Nat) (k9 : zb_S → Int32 → Int32 → Option (Int32 × zb_S)) (hk9 : ∀ (S : zb_S) (l1 : Int32) (l2 : Int32), zb_Go zb_eI l G 7 RX6 cX6_which 5 (some .int) 9 [(0, .ref (zb_ad G 21)), (1, .int l1), (2, .int l2)] [] S (k9 S l1 l2)) : ∀ (n : Nat) (S : zb_S) (l1 : Int32) (l2 : Int32) (l3 : Int32) (l4 : Int32), zb_Go zb_eI l G 7 RX6 cX6_which 5 (some .int) 40 [(0, .ref (zb_ad G 21)), (1, .int l1), (2, .int l2), (3, .int l3), (4, .int l4)] [] S (fX6_which_40 N k9 n S l1 l2 l3 l4) := by
  intro n
  induction n with
  | zero => intros; exact zg_none
  | succ n ih =>
    intro S l1 l2 l3 l4
    exact gX6_which_40b N k9 hk9 (fX6_which_40 N k9 n) ih S l1 l2 l3 l4
def fX6_which_36 (N : Nat) (k9 : zb_S → Int32 → Int32 → Option (Int32 × zb_S)) (S : zb_S) (l1 : Int32) (l2 : Int32) (s0 : Int32) : Option (Int32 × zb_S) :=
  fX6_which_40 N k9 N S l1 l2 s0 0
set_option maxHeartbeats 4000000 in
set_option maxRecDepth 100000 in
theorem gX6_which_36 {l : Launch} {G : zb_G} (N : Nat) (k9 : zb_S → Int32 → Int32 → Option (Int32 × zb_S)) (hk9 : ∀ (S : zb_S) (l1 : Int32) (l2 : Int32), zb_Go zb_eI l G 7 RX6 cX6_which 5 (some .int) 9 [(0, .ref (zb_ad G 21)), (1, .int l1), (2, .int l2)] [] S (k9 S l1 l2)) (S : zb_S) (l1 : Int32) (l2 : Int32) (s0 : Int32) : zb_Go zb_eI l G 7 RX6 cX6_which 5 (some .int) 36 [(0, .ref (zb_ad G 21)), (1, .int l1), (2, .int l2)] [.int s0] S (fX6_which_36 N k9 S l1 l2 s0) := by
  unfold fX6_which_36
  refine zg_istore_n (lv' := [(3, .int s0), (0, .ref (zb_ad G 21)), (1, .int l1), (2, .int l2)]) dX6_which_36 rfl (by decide) rfl ?_
  refine zg_iconst (v := 0) dX6_which_37 (by decide) ?_
  refine zg_istore (lv' := [(4, .int 0), (3, .int s0), (0, .ref (zb_ad G 21)), (1, .int l1), (2, .int l2)]) dX6_which_38 (by decide) rfl ?_
  refine zg_sub [2, 3, 4, 1, 0] rfl ?_
  exact gX6_which_40 N k9 hk9 N S l1 l2 s0 0
def fX6_which_9b (N : Nat) (k9 : zb_S → Int32 → Int32 → Option (Int32 × zb_S)) (S : zb_S) (l1 : Int32) (l2 : Int32) : Option (Int32 × zb_S) :=
  zb_bind (fX6_zones N S) (fun r2 S1 =>
  if r2 ≤ l2 then
    some (l1, S1)
  else
    if zb_in ((6 * l2) + 1) (zb_sz 24) then
    if (zb_a S1 24 (Int32.toNatClampNeg ((6 * l2) + 1))) = 0 then
      fX6_which_36 N k9 S1 l1 l2 1
    else
      fX6_which_36 N k9 S1 l1 l2 0 else none)
set_option maxHeartbeats 4000000 in
set_option maxRecDepth 100000 in
theorem gX6_which_9b {l : Launch} {G : zb_G} (N : Nat) (k9 : zb_S → Int32 → Int32 → Option (Int32 × zb_S)) (hk9 : ∀ (S : zb_S) (l1 : Int32) (l2 : Int32), zb_Go zb_eI l G 7 RX6 cX6_which 5 (some .int) 9 [(0, .ref (zb_ad G 21)), (1, .int l1), (2, .int l2)] [] S (k9 S l1 l2)) (S : zb_S) (l1 : Int32) (l2 : Int32) : zb_Go zb_eI l G 7 RX6 cX6_which 5 (some .int) 9 [(0, .ref (zb_ad G 21)), (1, .int l1), (2, .int l2)] [] S (fX6_which_9b N k9 S l1 l2) := by
  unfold fX6_which_9b
  refine zg_iload_n 2 dX6_which_9 rfl rfl ?_
  refine zg_aload_n 0 dX6_which_10 rfl rfl ?_
  refine zg_callVI (As := []) (rest := [.int l2]) 0 (zcX6_zones N S) (by decide) (by decide) rfl (by decide) rfl zw_220 zw_221 zw_222 zw_5 zw_223 (by decide +kernel) rfl rfl (Nat.le_of_ble_eq_true rfl) dX6_which_11 (fun r2 S1 => ?_)
  refine zg_icmp_ge 95 dX6_which_14 (by decide) ?_ ?_
  · refine zg_iload_n 1 dX6_which_95 rfl rfl ?_
    exact zg_iret rfl dX6_which_96
  · refine zg_aload_n 0 dX6_which_17 rfl rfl ?_
    refine zq_X6_11 rfl rfl zw_92 dX6_which_18 ?_
    refine zg_bipush (v := 6) dX6_which_21 (by decide) ?_
    refine zg_iload_n 2 dX6_which_23 rfl rfl ?_
    refine zg_imul dX6_which_24 ?_
    refine zg_iconst (v := 1) dX6_which_25 (by decide) ?_
    refine zg_iadd dX6_which_26 ?_
    refine zg_iald rfl dX6_which_27 ?_
    refine zg_if_ne 35 dX6_which_28 (by decide) ?_ ?_
    · refine zg_iconst (v := 0) dX6_which_35 (by decide) ?_
      exact gX6_which_36 N k9 hk9 S1 l1 l2 0
    · refine zg_iconst (v := 1) dX6_which_31 (by decide) ?_
      refine zg_goto (tgt := 36) dX6_which_32 (by decide) ?_
      exact gX6_which_36 N k9 hk9 S1 l1 l2 1
def fX6_which_9 (N : Nat) : Nat → zb_S → Int32 → Int32 → Option (Int32 × zb_S)
  | 0, _, _, _ => none
  | n + 1, S, l1, l2 => fX6_which_9b N (fX6_which_9 N n) S l1 l2
set_option maxHeartbeats 4000000 in
set_option maxRecDepth 100000 in
theorem gX6_which_9 {l : Launch} {G : zb_G} (N : Nat) : ∀ (n : Nat) (S : zb_S) (l1 : Int32) (l2 : Int32), zb_Go zb_eI l G 7 RX6 cX6_which 5 (some .int) 9 [(0, .ref (zb_ad G 21)), (1, .int l1), (2, .int l2)] [] S (fX6_which_9 N n S l1 l2) := by
  intro n
  induction n with
  | zero => intros; exact zg_none
  | succ n ih =>
    intro S l1 l2
    exact gX6_which_9b N (fX6_which_9 N n) ih S l1 l2
def fX6_which_0 (N : Nat) (S : zb_S) : Option (Int32 × zb_S) :=
  zb_let (zb_pi S 21 0 0) (fun S1 : zb_S =>
  fX6_which_9 N N S1 0 0)
set_option maxHeartbeats 4000000 in
set_option maxRecDepth 100000 in
theorem gX6_which_0 {l : Launch} {G : zb_G} (N : Nat) (S : zb_S) : zb_Go zb_eI l G 7 RX6 cX6_which 5 (some .int) 0 [(0, .ref (zb_ad G 21))] [] S (fX6_which_0 N S) := by
  unfold fX6_which_0
  refine zg_aload_n 0 dX6_which_0 rfl rfl ?_
  refine zg_iconst (v := 0) dX6_which_1 (by decide) ?_
  refine zp_X6_0 rfl zw_114 dX6_which_2 (fun S1 => ?_)
  refine zg_iconst (v := 0) dX6_which_5 (by decide) ?_
  refine zg_istore_n (lv' := [(1, .int 0), (0, .ref (zb_ad G 21))]) dX6_which_6 rfl (by decide) rfl ?_
  refine zg_iconst (v := 0) dX6_which_7 (by decide) ?_
  refine zg_istore_n (lv' := [(2, .int 0), (1, .int 0), (0, .ref (zb_ad G 21))]) dX6_which_8 rfl (by decide) rfl ?_
  refine zg_sub [2, 1, 0] rfl ?_
  exact gX6_which_9 N N S1 0 0
def fX6_which (N : Nat) (S : zb_S) : Option (Int32 × zb_S) := fX6_which_0 N S
theorem zcX6_which {l : Launch} {G : zb_G} (N : Nat) (S : zb_S) : zb_C zb_eI l G 7 yX6_which cX6_which 5 (some .int) [.ref (zb_ad G 21)] S (fX6_which N S) :=
  zb_C.of (by decide +kernel) rfl (Nat.le_of_ble_eq_true rfl) rfl (gX6_which_0 N S)
-- X6_divisor
def fX6_divisor_13b (N : Nat) (k13 : zb_S → Int32 → Int32 → Option (Int32 × zb_S)) (S : zb_S) (l2 : Int32) (l3 : Int32) : Option (Int32 × zb_S) :=
  if l3 = 0 then
    some (l2, S)
  else
    if l3 = 0 then none else
    zb_let (l2 - l2 / l3 * l3) (fun x1 : Int32 =>
    k13 S l3 x1)
set_option maxHeartbeats 4000000 in
set_option maxRecDepth 100000 in
theorem gX6_divisor_13b {l : Launch} {G : zb_G} (N : Nat) (k13 : zb_S → Int32 → Int32 → Option (Int32 × zb_S)) (hk13 : ∀ (S : zb_S) (l2 : Int32) (l3 : Int32), zb_Go zb_eI l G 0 RX6 cX6_divisor 5 (some .int) 13 [(2, .int l2), (3, .int l3)] [] S (k13 S l2 l3)) (S : zb_S) (l2 : Int32) (l3 : Int32) : zb_Go zb_eI l G 0 RX6 cX6_divisor 5 (some .int) 13 [(2, .int l2), (3, .int l3)] [] S (fX6_divisor_13b N k13 S l2 l3) := by
  unfold fX6_divisor_13b
  refine zg_iload_n 1 dX6_divisor_13 rfl rfl ?_
  refine zg_if_eq 30 dX6_divisor_14 (by decide) ?_ ?_
  · refine zg_iload_n 0 dX6_divisor_30 rfl rfl ?_
    exact zg_iret rfl dX6_divisor_31
  · refine zg_iload_n 0 dX6_divisor_17 rfl rfl ?_
    refine zg_iload_n 1 dX6_divisor_18 rfl rfl ?_
    refine zg_irem dX6_divisor_19 (fun _ => ?_)
    refine zg_istoreL (fun x1 => [(4, .int x1), (2, .int l2), (3, .int l3)]) dX6_divisor_20 (by decide) (fun _ => rfl) (fun x1 => ?_)
    refine zg_iload_n 2 dX6_divisor_22 rfl rfl ?_
    refine zg_istore_n (lv' := [(2, .int l3), (4, .int x1), (3, .int l3)]) dX6_divisor_23 rfl (by decide) rfl ?_
    refine zg_iload 1 dX6_divisor_24 rfl ?_
    refine zg_istore_n (lv' := [(3, .int x1), (2, .int l3), (4, .int x1)]) dX6_divisor_26 rfl (by decide) rfl ?_
    refine zg_goto (tgt := 13) dX6_divisor_27 (by decide) ?_
    refine zg_sub [1, 0] rfl ?_
    exact hk13 S l3 x1
def fX6_divisor_13 (N : Nat) : Nat → zb_S → Int32 → Int32 → Option (Int32 × zb_S)
  | 0, _, _, _ => none
  | n + 1, S, l2, l3 => fX6_divisor_13b N (fX6_divisor_13 N n) S l2 l3
set_option maxHeartbeats 4000000 in
set_option maxRecDepth 100000 in
theorem gX6_divisor_13 {l : Launch} {G : zb_G} (N : Nat) : ∀ (n : Nat) (S : zb_S) (l2 : Int32) (l3 : Int32), zb_Go zb_eI l G 0 RX6 cX6_divisor 5 (some .int) 13 [(2, .int l2), (3, .int l3)] [] S (fX6_divisor_13 N n S l2 l3) := by
  intro n
  induction n with
  | zero => intros; exact zg_none
  | succ n ih =>
    intro S l2 l3
    exact gX6_divisor_13b N (fX6_divisor_13 N n) ih S l2 l3
def fX6_divisor_10 (N : Nat) (S : zb_S) (l1 : Int32) (s0 : Int32) : Option (Int32 × zb_S) :=
  fX6_divisor_13 N N S s0 l1
set_option maxHeartbeats 4000000 in
set_option maxRecDepth 100000 in
theorem gX6_divisor_10 {l : Launch} {G : zb_G} (N : Nat) (S : zb_S) (l1 : Int32) (s0 : Int32) : zb_Go zb_eI l G 0 RX6 cX6_divisor 5 (some .int) 10 [(1, .int l1)] [.int s0] S (fX6_divisor_10 N S l1 s0) := by
  unfold fX6_divisor_10
  refine zg_istore_n (lv' := [(2, .int s0), (1, .int l1)]) dX6_divisor_10 rfl (by decide) rfl ?_
  refine zg_iload_n 1 dX6_divisor_11 rfl rfl ?_
  refine zg_istore_n (lv' := [(3, .int l1), (2, .int s0), (1, .int l1)]) dX6_divisor_12 rfl (by decide) rfl ?_
  refine zg_sub [1, 0] rfl ?_
  exact gX6_divisor_13 N N S s0 l1
def fX6_divisor_0 (N : Nat) (S : zb_S) (a0 : Int32) (a1 : Int32) : Option (Int32 × zb_S) :=
  if 0 ≤ a0 then
    fX6_divisor_10 N S a1 a0
  else
    fX6_divisor_10 N S a1 (-a0)
set_option maxHeartbeats 4000000 in
set_option maxRecDepth 100000 in
theorem gX6_divisor_0 {l : Launch} {G : zb_G} (N : Nat) (S : zb_S) (a0 : Int32) (a1 : Int32) : zb_Go zb_eI l G 0 RX6 cX6_divisor 5 (some .int) 0 [(0, .int a0), (1, .int a1)] [] S (fX6_divisor_0 N S a0 a1) := by
  unfold fX6_divisor_0
  refine zg_iload_n 0 dX6_divisor_0 rfl rfl ?_
  refine zg_if_ge 9 dX6_divisor_1 (by decide) ?_ ?_
  · refine zg_iload_n 0 dX6_divisor_9 rfl rfl ?_
    refine zg_sub [1] rfl ?_
    exact gX6_divisor_10 N S a1 a0
  · refine zg_iload_n 0 dX6_divisor_4 rfl rfl ?_
    refine zg_ineg dX6_divisor_5 ?_
    refine zg_goto (tgt := 10) dX6_divisor_6 (by decide) ?_
    refine zg_sub [1] rfl ?_
    exact gX6_divisor_10 N S a1 (-a0)
def fX6_divisor (N : Nat) (S : zb_S) (a0 : Int32) (a1 : Int32) : Option (Int32 × zb_S) := fX6_divisor_0 N S a0 a1
theorem zcX6_divisor {l : Launch} {G : zb_G} (N : Nat) (S : zb_S) (a0 : Int32) (a1 : Int32) : zb_C zb_eI l G 0 yX6_divisor cX6_divisor 5 (some .int) [.int a0, .int a1] S (fX6_divisor N S a0 a1) :=
  zb_C.of (by decide +kernel) rfl (Nat.le_of_ble_eq_true rfl) rfl (gX6_divisor_0 N S a0 a1)
-- X6_fraction
def fX6_fraction_0 (N : Nat) (S : zb_S) (a0 : Int32) (a1 : Int32) (a2 : Int32) : Option (Int32 × zb_S) :=
  zb_bind (fX6_divisor N S a0 a1) (fun r2 S1 =>
  if a2 = 0 then
    if r2 = 0 then none else
    some (a1 / r2, S1)
  else
    if r2 = 0 then none else
    some (a0 / r2, S1))
set_option maxHeartbeats 4000000 in
set_option maxRecDepth 100000 in
theorem gX6_fraction_0 {l : Launch} {G : zb_G} (N : Nat) (S : zb_S) (a0 : Int32) (a1 : Int32) (a2 : Int32) : zb_Go zb_eI l G 1 RX6 cX6_fraction 4 (some .int) 0 [(0, .int a0), (1, .int a1), (2, .int a2)] [] S (fX6_fraction_0 N S a0 a1 a2) := by
  unfold fX6_fraction_0
  refine zg_iload_n 0 dX6_fraction_0 rfl rfl ?_
  refine zg_iload_n 1 dX6_fraction_1 rfl rfl ?_
  refine zg_callSI (As := [.int a0, .int a1]) (rest := []) 2 (zcX6_divisor N S a0 a1) (by decide) (by decide) zw_720 zw_721 zw_5 zw_722 (by decide +kernel) rfl rfl (Nat.le_of_ble_eq_true rfl) dX6_fraction_2 (fun r2 S1 => ?_)
  refine zg_istore_n (lv' := [(3, .int r2), (0, .int a0), (1, .int a1), (2, .int a2)]) dX6_fraction_5 rfl (by decide) rfl ?_
  refine zg_iload_n 3 dX6_fraction_6 rfl rfl ?_
  refine zg_if_eq 16 dX6_fraction_7 (by decide) ?_ ?_
  · refine zg_iload_n 2 dX6_fraction_16 rfl rfl ?_
    refine zg_iload_n 0 dX6_fraction_17 rfl rfl ?_
    refine zg_idiv dX6_fraction_18 (fun _ => ?_)
    exact zg_iret rfl dX6_fraction_19
  · refine zg_iload_n 1 dX6_fraction_10 rfl rfl ?_
    refine zg_iload_n 0 dX6_fraction_11 rfl rfl ?_
    refine zg_idiv dX6_fraction_12 (fun _ => ?_)
    refine zg_goto (tgt := 19) dX6_fraction_13 (by decide) ?_
    exact zg_iret rfl dX6_fraction_19
def fX6_fraction (N : Nat) (S : zb_S) (a0 : Int32) (a1 : Int32) (a2 : Int32) : Option (Int32 × zb_S) := fX6_fraction_0 N S a0 a1 a2
theorem zcX6_fraction {l : Launch} {G : zb_G} (N : Nat) (S : zb_S) (a0 : Int32) (a1 : Int32) (a2 : Int32) : zb_C zb_eI l G 1 yX6_fraction cX6_fraction 4 (some .int) [.int a0, .int a1, .int a2] S (fX6_fraction N S a0 a1 a2) :=
  zb_C.of (by decide +kernel) rfl (Nat.le_of_ble_eq_true rfl) rfl (gX6_fraction_0 N S a0 a1 a2)
-- X6_factorial
def fX6_factorial_4b (N : Nat) (k4 : zb_S → Int32 → Int32 → Int32 → Option (Int32 × zb_S)) (S : zb_S) (l0 : Int32) (l1 : Int32) (l2 : Int32) : Option (Int32 × zb_S) :=
  if l0 < l2 then
    some (l1, S)
  else
    zb_let (l1 * l2) (fun x1 : Int32 =>
    zb_let (l2 + 1) (fun x2 : Int32 =>
    k4 S l0 x1 x2))
set_option maxHeartbeats 4000000 in
set_option maxRecDepth 100000 in
theorem gX6_factorial_4b {l : Launch} {G : zb_G} (N : Nat) (k4 : zb_S → Int32 → Int32 → Int32 → Option (Int32 × zb_S)) (hk4 : ∀ (S : zb_S) (l0 : Int32) (l1 : Int32) (l2 : Int32), zb_Go zb_eI l G 0 RX6 cX6_factorial 3 (some .int) 4 [(0, .int l0), (1, .int l1), (2, .int l2)] [] S (k4 S l0 l1 l2)) (S : zb_S) (l0 : Int32) (l1 : Int32) (l2 : Int32) : zb_Go zb_eI l G 0 RX6 cX6_factorial 3 (some .int) 4 [(0, .int l0), (1, .int l1), (2, .int l2)] [] S (fX6_factorial_4b N k4 S l0 l1 l2) := by
  unfold fX6_factorial_4b
  refine zg_iload_n 2 dX6_factorial_4 rfl rfl ?_
  refine zg_iload_n 0 dX6_factorial_5 rfl rfl ?_
  refine zg_icmp_gt 19 dX6_factorial_6 (by decide) ?_ ?_
  · refine zg_iload_n 1 dX6_factorial_19 rfl rfl ?_
    exact zg_iret rfl dX6_factorial_20
  · refine zg_iload_n 1 dX6_factorial_9 rfl rfl ?_
    refine zg_iload_n 2 dX6_factorial_10 rfl rfl ?_
    refine zg_imul dX6_factorial_11 ?_
    refine zg_istore_nL (fun x1 => [(1, .int x1), (0, .int l0), (2, .int l2)]) dX6_factorial_12 rfl (by decide) (fun _ => rfl) (fun x1 => ?_)
    refine zg_iincL (fun x2 => [(2, .int x2), (1, .int x1), (0, .int l0)]) 2 dX6_factorial_13 rfl rfl (by decide) (fun _ => rfl) (fun x2 => ?_)
    refine zg_goto (tgt := 4) dX6_factorial_16 (by decide) ?_
    refine zg_sub [2, 1, 0] rfl ?_
    exact hk4 S l0 x1 x2
def fX6_factorial_4 (N : Nat) : Nat → zb_S → Int32 → Int32 → Int32 → Option (Int32 × zb_S)
  | 0, _, _, _, _ => none
  | n + 1, S, l0, l1, l2 => fX6_factorial_4b N (fX6_factorial_4 N n) S l0 l1 l2
set_option maxHeartbeats 4000000 in
set_option maxRecDepth 100000 in
theorem gX6_factorial_4 {l : Launch} {G : zb_G} (N : Nat) : ∀ (n : Nat) (S : zb_S) (l0 : Int32) (l1 : Int32) (l2 : Int32), zb_Go zb_eI l G 0 RX6 cX6_factorial 3 (some .int) 4 [(0, .int l0), (1, .int l1), (2, .int l2)] [] S (fX6_factorial_4 N n S l0 l1 l2) := by
  intro n
  induction n with
  | zero => intros; exact zg_none
  | succ n ih =>
    intro S l0 l1 l2
    exact gX6_factorial_4b N (fX6_factorial_4 N n) ih S l0 l1 l2
def fX6_factorial_0 (N : Nat) (S : zb_S) (a0 : Int32) : Option (Int32 × zb_S) :=
  fX6_factorial_4 N N S a0 1 2
set_option maxHeartbeats 4000000 in
set_option maxRecDepth 100000 in
theorem gX6_factorial_0 {l : Launch} {G : zb_G} (N : Nat) (S : zb_S) (a0 : Int32) : zb_Go zb_eI l G 0 RX6 cX6_factorial 3 (some .int) 0 [(0, .int a0)] [] S (fX6_factorial_0 N S a0) := by
  unfold fX6_factorial_0
  refine zg_iconst (v := 1) dX6_factorial_0 (by decide) ?_
  refine zg_istore_n (lv' := [(1, .int 1), (0, .int a0)]) dX6_factorial_1 rfl (by decide) rfl ?_
  refine zg_iconst (v := 2) dX6_factorial_2 (by decide) ?_
  refine zg_istore_n (lv' := [(2, .int 2), (1, .int 1), (0, .int a0)]) dX6_factorial_3 rfl (by decide) rfl ?_
  refine zg_sub [2, 1, 0] rfl ?_
  exact gX6_factorial_4 N N S a0 1 2
def fX6_factorial (N : Nat) (S : zb_S) (a0 : Int32) : Option (Int32 × zb_S) := fX6_factorial_0 N S a0
theorem zcX6_factorial {l : Launch} {G : zb_G} (N : Nat) (S : zb_S) (a0 : Int32) : zb_C zb_eI l G 0 yX6_factorial cX6_factorial 3 (some .int) [.int a0] S (fX6_factorial N S a0) :=
  zb_C.of (by decide +kernel) rfl (Nat.le_of_ble_eq_true rfl) rfl (gX6_factorial_0 N S a0)
-- X6_goneBy
def fX6_goneBy_47 (N : Nat) (k6 : zb_S → Int32 → Int32 → Option (Int32 × zb_S)) (S : zb_S) (l1 : Int32) (l2 : Int32) (s0 : Int32) (s1 : Int32) : Option (Int32 × zb_S) :=
  if zb_in s1 (zb_sz 25) then zb_let (zb_pa S 25 (Int32.toNatClampNeg s1) s0) (fun S1 : zb_S =>
  zb_let (l2 + 1) (fun x2 : Int32 =>
  k6 S1 l1 x2)) else none
set_option maxHeartbeats 4000000 in
set_option maxRecDepth 100000 in
theorem gX6_goneBy_47 {l : Launch} {G : zb_G} (N : Nat) (k6 : zb_S → Int32 → Int32 → Option (Int32 × zb_S)) (hk6 : ∀ (S : zb_S) (l1 : Int32) (l2 : Int32), zb_Go zb_eI l G 6 RX6 cX6_goneBy 3 (some .int) 6 [(0, .ref (zb_ad G 21)), (1, .int l1), (2, .int l2)] [] S (k6 S l1 l2)) (S : zb_S) (l1 : Int32) (l2 : Int32) (s0 : Int32) (s1 : Int32) : zb_Go zb_eI l G 6 RX6 cX6_goneBy 3 (some .int) 47 [(0, .ref (zb_ad G 21)), (1, .int l1), (2, .int l2)] [.int s0, .int s1, .ref (zb_ad G 25)] S (fX6_goneBy_47 N k6 S l1 l2 s0 s1) := by
  unfold fX6_goneBy_47
  refine zg_iast rfl dX6_goneBy_47 (fun S1 => ?_)
  refine zg_iincL (fun x2 => [(2, .int x2), (0, .ref (zb_ad G 21)), (1, .int l1)]) 2 dX6_goneBy_48 rfl rfl (by decide) (fun _ => rfl) (fun x2 => ?_)
  refine zg_goto (tgt := 6) dX6_goneBy_51 (by decide) ?_
  refine zg_sub [1, 2, 0] rfl ?_
  exact hk6 S1 l1 x2
def fX6_goneBy_6b (N : Nat) (k6 : zb_S → Int32 → Int32 → Option (Int32 × zb_S)) (S : zb_S) (l1 : Int32) (l2 : Int32) : Option (Int32 × zb_S) :=
  zb_bind (fX6_zones N S) (fun r2 S1 =>
  if r2 ≤ l2 then
    zb_bind (fX6_stepsOn N 25 S1 20) (fun _ S3 =>
    if zb_in 77 (zb_sz 25) then
    some (zb_a S3 25 (Int32.toNatClampNeg 77), S3) else none)
  else
    zb_bind (fX6_has N S1 l1 l2) (fun r6 S5 =>
    if r6 = 0 then
      if zb_in ((6 * l2) + 1) (zb_sz 25) then
      fX6_goneBy_47 N k6 S5 l1 l2 (zb_a S5 25 (Int32.toNatClampNeg ((6 * l2) + 1))) ((6 * l2) + 1) else none
    else
      fX6_goneBy_47 N k6 S5 l1 l2 0 ((6 * l2) + 1)))
set_option maxHeartbeats 4000000 in
set_option maxRecDepth 100000 in
theorem gX6_goneBy_6b {l : Launch} {G : zb_G} (N : Nat) (k6 : zb_S → Int32 → Int32 → Option (Int32 × zb_S)) (hk6 : ∀ (S : zb_S) (l1 : Int32) (l2 : Int32), zb_Go zb_eI l G 6 RX6 cX6_goneBy 3 (some .int) 6 [(0, .ref (zb_ad G 21)), (1, .int l1), (2, .int l2)] [] S (k6 S l1 l2)) (S : zb_S) (l1 : Int32) (l2 : Int32) : zb_Go zb_eI l G 6 RX6 cX6_goneBy 3 (some .int) 6 [(0, .ref (zb_ad G 21)), (1, .int l1), (2, .int l2)] [] S (fX6_goneBy_6b N k6 S l1 l2) := by
  unfold fX6_goneBy_6b
  refine zg_iload_n 2 dX6_goneBy_6 rfl rfl ?_
  refine zg_aload_n 0 dX6_goneBy_7 rfl rfl ?_
  refine zg_callVI (As := []) (rest := [.int l2]) 0 (zcX6_zones N S) (by decide) (by decide) rfl (by decide) rfl zw_220 zw_221 zw_222 zw_5 zw_223 (by decide +kernel) rfl rfl (Nat.le_of_ble_eq_true rfl) dX6_goneBy_8 (fun r2 S1 => ?_)
  refine zg_icmp_ge 54 dX6_goneBy_11 (by decide) ?_ ?_
  · refine zg_aload_n 0 dX6_goneBy_54 rfl rfl ?_
    refine zg_aload_n 0 dX6_goneBy_55 rfl rfl ?_
    refine zq_X6_12 rfl rfl zw_93 dX6_goneBy_56 ?_
    refine zg_bipush (v := 20) dX6_goneBy_59 (by decide) ?_
    refine zg_callVV (As := [.ref (zb_ad G 25), .int 20]) (rest := []) 2 (zcX6_stepsOn N 25 rfl S1 20) (by decide) (by decide) rfl (by decide) rfl zw_464 zw_465 zw_466 zw_5 zw_467 (by decide +kernel) rfl rfl (Nat.le_of_ble_eq_true rfl) dX6_goneBy_61 (fun S3 => ?_)
    refine zg_aload_n 0 dX6_goneBy_64 rfl rfl ?_
    refine zq_X6_12 rfl rfl zw_93 dX6_goneBy_65 ?_
    refine zg_bipush (v := 77) dX6_goneBy_68 (by decide) ?_
    refine zg_iald rfl dX6_goneBy_70 ?_
    exact zg_iret rfl dX6_goneBy_71
  · refine zg_aload_n 0 dX6_goneBy_14 rfl rfl ?_
    refine zq_X6_12 rfl rfl zw_93 dX6_goneBy_15 ?_
    refine zg_bipush (v := 6) dX6_goneBy_18 (by decide) ?_
    refine zg_iload_n 2 dX6_goneBy_20 rfl rfl ?_
    refine zg_imul dX6_goneBy_21 ?_
    refine zg_iconst (v := 1) dX6_goneBy_22 (by decide) ?_
    refine zg_iadd dX6_goneBy_23 ?_
    refine zg_iload_n 1 dX6_goneBy_24 rfl rfl ?_
    refine zg_iload_n 2 dX6_goneBy_25 rfl rfl ?_
    refine zg_callSI (As := [.int l1, .int l2]) (rest := [.int ((6 * l2) + 1), .ref (zb_ad G 25)]) 2 (zcX6_has N S1 l1 l2) (by decide) (by decide) zw_484 zw_485 zw_5 zw_486 (by decide +kernel) rfl rfl (Nat.le_of_ble_eq_true rfl) dX6_goneBy_26 (fun r6 S5 => ?_)
    refine zg_if_eq 36 dX6_goneBy_29 (by decide) ?_ ?_
    · refine zg_aload_n 0 dX6_goneBy_36 rfl rfl ?_
      refine zq_X6_12 rfl rfl zw_93 dX6_goneBy_37 ?_
      refine zg_bipush (v := 6) dX6_goneBy_40 (by decide) ?_
      refine zg_iload_n 2 dX6_goneBy_42 rfl rfl ?_
      refine zg_imul dX6_goneBy_43 ?_
      refine zg_iconst (v := 1) dX6_goneBy_44 (by decide) ?_
      refine zg_iadd dX6_goneBy_45 ?_
      refine zg_iald rfl dX6_goneBy_46 ?_
      exact gX6_goneBy_47 N k6 hk6 S5 l1 l2 (zb_a S5 25 (Int32.toNatClampNeg ((6 * l2) + 1))) ((6 * l2) + 1)
    · refine zg_iconst (v := 0) dX6_goneBy_32 (by decide) ?_
      refine zg_goto (tgt := 47) dX6_goneBy_33 (by decide) ?_
      exact gX6_goneBy_47 N k6 hk6 S5 l1 l2 0 ((6 * l2) + 1)
def fX6_goneBy_6 (N : Nat) : Nat → zb_S → Int32 → Int32 → Option (Int32 × zb_S)
  | 0, _, _, _ => none
  | n + 1, S, l1, l2 => fX6_goneBy_6b N (fX6_goneBy_6 N n) S l1 l2
set_option maxHeartbeats 4000000 in
set_option maxRecDepth 100000 in
theorem gX6_goneBy_6 {l : Launch} {G : zb_G} (N : Nat) : ∀ (n : Nat) (S : zb_S) (l1 : Int32) (l2 : Int32), zb_Go zb_eI l G 6 RX6 cX6_goneBy 3 (some .int) 6 [(0, .ref (zb_ad G 21)), (1, .int l1), (2, .int l2)] [] S (fX6_goneBy_6 N n S l1 l2) := by
  intro n
  induction n with
  | zero => intros; exact zg_none
  | succ n ih =>
    intro S l1 l2
    exact gX6_goneBy_6b N (fX6_goneBy_6 N n) ih S l1 l2
def fX6_goneBy_0 (N : Nat) (S : zb_S) (a1 : Int32) : Option (Int32 × zb_S) :=
  zb_bind (fX6_layTrial N S) (fun _ S1 =>
  fX6_goneBy_6 N N S1 a1 0)
set_option maxHeartbeats 4000000 in
set_option maxRecDepth 100000 in
theorem gX6_goneBy_0 {l : Launch} {G : zb_G} (N : Nat) (S : zb_S) (a1 : Int32) : zb_Go zb_eI l G 6 RX6 cX6_goneBy 3 (some .int) 0 [(0, .ref (zb_ad G 21)), (1, .int a1)] [] S (fX6_goneBy_0 N S a1) := by
  unfold fX6_goneBy_0
  refine zg_aload_n 0 dX6_goneBy_0 rfl rfl ?_
  refine zg_callVV (As := []) (rest := []) 0 (zcX6_layTrial N S) (by decide) (by decide) rfl (by decide) rfl zw_542 zw_543 zw_544 zw_5 zw_545 (by decide +kernel) rfl rfl (Nat.le_of_ble_eq_true rfl) dX6_goneBy_1 (fun S1 => ?_)
  refine zg_iconst (v := 0) dX6_goneBy_4 (by decide) ?_
  refine zg_istore_n (lv' := [(2, .int 0), (0, .ref (zb_ad G 21)), (1, .int a1)]) dX6_goneBy_5 rfl (by decide) rfl ?_
  refine zg_sub [1, 2, 0] rfl ?_
  exact gX6_goneBy_6 N N S1 a1 0
def fX6_goneBy (N : Nat) (S : zb_S) (a1 : Int32) : Option (Int32 × zb_S) := fX6_goneBy_0 N S a1
theorem zcX6_goneBy {l : Launch} {G : zb_G} (N : Nat) (S : zb_S) (a1 : Int32) : zb_C zb_eI l G 6 yX6_goneBy cX6_goneBy 3 (some .int) [.ref (zb_ad G 21), .int a1] S (fX6_goneBy N S a1) :=
  zb_C.of (by decide +kernel) rfl (Nat.le_of_ble_eq_true rfl) rfl (gX6_goneBy_0 N S a1)
-- X6_share
def fX6_share_125 (N : Nat) (k55 : zb_S → Int32 → Int32 → Int32 → Int32 → Int32 → Int32 → Option (Int32 × zb_S)) (S : zb_S) (l1 : Int32) (l2 : Int32) (l3 : Int32) (l4 : Int32) (l5 : Int32) (l6 : Int32) : Option (Int32 × zb_S) :=
  zb_let (l6 + 1) (fun x1 : Int32 =>
  k55 S l1 l2 l3 l4 l5 x1)
set_option maxHeartbeats 4000000 in
set_option maxRecDepth 100000 in
theorem gX6_share_125 {l : Launch} {G : zb_G} (N : Nat) (k55 : zb_S → Int32 → Int32 → Int32 → Int32 → Int32 → Int32 → Option (Int32 × zb_S)) (hk55 : ∀ (S : zb_S) (l1 : Int32) (l2 : Int32) (l3 : Int32) (l4 : Int32) (l5 : Int32) (l6 : Int32), zb_Go zb_eI l G 7 RX6 cX6_share 8 (some .int) 55 [(0, .ref (zb_ad G 21)), (1, .int l1), (2, .int l2), (3, .int l3), (4, .int l4), (5, .int l5), (6, .int l6)] [] S (k55 S l1 l2 l3 l4 l5 l6)) (S : zb_S) (l1 : Int32) (l2 : Int32) (l3 : Int32) (l4 : Int32) (l5 : Int32) (l6 : Int32) : zb_Go zb_eI l G 7 RX6 cX6_share 8 (some .int) 125 [(0, .ref (zb_ad G 21)), (1, .int l1), (2, .int l2), (3, .int l3), (4, .int l4), (5, .int l5), (6, .int l6)] [] S (fX6_share_125 N k55 S l1 l2 l3 l4 l5 l6) := by
  unfold fX6_share_125
  refine zg_iincL (fun x1 => [(6, .int x1), (0, .ref (zb_ad G 21)), (1, .int l1), (2, .int l2), (3, .int l3), (4, .int l4), (5, .int l5)]) 6 dX6_share_125 rfl rfl (by decide) (fun _ => rfl) (fun x1 => ?_)
  refine zg_goto (tgt := 55) dX6_share_128 (by decide) ?_
  refine zg_sub [1, 2, 3, 4, 5, 6, 0] rfl ?_
  exact hk55 S l1 l2 l3 l4 l5 x1
def fX6_share_55b (N : Nat) (k55 : zb_S → Int32 → Int32 → Int32 → Int32 → Int32 → Int32 → Option (Int32 × zb_S)) (S : zb_S) (l1 : Int32) (l2 : Int32) (l3 : Int32) (l4 : Int32) (l5 : Int32) (l6 : Int32) : Option (Int32 × zb_S) :=
  if l3 < l6 then
    zb_bind (fX6_factorial N S l4) (fun r2 S1 =>
    zb_bind (fX6_fraction N S1 l5 r2 l2) (fun r4 S3 =>
    some (r4, S3)))
  else
    if (l6 &&& (l3 ^^^ (-1 : Int32))) = 0 then
      zb_bind (fX6_has N S l6 l1) (fun r6 S5 =>
      if r6 = 0 then
        zb_bind (fX6_ones N S5 l6) (fun r8 S7 =>
        zb_bind (fX6_factorial N S7 r8) (fun r10 S9 =>
        zb_bind (fX6_factorial N S9 ((l4 - 1) - r8)) (fun r12 S11 =>
        zb_bind (fX6_goneBy N S11 (l6 ||| ((1 : Int32) <<< (l1 &&& 31)))) (fun r14 S13 =>
        zb_bind (fX6_goneBy N S13 l6) (fun r16 S15 =>
        zb_let (l5 + ((r10 * r12) * (r14 - r16))) (fun x17 : Int32 =>
        fX6_share_125 N k55 S15 l1 l2 l3 l4 x17 l6))))))
      else
        fX6_share_125 N k55 S5 l1 l2 l3 l4 l5 l6)
    else
      fX6_share_125 N k55 S l1 l2 l3 l4 l5 l6
set_option maxHeartbeats 4000000 in
set_option maxRecDepth 100000 in
theorem gX6_share_55b {l : Launch} {G : zb_G} (N : Nat) (k55 : zb_S → Int32 → Int32 → Int32 → Int32 → Int32 → Int32 → Option (Int32 × zb_S)) (hk55 : ∀ (S : zb_S) (l1 : Int32) (l2 : Int32) (l3 : Int32) (l4 : Int32) (l5 : Int32) (l6 : Int32), zb_Go zb_eI l G 7 RX6 cX6_share 8 (some .int) 55 [(0, .ref (zb_ad G 21)), (1, .int l1), (2, .int l2), (3, .int l3), (4, .int l4), (5, .int l5), (6, .int l6)] [] S (k55 S l1 l2 l3 l4 l5 l6)) (S : zb_S) (l1 : Int32) (l2 : Int32) (l3 : Int32) (l4 : Int32) (l5 : Int32) (l6 : Int32) : zb_Go zb_eI l G 7 RX6 cX6_share 8 (some .int) 55 [(0, .ref (zb_ad G 21)), (1, .int l1), (2, .int l2), (3, .int l3), (4, .int l4), (5, .int l5), (6, .int l6)] [] S (fX6_share_55b N k55 S l1 l2 l3 l4 l5 l6) := by
  unfold fX6_share_55b
  refine zg_iload 6 dX6_share_55 rfl ?_
  refine zg_iload_n 3 dX6_share_57 rfl rfl ?_
  refine zg_icmp_gt 131 dX6_share_58 (by decide) ?_ ?_
  · refine zg_iload 5 dX6_share_131 rfl ?_
    refine zg_iload 4 dX6_share_133 rfl ?_
    refine zg_callSI (As := [.int l4]) (rest := [.int l5]) 1 (zcX6_factorial N S l4) (by decide) (by decide) zw_710 zw_711 zw_5 zw_712 (by decide +kernel) rfl rfl (Nat.le_of_ble_eq_true rfl) dX6_share_135 (fun r2 S1 => ?_)
    refine zg_iload_n 2 dX6_share_138 rfl rfl ?_
    refine zg_callSI (As := [.int l5, .int r2, .int l2]) (rest := []) 3 (zcX6_fraction N S1 l5 r2 l2) (by decide) (by decide) zw_717 zw_718 zw_5 zw_719 (by decide +kernel) rfl rfl (Nat.le_of_ble_eq_true rfl) dX6_share_139 (fun r4 S3 => ?_)
    exact zg_iret rfl dX6_share_142
  · refine zg_iload 6 dX6_share_61 rfl ?_
    refine zg_iload_n 3 dX6_share_63 rfl rfl ?_
    refine zg_iconst (v := (-1)) dX6_share_64 (by decide) ?_
    refine zg_ixor dX6_share_65 ?_
    refine zg_iand dX6_share_66 ?_
    refine zg_if_ne 125 dX6_share_67 (by decide) ?_ ?_
    · exact gX6_share_125 N k55 hk55 S l1 l2 l3 l4 l5 l6
    · refine zg_iload 6 dX6_share_70 rfl ?_
      refine zg_iload_n 1 dX6_share_72 rfl rfl ?_
      refine zg_callSI (As := [.int l6, .int l1]) (rest := []) 2 (zcX6_has N S l6 l1) (by decide) (by decide) zw_484 zw_485 zw_5 zw_486 (by decide +kernel) rfl rfl (Nat.le_of_ble_eq_true rfl) dX6_share_73 (fun r6 S5 => ?_)
      refine zg_if_ne 125 dX6_share_76 (by decide) ?_ ?_
      · exact gX6_share_125 N k55 hk55 S5 l1 l2 l3 l4 l5 l6
      · refine zg_iload 6 dX6_share_79 rfl ?_
        refine zg_callSI (As := [.int l6]) (rest := []) 1 (zcX6_ones N S5 l6) (by decide) (by decide) zw_395 zw_396 zw_5 zw_397 (by decide +kernel) rfl rfl (Nat.le_of_ble_eq_true rfl) dX6_share_81 (fun r8 S7 => ?_)
        refine zg_istore (lv' := [(7, .int r8), (0, .ref (zb_ad G 21)), (1, .int l1), (2, .int l2), (3, .int l3), (4, .int l4), (5, .int l5), (6, .int l6)]) dX6_share_84 (by decide) rfl ?_
        refine zg_iload 6 dX6_share_86 rfl ?_
        refine zg_iload 0 dX6_share_88 rfl ?_
        refine zg_callSI (As := [.int r8]) (rest := [.int l5]) 1 (zcX6_factorial N S7 r8) (by decide) (by decide) zw_710 zw_711 zw_5 zw_712 (by decide +kernel) rfl rfl (Nat.le_of_ble_eq_true rfl) dX6_share_90 (fun r10 S9 => ?_)
        refine zg_iload 5 dX6_share_93 rfl ?_
        refine zg_iconst (v := 1) dX6_share_95 (by decide) ?_
        refine zg_isub dX6_share_96 ?_
        refine zg_iload 0 dX6_share_97 rfl ?_
        refine zg_isub dX6_share_99 ?_
        refine zg_callSI (As := [.int ((l4 - 1) - r8)]) (rest := [.int r10, .int l5]) 1 (zcX6_factorial N S9 ((l4 - 1) - r8)) (by decide) (by decide) zw_710 zw_711 zw_5 zw_712 (by decide +kernel) rfl rfl (Nat.le_of_ble_eq_true rfl) dX6_share_100 (fun r12 S11 => ?_)
        refine zg_imul dX6_share_103 ?_
        refine zg_aload_n 1 dX6_share_104 rfl rfl ?_
        refine zg_iload 7 dX6_share_105 rfl ?_
        refine zg_iconst (v := 1) dX6_share_107 (by decide) ?_
        refine zg_iload_n 2 dX6_share_108 rfl rfl ?_
        refine zg_ishl dX6_share_109 ?_
        refine zg_ior dX6_share_110 ?_
        refine zg_callVI (As := [.int (l6 ||| ((1 : Int32) <<< (l1 &&& 31)))]) (rest := [.int (r10 * r12), .int l5]) 1 (zcX6_goneBy N S11 (l6 ||| ((1 : Int32) <<< (l1 &&& 31)))) (by decide) (by decide) rfl (by decide) rfl zw_713 zw_714 zw_715 zw_5 zw_716 (by decide +kernel) rfl rfl (Nat.le_of_ble_eq_true rfl) dX6_share_111 (fun r14 S13 => ?_)
        refine zg_aload_n 1 dX6_share_114 rfl rfl ?_
        refine zg_iload 7 dX6_share_115 rfl ?_
        refine zg_callVI (As := [.int l6]) (rest := [.int r14, .int (r10 * r12), .int l5]) 1 (zcX6_goneBy N S13 l6) (by decide) (by decide) rfl (by decide) rfl zw_713 zw_714 zw_715 zw_5 zw_716 (by decide +kernel) rfl rfl (Nat.le_of_ble_eq_true rfl) dX6_share_117 (fun r16 S15 => ?_)
        refine zg_isub dX6_share_120 ?_
        refine zg_imul dX6_share_121 ?_
        refine zg_iadd dX6_share_122 ?_
        refine zg_istoreL (fun x17 => [(5, .int x17), (7, .int r8), (0, .ref (zb_ad G 21)), (1, .int l1), (2, .int l2), (3, .int l3), (4, .int l4), (6, .int l6)]) dX6_share_123 (by decide) (fun _ => rfl) (fun x17 => ?_)
        refine zg_sub [2, 3, 4, 5, 6, 0, 7] rfl ?_
        exact gX6_share_125 N k55 hk55 S15 l1 l2 l3 l4 x17 l6
def fX6_share_55 (N : Nat) : Nat → zb_S → Int32 → Int32 → Int32 → Int32 → Int32 → Int32 → Option (Int32 × zb_S)
  | 0, _, _, _, _, _, _, _ => none
  | n + 1, S, l1, l2, l3, l4, l5, l6 => fX6_share_55b N (fX6_share_55 N n) S l1 l2 l3 l4 l5 l6
set_option maxHeartbeats 4000000 in
set_option maxRecDepth 100000 in
theorem gX6_share_55 {l : Launch} {G : zb_G} (N : Nat) : ∀ (n : Nat) (S : zb_S) (l1 : Int32) (l2 : Int32) (l3 : Int32) (l4 : Int32) (l5 : Int32) (l6 : Int32), zb_Go zb_eI l G 7 RX6 cX6_share 8 (some .int) 55 [(0, .ref (zb_ad G 21)), (1, .int l1), (2, .int l2), (3, .int l3), (4, .int l4), (5, .int l5), (6, .int l6)] [] S (fX6_share_55 N n S l1 l2 l3 l4 l5 l6) := by
  intro n
  induction n with
  | zero => intros; exact zg_none
  | succ n ih =>
    intro S l1 l2 l3 l4 l5 l6
    exact gX6_share_55b N (fX6_share_55 N n) ih S l1 l2 l3 l4 l5 l6
def fX6_share_0 (N : Nat) (S : zb_S) (a1 : Int32) (a2 : Int32) : Option (Int32 × zb_S) :=
  zb_let (zb_pi S 21 0 0) (fun S1 : zb_S =>
  zb_bind (fX6_noZone N S1 a1) (fun r3 S2 =>
  if r3 = 0 then
    zb_bind (fX6_those N 24 S2 1) (fun r5 S4 =>
    zb_bind (fX6_ones N S4 r5) (fun r7 S6 =>
    zb_bind (fX6_has N S6 r5 a1) (fun r9 S8 =>
    if r9 = 0 then
      some ((-3), S8)
    else
      if r7 ≤ 6 then
        fX6_share_55 N N S8 a1 a2 r5 r7 0 0
      else
        some ((-3), S8))))
  else
    some ((-1), S2)))
set_option maxHeartbeats 4000000 in
set_option maxRecDepth 100000 in
theorem gX6_share_0 {l : Launch} {G : zb_G} (N : Nat) (S : zb_S) (a1 : Int32) (a2 : Int32) : zb_Go zb_eI l G 7 RX6 cX6_share 8 (some .int) 0 [(0, .ref (zb_ad G 21)), (1, .int a1), (2, .int a2)] [] S (fX6_share_0 N S a1 a2) := by
  unfold fX6_share_0
  refine zg_aload_n 0 dX6_share_0 rfl rfl ?_
  refine zg_iconst (v := 0) dX6_share_1 (by decide) ?_
  refine zp_X6_0 rfl zw_114 dX6_share_2 (fun S1 => ?_)
  refine zg_aload_n 0 dX6_share_5 rfl rfl ?_
  refine zg_iload_n 1 dX6_share_6 rfl rfl ?_
  refine zg_callVI (As := [.int a1]) (rest := []) 1 (zcX6_noZone N S1 a1) (by decide) (by decide) rfl (by decide) rfl zw_253 zw_254 zw_255 zw_5 zw_256 (by decide +kernel) rfl rfl (Nat.le_of_ble_eq_true rfl) dX6_share_7 (fun r3 S2 => ?_)
  refine zg_if_eq 15 dX6_share_10 (by decide) ?_ ?_
  · refine zg_aload_n 0 dX6_share_15 rfl rfl ?_
    refine zg_aload_n 0 dX6_share_16 rfl rfl ?_
    refine zq_X6_11 rfl rfl zw_92 dX6_share_17 ?_
    refine zg_iconst (v := 1) dX6_share_20 (by decide) ?_
    refine zg_callVI (As := [.ref (zb_ad G 24), .int 1]) (rest := []) 2 (zcX6_those N 24 rfl S2 1) (by decide) (by decide) rfl (by decide) rfl zw_391 zw_392 zw_393 zw_5 zw_394 (by decide +kernel) rfl rfl (Nat.le_of_ble_eq_true rfl) dX6_share_21 (fun r5 S4 => ?_)
    refine zg_istore_n (lv' := [(3, .int r5), (0, .ref (zb_ad G 21)), (1, .int a1), (2, .int a2)]) dX6_share_24 rfl (by decide) rfl ?_
    refine zg_iload_n 0 dX6_share_25 rfl rfl ?_
    refine zg_callSI (As := [.int r5]) (rest := []) 1 (zcX6_ones N S4 r5) (by decide) (by decide) zw_395 zw_396 zw_5 zw_397 (by decide +kernel) rfl rfl (Nat.le_of_ble_eq_true rfl) dX6_share_26 (fun r7 S6 => ?_)
    refine zg_istore (lv' := [(4, .int r7), (3, .int r5), (0, .ref (zb_ad G 21)), (1, .int a1), (2, .int a2)]) dX6_share_29 (by decide) rfl ?_
    refine zg_iload_n 1 dX6_share_31 rfl rfl ?_
    refine zg_iload_n 3 dX6_share_32 rfl rfl ?_
    refine zg_callSI (As := [.int r5, .int a1]) (rest := []) 2 (zcX6_has N S6 r5 a1) (by decide) (by decide) zw_484 zw_485 zw_5 zw_486 (by decide +kernel) rfl rfl (Nat.le_of_ble_eq_true rfl) dX6_share_33 (fun r9 S8 => ?_)
    refine zg_if_eq 46 dX6_share_36 (by decide) ?_ ?_
    · refine zg_bipush (v := (-3)) dX6_share_46 (by decide) ?_
      exact zg_iret rfl dX6_share_48
    · refine zg_iload 0 dX6_share_39 rfl ?_
      refine zg_bipush (v := 6) dX6_share_41 (by decide) ?_
      refine zg_icmp_le 49 dX6_share_43 (by decide) ?_ ?_
      · refine zg_iconst (v := 0) dX6_share_49 (by decide) ?_
        refine zg_istore (lv' := [(5, .int 0), (4, .int r7), (3, .int r5), (0, .ref (zb_ad G 21)), (1, .int a1), (2, .int a2)]) dX6_share_50 (by decide) rfl ?_
        refine zg_iconst (v := 0) dX6_share_52 (by decide) ?_
        refine zg_istore (lv' := [(6, .int 0), (5, .int 0), (4, .int r7), (3, .int r5), (0, .ref (zb_ad G 21)), (1, .int a1), (2, .int a2)]) dX6_share_53 (by decide) rfl ?_
        refine zg_sub [4, 5, 6, 3, 2, 1, 0] rfl ?_
        exact gX6_share_55 N N S8 a1 a2 r5 r7 0 0
      · refine zg_bipush (v := (-3)) dX6_share_46 (by decide) ?_
        exact zg_iret rfl dX6_share_48
  · refine zg_iconst (v := (-1)) dX6_share_13 (by decide) ?_
    exact zg_iret rfl dX6_share_14
def fX6_share (N : Nat) (S : zb_S) (a1 : Int32) (a2 : Int32) : Option (Int32 × zb_S) := fX6_share_0 N S a1 a2
theorem zcX6_share {l : Launch} {G : zb_G} (N : Nat) (S : zb_S) (a1 : Int32) (a2 : Int32) : zb_C zb_eI l G 7 yX6_share cX6_share 8 (some .int) [.ref (zb_ad G 21), .int a1, .int a2] S (fX6_share N S a1 a2) :=
  zb_C.of (by decide +kernel) rfl (Nat.le_of_ble_eq_true rfl) rfl (gX6_share_0 N S a1 a2)
-- X6_shut
def fX6_shut_80 (N : Nat) (k38 : zb_S → Int32 → Int32 → Int32 → Int32 → Int32 → Option (Int32 × zb_S)) (k53 : zb_S → Int32 → Int32 → Int32 → Int32 → Int32 → Int32 → Option (Int32 × zb_S)) (S : zb_S) (l1 : Int32) (l2 : Int32) (l3 : Int32) (l4 : Int32) (l5 : Int32) (l6 : Int32) (s0 : Int32) : Option (Int32 × zb_S) :=
  if zb_in 72 (zb_sz 25) then zb_let (zb_pa S 25 (Int32.toNatClampNeg 72) s0) (fun S1 : zb_S =>
  zb_bind (fX6_stepOn N 25 S1) (fun _ S2 =>
  zb_let (l6 + 1) (fun x4 : Int32 =>
  k53 S2 l1 l2 l3 l4 l5 x4))) else none
set_option maxHeartbeats 4000000 in
set_option maxRecDepth 100000 in
theorem gX6_shut_80 {l : Launch} {G : zb_G} (N : Nat) (k38 : zb_S → Int32 → Int32 → Int32 → Int32 → Int32 → Option (Int32 × zb_S)) (hk38 : ∀ (S : zb_S) (l1 : Int32) (l2 : Int32) (l3 : Int32) (l4 : Int32) (l5 : Int32), zb_Go zb_eI l G 5 RX6 cX6_shut 7 (some .int) 38 [(0, .ref (zb_ad G 21)), (1, .int l1), (2, .int l2), (3, .int l3), (4, .int l4), (5, .int l5)] [] S (k38 S l1 l2 l3 l4 l5)) (k53 : zb_S → Int32 → Int32 → Int32 → Int32 → Int32 → Int32 → Option (Int32 × zb_S)) (hk53 : ∀ (S : zb_S) (l1 : Int32) (l2 : Int32) (l3 : Int32) (l4 : Int32) (l5 : Int32) (l6 : Int32), zb_Go zb_eI l G 5 RX6 cX6_shut 7 (some .int) 53 [(0, .ref (zb_ad G 21)), (1, .int l1), (2, .int l2), (3, .int l3), (4, .int l4), (5, .int l5), (6, .int l6)] [] S (k53 S l1 l2 l3 l4 l5 l6)) (S : zb_S) (l1 : Int32) (l2 : Int32) (l3 : Int32) (l4 : Int32) (l5 : Int32) (l6 : Int32) (s0 : Int32) : zb_Go zb_eI l G 5 RX6 cX6_shut 7 (some .int) 80 [(0, .ref (zb_ad G 21)), (1, .int l1), (2, .int l2), (3, .int l3), (4, .int l4), (5, .int l5), (6, .int l6)] [.int s0, .int 72, .ref (zb_ad G 25)] S (fX6_shut_80 N k38 k53 S l1 l2 l3 l4 l5 l6 s0) := by
  unfold fX6_shut_80
  refine zg_iast rfl dX6_shut_80 (fun S1 => ?_)
  refine zg_aload_n 0 dX6_shut_81 rfl rfl ?_
  refine zg_aload_n 0 dX6_shut_82 rfl rfl ?_
  refine zq_X6_12 rfl rfl zw_93 dX6_shut_83 ?_
  refine zg_callVV (As := [.ref (zb_ad G 25)]) (rest := []) 1 (zcX6_stepOn N 25 rfl S1) (by decide) (by decide) rfl (by decide) rfl zw_468 zw_469 zw_470 zw_5 zw_471 (by decide +kernel) rfl rfl (Nat.le_of_ble_eq_true rfl) dX6_shut_86 (fun S2 => ?_)
  refine zg_iincL (fun x4 => [(6, .int x4), (0, .ref (zb_ad G 21)), (1, .int l1), (2, .int l2), (3, .int l3), (4, .int l4), (5, .int l5)]) 6 dX6_shut_89 rfl rfl (by decide) (fun _ => rfl) (fun x4 => ?_)
  refine zg_goto (tgt := 53) dX6_shut_92 (by decide) ?_
  refine zg_sub [1, 2, 3, 4, 5, 6, 0] rfl ?_
  exact hk53 S2 l1 l2 l3 l4 l5 x4
def fX6_shut_137 (N : Nat) (k38 : zb_S → Int32 → Int32 → Int32 → Int32 → Int32 → Option (Int32 × zb_S)) (S : zb_S) (l1 : Int32) (l2 : Int32) (l3 : Int32) (l5 : Int32) (s0 : Int32) (s1 : Int32) : Option (Int32 × zb_S) :=
  zb_let (s1 + s0) (fun x1 : Int32 =>
  zb_let (l5 + 1) (fun x2 : Int32 =>
  k38 S l1 l2 l3 x1 x2))
set_option maxHeartbeats 4000000 in
set_option maxRecDepth 100000 in
theorem gX6_shut_137 {l : Launch} {G : zb_G} (N : Nat) (k38 : zb_S → Int32 → Int32 → Int32 → Int32 → Int32 → Option (Int32 × zb_S)) (hk38 : ∀ (S : zb_S) (l1 : Int32) (l2 : Int32) (l3 : Int32) (l4 : Int32) (l5 : Int32), zb_Go zb_eI l G 5 RX6 cX6_shut 7 (some .int) 38 [(0, .ref (zb_ad G 21)), (1, .int l1), (2, .int l2), (3, .int l3), (4, .int l4), (5, .int l5)] [] S (k38 S l1 l2 l3 l4 l5)) (S : zb_S) (l1 : Int32) (l2 : Int32) (l3 : Int32) (l5 : Int32) (s0 : Int32) (s1 : Int32) : zb_Go zb_eI l G 5 RX6 cX6_shut 7 (some .int) 137 [(0, .ref (zb_ad G 21)), (1, .int l1), (2, .int l2), (3, .int l3), (5, .int l5)] [.int s0, .int s1] S (fX6_shut_137 N k38 S l1 l2 l3 l5 s0 s1) := by
  unfold fX6_shut_137
  refine zg_iadd dX6_shut_137 ?_
  refine zg_istoreL (fun x1 => [(4, .int x1), (0, .ref (zb_ad G 21)), (1, .int l1), (2, .int l2), (3, .int l3), (5, .int l5)]) dX6_shut_138 (by decide) (fun _ => rfl) (fun x1 => ?_)
  refine zg_iincL (fun x2 => [(5, .int x2), (4, .int x1), (0, .ref (zb_ad G 21)), (1, .int l1), (2, .int l2), (3, .int l3)]) 5 dX6_shut_140 rfl rfl (by decide) (fun _ => rfl) (fun x2 => ?_)
  refine zg_goto (tgt := 38) dX6_shut_143 (by decide) ?_
  refine zg_sub [2, 3, 4, 5, 1, 0] rfl ?_
  exact hk38 S l1 l2 l3 x1 x2
def fX6_shut_53b (N : Nat) (k38 : zb_S → Int32 → Int32 → Int32 → Int32 → Int32 → Option (Int32 × zb_S)) (k53 : zb_S → Int32 → Int32 → Int32 → Int32 → Int32 → Int32 → Option (Int32 × zb_S)) (S : zb_S) (l1 : Int32) (l2 : Int32) (l3 : Int32) (l4 : Int32) (l5 : Int32) (l6 : Int32) : Option (Int32 × zb_S) :=
  if l1 ≤ l6 then
    zb_bind (fX6_those N 25 S 0) (fun r2 S1 =>
    if r2 = 0 then
      zb_bind (fX6_ones N S1 l5) (fun r4 S3 =>
      zb_bind (fX6_power N S3 l2 r4) (fun r6 S5 =>
      zb_bind (fX6_ones N S5 l5) (fun r8 S7 =>
      zb_bind (fX6_power N S7 (10 - l2) (l1 - r8)) (fun r10 S9 =>
      fX6_shut_137 N k38 S9 l1 l2 l3 l5 (r6 * r10) l4))))
    else
      fX6_shut_137 N k38 S1 l1 l2 l3 l5 0 l4)
  else
    zb_bind (fX6_has N S l5 l6) (fun r12 S11 =>
    if r12 = 0 then
      fX6_shut_80 N k38 k53 S11 l1 l2 l3 l4 l5 l6 1
    else
      fX6_shut_80 N k38 k53 S11 l1 l2 l3 l4 l5 l6 0)
set_option maxHeartbeats 4000000 in
set_option maxRecDepth 100000 in
theorem gX6_shut_53b {l : Launch} {G : zb_G} (N : Nat) (k38 : zb_S → Int32 → Int32 → Int32 → Int32 → Int32 → Option (Int32 × zb_S)) (hk38 : ∀ (S : zb_S) (l1 : Int32) (l2 : Int32) (l3 : Int32) (l4 : Int32) (l5 : Int32), zb_Go zb_eI l G 5 RX6 cX6_shut 7 (some .int) 38 [(0, .ref (zb_ad G 21)), (1, .int l1), (2, .int l2), (3, .int l3), (4, .int l4), (5, .int l5)] [] S (k38 S l1 l2 l3 l4 l5)) (k53 : zb_S → Int32 → Int32 → Int32 → Int32 → Int32 → Int32 → Option (Int32 × zb_S)) (hk53 : ∀ (S : zb_S) (l1 : Int32) (l2 : Int32) (l3 : Int32) (l4 : Int32) (l5 : Int32) (l6 : Int32), zb_Go zb_eI l G 5 RX6 cX6_shut 7 (some .int) 53 [(0, .ref (zb_ad G 21)), (1, .int l1), (2, .int l2), (3, .int l3), (4, .int l4), (5, .int l5), (6, .int l6)] [] S (k53 S l1 l2 l3 l4 l5 l6)) (S : zb_S) (l1 : Int32) (l2 : Int32) (l3 : Int32) (l4 : Int32) (l5 : Int32) (l6 : Int32) : zb_Go zb_eI l G 5 RX6 cX6_shut 7 (some .int) 53 [(0, .ref (zb_ad G 21)), (1, .int l1), (2, .int l2), (3, .int l3), (4, .int l4), (5, .int l5), (6, .int l6)] [] S (fX6_shut_53b N k38 k53 S l1 l2 l3 l4 l5 l6) := by
  unfold fX6_shut_53b
  refine zg_iload 6 dX6_shut_53 rfl ?_
  refine zg_iload_n 1 dX6_shut_55 rfl rfl ?_
  refine zg_icmp_ge 95 dX6_shut_56 (by decide) ?_ ?_
  · refine zg_iload 4 dX6_shut_95 rfl ?_
    refine zg_aload_n 0 dX6_shut_97 rfl rfl ?_
    refine zg_aload_n 0 dX6_shut_98 rfl rfl ?_
    refine zq_X6_12 rfl rfl zw_93 dX6_shut_99 ?_
    refine zg_iconst (v := 0) dX6_shut_102 (by decide) ?_
    refine zg_callVI (As := [.ref (zb_ad G 25), .int 0]) (rest := [.int l4]) 2 (zcX6_those N 25 rfl S 0) (by decide) (by decide) rfl (by decide) rfl zw_391 zw_392 zw_393 zw_5 zw_394 (by decide +kernel) rfl rfl (Nat.le_of_ble_eq_true rfl) dX6_shut_103 (fun r2 S1 => ?_)
    refine zg_if_ne 136 dX6_shut_106 (by decide) ?_ ?_
    · refine zg_iconst (v := 0) dX6_shut_136 (by decide) ?_
      refine zg_sub [0, 1, 2, 3, 5] rfl ?_
      exact gX6_shut_137 N k38 hk38 S1 l1 l2 l3 l5 0 l4
    · refine zg_iload_n 2 dX6_shut_109 rfl rfl ?_
      refine zg_iload 5 dX6_shut_110 rfl ?_
      refine zg_callSI (As := [.int l5]) (rest := [.int l2, .int l4]) 1 (zcX6_ones N S1 l5) (by decide) (by decide) zw_395 zw_396 zw_5 zw_397 (by decide +kernel) rfl rfl (Nat.le_of_ble_eq_true rfl) dX6_shut_112 (fun r4 S3 => ?_)
      refine zg_callSI (As := [.int l2, .int r4]) (rest := [.int l4]) 2 (zcX6_power N S3 l2 r4) (by decide) (by decide) zw_741 zw_742 zw_5 zw_743 (by decide +kernel) rfl rfl (Nat.le_of_ble_eq_true rfl) dX6_shut_115 (fun r6 S5 => ?_)
      refine zg_bipush (v := 10) dX6_shut_118 (by decide) ?_
      refine zg_iload_n 2 dX6_shut_120 rfl rfl ?_
      refine zg_isub dX6_shut_121 ?_
      refine zg_iload_n 1 dX6_shut_122 rfl rfl ?_
      refine zg_iload 5 dX6_shut_123 rfl ?_
      refine zg_callSI (As := [.int l5]) (rest := [.int l1, .int (10 - l2), .int r6, .int l4]) 1 (zcX6_ones N S5 l5) (by decide) (by decide) zw_395 zw_396 zw_5 zw_397 (by decide +kernel) rfl rfl (Nat.le_of_ble_eq_true rfl) dX6_shut_125 (fun r8 S7 => ?_)
      refine zg_isub dX6_shut_128 ?_
      refine zg_callSI (As := [.int (10 - l2), .int (l1 - r8)]) (rest := [.int r6, .int l4]) 2 (zcX6_power N S7 (10 - l2) (l1 - r8)) (by decide) (by decide) zw_741 zw_742 zw_5 zw_743 (by decide +kernel) rfl rfl (Nat.le_of_ble_eq_true rfl) dX6_shut_129 (fun r10 S9 => ?_)
      refine zg_imul dX6_shut_132 ?_
      refine zg_goto (tgt := 137) dX6_shut_133 (by decide) ?_
      refine zg_sub [0, 1, 2, 3, 5] rfl ?_
      exact gX6_shut_137 N k38 hk38 S9 l1 l2 l3 l5 (r6 * r10) l4
  · refine zg_aload_n 0 dX6_shut_59 rfl rfl ?_
    refine zq_X6_12 rfl rfl zw_93 dX6_shut_60 ?_
    refine zg_bipush (v := 72) dX6_shut_63 (by decide) ?_
    refine zg_iload 5 dX6_shut_65 rfl ?_
    refine zg_iload 6 dX6_shut_67 rfl ?_
    refine zg_callSI (As := [.int l5, .int l6]) (rest := [.int 72, .ref (zb_ad G 25)]) 2 (zcX6_has N S l5 l6) (by decide) (by decide) zw_484 zw_485 zw_5 zw_486 (by decide +kernel) rfl rfl (Nat.le_of_ble_eq_true rfl) dX6_shut_69 (fun r12 S11 => ?_)
    refine zg_if_eq 79 dX6_shut_72 (by decide) ?_ ?_
    · refine zg_iconst (v := 1) dX6_shut_79 (by decide) ?_
      exact gX6_shut_80 N k38 hk38 k53 hk53 S11 l1 l2 l3 l4 l5 l6 1
    · refine zg_iconst (v := 0) dX6_shut_75 (by decide) ?_
      refine zg_goto (tgt := 80) dX6_shut_76 (by decide) ?_
      exact gX6_shut_80 N k38 hk38 k53 hk53 S11 l1 l2 l3 l4 l5 l6 0
def fX6_shut_53 (N : Nat) (k38 : zb_S → Int32 → Int32 → Int32 → Int32 → Int32 → Option (Int32 × zb_S)) : Nat → zb_S → Int32 → Int32 → Int32 → Int32 → Int32 → Int32 → Option (Int32 × zb_S)
  | 0, _, _, _, _, _, _, _ => none
  | n + 1, S, l1, l2, l3, l4, l5, l6 => fX6_shut_53b N k38 (fX6_shut_53 N k38 n) S l1 l2 l3 l4 l5 l6
set_option maxHeartbeats 4000000 in
set_option maxRecDepth 100000 in
theorem gX6_shut_53 {l : Launch} {G : zb_G} (N : Nat) (k38 : zb_S → Int32 → Int32 → Int32 → Int32 → Int32 → Option (Int32 × zb_S)) (hk38 : ∀ (S : zb_S) (l1 : Int32) (l2 : Int32) (l3 : Int32) (l4 : Int32) (l5 : Int32), zb_Go zb_eI l G 5 RX6 cX6_shut 7 (some .int) 38 [(0, .ref (zb_ad G 21)), (1, .int l1), (2, .int l2), (3, .int l3), (4, .int l4), (5, .int l5)] [] S (k38 S l1 l2 l3 l4 l5)) : ∀ (n : Nat) (S : zb_S) (l1 : Int32) (l2 : Int32) (l3 : Int32) (l4 : Int32) (l5 : Int32) (l6 : Int32), zb_Go zb_eI l G 5 RX6 cX6_shut 7 (some .int) 53 [(0, .ref (zb_ad G 21)), (1, .int l1), (2, .int l2), (3, .int l3), (4, .int l4), (5, .int l5), (6, .int l6)] [] S (fX6_shut_53 N k38 n S l1 l2 l3 l4 l5 l6) := by
  intro n
  induction n with
  | zero => intros; exact zg_none
  | succ n ih =>
    intro S l1 l2 l3 l4 l5 l6
    exact gX6_shut_53b N k38 hk38 (fX6_shut_53 N k38 n) ih S l1 l2 l3 l4 l5 l6
def fX6_shut_38b (N : Nat) (k38 : zb_S → Int32 → Int32 → Int32 → Int32 → Int32 → Option (Int32 × zb_S)) (S : zb_S) (l1 : Int32) (l2 : Int32) (l3 : Int32) (l4 : Int32) (l5 : Int32) : Option (Int32 × zb_S) :=
  if ((1 : Int32) <<< (l1 &&& 31)) ≤ l5 then
    zb_bind (fX6_power N S 10 l1) (fun r2 S1 =>
    zb_bind (fX6_fraction N S1 l4 r2 l3) (fun r4 S3 =>
    some (r4, S3)))
  else
    zb_bind (fX6_layTrial N S) (fun _ S5 =>
    fX6_shut_53 N k38 N S5 l1 l2 l3 l4 l5 0)
set_option maxHeartbeats 4000000 in
set_option maxRecDepth 100000 in
theorem gX6_shut_38b {l : Launch} {G : zb_G} (N : Nat) (k38 : zb_S → Int32 → Int32 → Int32 → Int32 → Int32 → Option (Int32 × zb_S)) (hk38 : ∀ (S : zb_S) (l1 : Int32) (l2 : Int32) (l3 : Int32) (l4 : Int32) (l5 : Int32), zb_Go zb_eI l G 5 RX6 cX6_shut 7 (some .int) 38 [(0, .ref (zb_ad G 21)), (1, .int l1), (2, .int l2), (3, .int l3), (4, .int l4), (5, .int l5)] [] S (k38 S l1 l2 l3 l4 l5)) (S : zb_S) (l1 : Int32) (l2 : Int32) (l3 : Int32) (l4 : Int32) (l5 : Int32) : zb_Go zb_eI l G 5 RX6 cX6_shut 7 (some .int) 38 [(0, .ref (zb_ad G 21)), (1, .int l1), (2, .int l2), (3, .int l3), (4, .int l4), (5, .int l5)] [] S (fX6_shut_38b N k38 S l1 l2 l3 l4 l5) := by
  unfold fX6_shut_38b
  refine zg_iload 5 dX6_shut_38 rfl ?_
  refine zg_iconst (v := 1) dX6_shut_40 (by decide) ?_
  refine zg_iload_n 1 dX6_shut_41 rfl rfl ?_
  refine zg_ishl dX6_shut_42 ?_
  refine zg_icmp_ge 146 dX6_shut_43 (by decide) ?_ ?_
  · refine zg_iload 4 dX6_shut_146 rfl ?_
    refine zg_bipush (v := 10) dX6_shut_148 (by decide) ?_
    refine zg_iload_n 1 dX6_shut_150 rfl rfl ?_
    refine zg_callSI (As := [.int 10, .int l1]) (rest := [.int l4]) 2 (zcX6_power N S 10 l1) (by decide) (by decide) zw_741 zw_742 zw_5 zw_743 (by decide +kernel) rfl rfl (Nat.le_of_ble_eq_true rfl) dX6_shut_151 (fun r2 S1 => ?_)
    refine zg_iload_n 3 dX6_shut_154 rfl rfl ?_
    refine zg_callSI (As := [.int l4, .int r2, .int l3]) (rest := []) 3 (zcX6_fraction N S1 l4 r2 l3) (by decide) (by decide) zw_717 zw_718 zw_5 zw_719 (by decide +kernel) rfl rfl (Nat.le_of_ble_eq_true rfl) dX6_shut_155 (fun r4 S3 => ?_)
    exact zg_iret rfl dX6_shut_158
  · refine zg_aload_n 0 dX6_shut_46 rfl rfl ?_
    refine zg_callVV (As := []) (rest := []) 0 (zcX6_layTrial N S) (by decide) (by decide) rfl (by decide) rfl zw_542 zw_543 zw_544 zw_5 zw_545 (by decide +kernel) rfl rfl (Nat.le_of_ble_eq_true rfl) dX6_shut_47 (fun S5 => ?_)
    refine zg_iconst (v := 0) dX6_shut_50 (by decide) ?_
    refine zg_istore (lv' := [(6, .int 0), (0, .ref (zb_ad G 21)), (1, .int l1), (2, .int l2), (3, .int l3), (4, .int l4), (5, .int l5)]) dX6_shut_51 (by decide) rfl ?_
    refine zg_sub [1, 2, 3, 4, 5, 6, 0] rfl ?_
    exact gX6_shut_53 N k38 hk38 N S5 l1 l2 l3 l4 l5 0
def fX6_shut_38 (N : Nat) : Nat → zb_S → Int32 → Int32 → Int32 → Int32 → Int32 → Option (Int32 × zb_S)
  | 0, _, _, _, _, _, _ => none
  | n + 1, S, l1, l2, l3, l4, l5 => fX6_shut_38b N (fX6_shut_38 N n) S l1 l2 l3 l4 l5
set_option maxHeartbeats 4000000 in
set_option maxRecDepth 100000 in
theorem gX6_shut_38 {l : Launch} {G : zb_G} (N : Nat) : ∀ (n : Nat) (S : zb_S) (l1 : Int32) (l2 : Int32) (l3 : Int32) (l4 : Int32) (l5 : Int32), zb_Go zb_eI l G 5 RX6 cX6_shut 7 (some .int) 38 [(0, .ref (zb_ad G 21)), (1, .int l1), (2, .int l2), (3, .int l3), (4, .int l4), (5, .int l5)] [] S (fX6_shut_38 N n S l1 l2 l3 l4 l5) := by
  intro n
  induction n with
  | zero => intros; exact zg_none
  | succ n ih =>
    intro S l1 l2 l3 l4 l5
    exact gX6_shut_38b N (fX6_shut_38 N n) ih S l1 l2 l3 l4 l5
def fX6_shut_0 (N : Nat) (S : zb_S) (a1 : Int32) (a2 : Int32) (a3 : Int32) : Option (Int32 × zb_S) :=
  zb_let (zb_pi S 21 0 0) (fun S1 : zb_S =>
  zb_bind (fX6_in N S1 (Int32.toInt64 a1) 1 8) (fun r3 S2 =>
  if r3 = 0 then
    some ((-2), S2)
  else
    zb_bind (fX6_in N S2 (Int32.toInt64 a2) 0 10) (fun r5 S4 =>
    if r5 = 0 then
      some ((-2), S4)
    else
      fX6_shut_38 N N S4 a1 a2 a3 0 0)))
set_option maxHeartbeats 4000000 in
set_option maxRecDepth 100000 in
theorem gX6_shut_0 {l : Launch} {G : zb_G} (N : Nat) (S : zb_S) (a1 : Int32) (a2 : Int32) (a3 : Int32) : zb_Go zb_eI l G 5 RX6 cX6_shut 7 (some .int) 0 [(0, .ref (zb_ad G 21)), (1, .int a1), (2, .int a2), (3, .int a3)] [] S (fX6_shut_0 N S a1 a2 a3) := by
  unfold fX6_shut_0
  refine zg_aload_n 0 dX6_shut_0 rfl rfl ?_
  refine zg_iconst (v := 0) dX6_shut_1 (by decide) ?_
  refine zp_X6_0 rfl zw_114 dX6_shut_2 (fun S1 => ?_)
  refine zg_iload_n 1 dX6_shut_5 rfl rfl ?_
  refine zg_i2l dX6_shut_6 ?_
  refine zg_lconst (v := 1) dX6_shut_7 (by decide) ?_
  refine zg_ldc2 zw_739 dX6_shut_8 ?_
  refine zg_callSI (As := [.long (Int32.toInt64 a1), .long 1, .long 8]) (rest := []) 3 (zcX6_in N S1 (Int32.toInt64 a1) 1 8) (by decide) (by decide) zw_117 zw_118 zw_5 zw_119 (by decide +kernel) rfl rfl (Nat.le_of_ble_eq_true rfl) dX6_shut_11 (fun r3 S2 => ?_)
  refine zg_if_eq 29 dX6_shut_14 (by decide) ?_ ?_
  · refine zg_bipush (v := (-2)) dX6_shut_29 (by decide) ?_
    exact zg_iret rfl dX6_shut_31
  · refine zg_iload_n 2 dX6_shut_17 rfl rfl ?_
    refine zg_i2l dX6_shut_18 ?_
    refine zg_lconst (v := 0) dX6_shut_19 (by decide) ?_
    refine zg_ldc2 zw_740 dX6_shut_20 ?_
    refine zg_callSI (As := [.long (Int32.toInt64 a2), .long 0, .long 10]) (rest := []) 3 (zcX6_in N S2 (Int32.toInt64 a2) 0 10) (by decide) (by decide) zw_117 zw_118 zw_5 zw_119 (by decide +kernel) rfl rfl (Nat.le_of_ble_eq_true rfl) dX6_shut_23 (fun r5 S4 => ?_)
    refine zg_if_ne 32 dX6_shut_26 (by decide) ?_ ?_
    · refine zg_iconst (v := 0) dX6_shut_32 (by decide) ?_
      refine zg_istore (lv' := [(4, .int 0), (0, .ref (zb_ad G 21)), (1, .int a1), (2, .int a2), (3, .int a3)]) dX6_shut_33 (by decide) rfl ?_
      refine zg_iconst (v := 0) dX6_shut_35 (by decide) ?_
      refine zg_istore (lv' := [(5, .int 0), (4, .int 0), (0, .ref (zb_ad G 21)), (1, .int a1), (2, .int a2), (3, .int a3)]) dX6_shut_36 (by decide) rfl ?_
      refine zg_sub [2, 3, 4, 5, 1, 0] rfl ?_
      exact gX6_shut_38 N N S4 a1 a2 a3 0 0
    · refine zg_bipush (v := (-2)) dX6_shut_29 (by decide) ?_
      exact zg_iret rfl dX6_shut_31
def fX6_shut (N : Nat) (S : zb_S) (a1 : Int32) (a2 : Int32) (a3 : Int32) : Option (Int32 × zb_S) := fX6_shut_0 N S a1 a2 a3
theorem zcX6_shut {l : Launch} {G : zb_G} (N : Nat) (S : zb_S) (a1 : Int32) (a2 : Int32) (a3 : Int32) : zb_C zb_eI l G 5 yX6_shut cX6_shut 7 (some .int) [.ref (zb_ad G 21), .int a1, .int a2, .int a3] S (fX6_shut N S a1 a2 a3) :=
  zb_C.of (by decide +kernel) rfl (Nat.le_of_ble_eq_true rfl) rfl (gX6_shut_0 N S a1 a2 a3)
-- X6_seed
def fX6_seed_0 (N : Nat) (S : zb_S) (a1 : Int64) : Option (Int64 × zb_S) :=
  zb_let (zb_pi S 21 0 0) (fun S1 : zb_S =>
  zb_let (zb_l S1 21 21) (fun x2 : Int64 =>
  zb_let (zb_pl S1 21 21 a1) (fun S3 : zb_S =>
  some (x2, S3))))
set_option maxHeartbeats 4000000 in
set_option maxRecDepth 100000 in
theorem gX6_seed_0 {l : Launch} {G : zb_G} (N : Nat) (S : zb_S) (a1 : Int64) : zb_Go zb_eL l G 0 RX6 cX6_seed 5 (some .long) 0 [(0, .ref (zb_ad G 21)), (1, .long a1)] [] S (fX6_seed_0 N S a1) := by
  unfold fX6_seed_0
  refine zg_aload_n 0 dX6_seed_0 rfl rfl ?_
  refine zg_iconst (v := 0) dX6_seed_1 (by decide) ?_
  refine zp_X6_0 rfl zw_114 dX6_seed_2 (fun S1 => ?_)
  refine zg_aload_n 0 dX6_seed_5 rfl rfl ?_
  refine zq_X6_21 rfl zw_752 dX6_seed_6 ?_
  refine zg_lstore_nL (fun x2 => [(3, .long x2), (0, .ref (zb_ad G 21)), (1, .long a1)]) dX6_seed_9 rfl (by decide) (fun _ => rfl) (fun x2 => ?_)
  refine zg_aload_n 1 dX6_seed_10 rfl rfl ?_
  refine zg_lload_n 2 dX6_seed_11 rfl rfl ?_
  refine zp_X6_21 rfl zw_752 dX6_seed_12 (fun S3 => ?_)
  refine zg_lload_n 0 dX6_seed_15 rfl rfl ?_
  exact zg_lret rfl dX6_seed_16
def fX6_seed (N : Nat) (S : zb_S) (a1 : Int64) : Option (Int64 × zb_S) := fX6_seed_0 N S a1
theorem zcX6_seed {l : Launch} {G : zb_G} (N : Nat) (S : zb_S) (a1 : Int64) : zb_C zb_eL l G 0 yX6_seed cX6_seed 5 (some .long) [.ref (zb_ad G 21), .long a1] S (fX6_seed N S a1) :=
  zb_C.of (by decide +kernel) rfl (Nat.le_of_ble_eq_true rfl) rfl (gX6_seed_0 N S a1)
-- X6_drawn
def fX6_drawn_105 (N : Nat) (k26 : zb_S → Int32 → Int32 → Option (Int32 × zb_S)) (S : zb_S) (l1 : Int32) (l2 : Int32) : Option (Int32 × zb_S) :=
  zb_bind (fX6_stepOn N 25 S) (fun _ S1 =>
  zb_let (l2 + 1) (fun x3 : Int32 =>
  k26 S1 l1 x3))
set_option maxHeartbeats 4000000 in
set_option maxRecDepth 100000 in
theorem gX6_drawn_105 {l : Launch} {G : zb_G} (N : Nat) (k26 : zb_S → Int32 → Int32 → Option (Int32 × zb_S)) (hk26 : ∀ (S : zb_S) (l1 : Int32) (l2 : Int32), zb_Go zb_eI l G 5 RX6 cX6_drawn 4 (some .int) 26 [(0, .ref (zb_ad G 21)), (1, .int l1), (2, .int l2)] [] S (k26 S l1 l2)) (S : zb_S) (l1 : Int32) (l2 : Int32) : zb_Go zb_eI l G 5 RX6 cX6_drawn 4 (some .int) 105 [(0, .ref (zb_ad G 21)), (1, .int l1), (2, .int l2)] [] S (fX6_drawn_105 N k26 S l1 l2) := by
  unfold fX6_drawn_105
  refine zg_aload_n 0 dX6_drawn_105 rfl rfl ?_
  refine zg_aload_n 0 dX6_drawn_106 rfl rfl ?_
  refine zq_X6_12 rfl rfl zw_93 dX6_drawn_107 ?_
  refine zg_callVV (As := [.ref (zb_ad G 25)]) (rest := []) 1 (zcX6_stepOn N 25 rfl S) (by decide) (by decide) rfl (by decide) rfl zw_468 zw_469 zw_470 zw_5 zw_471 (by decide +kernel) rfl rfl (Nat.le_of_ble_eq_true rfl) dX6_drawn_110 (fun S1 => ?_)
  refine zg_iincL (fun x3 => [(2, .int x3), (0, .ref (zb_ad G 21)), (1, .int l1)]) 2 dX6_drawn_113 rfl rfl (by decide) (fun _ => rfl) (fun x3 => ?_)
  refine zg_goto (tgt := 26) dX6_drawn_116 (by decide) ?_
  refine zg_sub [1, 2, 0] rfl ?_
  exact hk26 S1 l1 x3
def fX6_drawn_26b (N : Nat) (k26 : zb_S → Int32 → Int32 → Option (Int32 × zb_S)) (S : zb_S) (l1 : Int32) (l2 : Int32) : Option (Int32 × zb_S) :=
  if l1 ≤ l2 then
    if zb_in 77 (zb_sz 25) then
    if zb_in 77 (zb_sz 24) then
    some ((zb_a S 25 (Int32.toNatClampNeg 77)) - (zb_a S 24 (Int32.toNatClampNeg 77)), S) else none else none
  else
    zb_let (zb_pl S 21 21 (((zb_l S 21 21) * 6364136223846793005) + 1442695040888963407)) (fun S1 : zb_S =>
    if 3 = 0 then none else
    zb_let ((Int64.toInt32 ((Int64.toUInt64 (zb_l S1 21 21) >>> ((Int32.toInt64 33).toUInt64 &&& Int64.toUInt64 63)).toInt64)) - (Int64.toInt32 ((Int64.toUInt64 (zb_l S1 21 21) >>> ((Int32.toInt64 33).toUInt64 &&& Int64.toUInt64 63)).toInt64)) / 3 * 3) (fun x2 : Int32 =>
    zb_bind (fX6_noLine N S1 x2) (fun r4 S3 =>
    if r4 = 0 then
      zb_bind (fX6_entry N S3 x2) (fun r6 S5 =>
      if zb_in ((6 * r6) + 0) (zb_sz 25) then
      if (zb_a S5 25 (Int32.toNatClampNeg ((6 * r6) + 0))) = 0 then
        if zb_in 76 (zb_sz 25) then
        if 99 ≤ (zb_a S5 25 (Int32.toNatClampNeg 76)) then
          fX6_drawn_105 N k26 S5 l1 l2
        else
          zb_bind (fX6_feedOn N 25 S5 x2) (fun _ S7 =>
          fX6_drawn_105 N k26 S7 l1 l2) else none
      else
        fX6_drawn_105 N k26 S5 l1 l2 else none)
    else
      fX6_drawn_105 N k26 S3 l1 l2)))
set_option maxHeartbeats 4000000 in
set_option maxRecDepth 100000 in
theorem gX6_drawn_26b {l : Launch} {G : zb_G} (N : Nat) (k26 : zb_S → Int32 → Int32 → Option (Int32 × zb_S)) (hk26 : ∀ (S : zb_S) (l1 : Int32) (l2 : Int32), zb_Go zb_eI l G 5 RX6 cX6_drawn 4 (some .int) 26 [(0, .ref (zb_ad G 21)), (1, .int l1), (2, .int l2)] [] S (k26 S l1 l2)) (S : zb_S) (l1 : Int32) (l2 : Int32) : zb_Go zb_eI l G 5 RX6 cX6_drawn 4 (some .int) 26 [(0, .ref (zb_ad G 21)), (1, .int l1), (2, .int l2)] [] S (fX6_drawn_26b N k26 S l1 l2) := by
  unfold fX6_drawn_26b
  refine zg_iload_n 2 dX6_drawn_26 rfl rfl ?_
  refine zg_iload_n 1 dX6_drawn_27 rfl rfl ?_
  refine zg_icmp_ge 119 dX6_drawn_28 (by decide) ?_ ?_
  · refine zg_aload_n 0 dX6_drawn_119 rfl rfl ?_
    refine zq_X6_12 rfl rfl zw_93 dX6_drawn_120 ?_
    refine zg_bipush (v := 77) dX6_drawn_123 (by decide) ?_
    refine zg_iald rfl dX6_drawn_125 ?_
    refine zg_aload_n 0 dX6_drawn_126 rfl rfl ?_
    refine zq_X6_11 rfl rfl zw_92 dX6_drawn_127 ?_
    refine zg_bipush (v := 77) dX6_drawn_130 (by decide) ?_
    refine zg_iald rfl dX6_drawn_132 ?_
    refine zg_isub dX6_drawn_133 ?_
    exact zg_iret rfl dX6_drawn_134
  · refine zg_aload_n 0 dX6_drawn_31 rfl rfl ?_
    refine zg_aload_n 0 dX6_drawn_32 rfl rfl ?_
    refine zq_X6_21 rfl zw_752 dX6_drawn_33 ?_
    refine zg_ldc2 zw_764 dX6_drawn_36 ?_
    refine zg_lmul dX6_drawn_39 ?_
    refine zg_ldc2 zw_765 dX6_drawn_40 ?_
    refine zg_ladd dX6_drawn_43 ?_
    refine zp_X6_21 rfl zw_752 dX6_drawn_44 (fun S1 => ?_)
    refine zg_aload_n 0 dX6_drawn_47 rfl rfl ?_
    refine zq_X6_21 rfl zw_752 dX6_drawn_48 ?_
    refine zg_bipush (v := 33) dX6_drawn_51 (by decide) ?_
    refine zg_lushr dX6_drawn_53 ?_
    refine zg_l2i dX6_drawn_54 ?_
    refine zg_iconst (v := 3) dX6_drawn_55 (by decide) ?_
    refine zg_irem dX6_drawn_56 (fun _ => ?_)
    refine zg_istore_nL (fun x2 => [(3, .int x2), (0, .ref (zb_ad G 21)), (1, .int l1), (2, .int l2)]) dX6_drawn_57 rfl (by decide) (fun _ => rfl) (fun x2 => ?_)
    refine zg_aload_n 1 dX6_drawn_58 rfl rfl ?_
    refine zg_iload_n 0 dX6_drawn_59 rfl rfl ?_
    refine zg_callVI (As := [.int x2]) (rest := []) 1 (zcX6_noLine N S1 x2) (by decide) (by decide) rfl (by decide) rfl zw_303 zw_304 zw_305 zw_5 zw_306 (by decide +kernel) rfl rfl (Nat.le_of_ble_eq_true rfl) dX6_drawn_60 (fun r4 S3 => ?_)
    refine zg_if_ne 105 dX6_drawn_63 (by decide) ?_ ?_
    · refine zg_sub [1, 2, 3] rfl ?_
      exact gX6_drawn_105 N k26 hk26 S3 l1 l2
    · refine zg_aload_n 1 dX6_drawn_66 rfl rfl ?_
      refine zq_X6_12 rfl rfl zw_93 dX6_drawn_67 ?_
      refine zg_bipush (v := 6) dX6_drawn_70 (by decide) ?_
      refine zg_aload_n 1 dX6_drawn_72 rfl rfl ?_
      refine zg_iload_n 0 dX6_drawn_73 rfl rfl ?_
      refine zg_callVI (As := [.int x2]) (rest := [.int 6, .ref (zb_ad G 25)]) 1 (zcX6_entry N S3 x2) (by decide) (by decide) rfl (by decide) rfl zw_307 zw_308 zw_309 zw_5 zw_310 (by decide +kernel) rfl rfl (Nat.le_of_ble_eq_true rfl) dX6_drawn_74 (fun r6 S5 => ?_)
      refine zg_imul dX6_drawn_77 ?_
      refine zg_iconst (v := 0) dX6_drawn_78 (by decide) ?_
      refine zg_iadd dX6_drawn_79 ?_
      refine zg_iald rfl dX6_drawn_80 ?_
      refine zg_if_ne 105 dX6_drawn_81 (by decide) ?_ ?_
      · refine zg_sub [1, 2, 3] rfl ?_
        exact gX6_drawn_105 N k26 hk26 S5 l1 l2
      · refine zg_aload_n 1 dX6_drawn_84 rfl rfl ?_
        refine zq_X6_12 rfl rfl zw_93 dX6_drawn_85 ?_
        refine zg_bipush (v := 76) dX6_drawn_88 (by decide) ?_
        refine zg_iald rfl dX6_drawn_90 ?_
        refine zg_bipush (v := 99) dX6_drawn_91 (by decide) ?_
        refine zg_icmp_ge 105 dX6_drawn_93 (by decide) ?_ ?_
        · refine zg_sub [1, 2, 3] rfl ?_
          exact gX6_drawn_105 N k26 hk26 S5 l1 l2
        · refine zg_aload_n 1 dX6_drawn_96 rfl rfl ?_
          refine zg_aload_n 1 dX6_drawn_97 rfl rfl ?_
          refine zq_X6_12 rfl rfl zw_93 dX6_drawn_98 ?_
          refine zg_iload_n 0 dX6_drawn_101 rfl rfl ?_
          refine zg_callVV (As := [.ref (zb_ad G 25), .int x2]) (rest := []) 2 (zcX6_feedOn N 25 rfl S5 x2) (by decide) (by decide) rfl (by decide) rfl zw_315 zw_316 zw_317 zw_5 zw_318 (by decide +kernel) rfl rfl (Nat.le_of_ble_eq_true rfl) dX6_drawn_102 (fun S7 => ?_)
          refine zg_sub [1, 2, 3] rfl ?_
          exact gX6_drawn_105 N k26 hk26 S7 l1 l2
def fX6_drawn_26 (N : Nat) : Nat → zb_S → Int32 → Int32 → Option (Int32 × zb_S)
  | 0, _, _, _ => none
  | n + 1, S, l1, l2 => fX6_drawn_26b N (fX6_drawn_26 N n) S l1 l2
set_option maxHeartbeats 4000000 in
set_option maxRecDepth 100000 in
theorem gX6_drawn_26 {l : Launch} {G : zb_G} (N : Nat) : ∀ (n : Nat) (S : zb_S) (l1 : Int32) (l2 : Int32), zb_Go zb_eI l G 5 RX6 cX6_drawn 4 (some .int) 26 [(0, .ref (zb_ad G 21)), (1, .int l1), (2, .int l2)] [] S (fX6_drawn_26 N n S l1 l2) := by
  intro n
  induction n with
  | zero => intros; exact zg_none
  | succ n ih =>
    intro S l1 l2
    exact gX6_drawn_26b N (fX6_drawn_26 N n) ih S l1 l2
def fX6_drawn_0 (N : Nat) (S : zb_S) (a1 : Int32) : Option (Int32 × zb_S) :=
  zb_let (zb_pi S 21 0 0) (fun S1 : zb_S =>
  zb_bind (fX6_in N S1 (Int32.toInt64 a1) 1 40) (fun r3 S2 =>
  if r3 = 0 then
    some ((-2), S2)
  else
    zb_bind (fX6_layTrial N S2) (fun _ S4 =>
    fX6_drawn_26 N N S4 a1 0)))
set_option maxHeartbeats 4000000 in
set_option maxRecDepth 100000 in
theorem gX6_drawn_0 {l : Launch} {G : zb_G} (N : Nat) (S : zb_S) (a1 : Int32) : zb_Go zb_eI l G 5 RX6 cX6_drawn 4 (some .int) 0 [(0, .ref (zb_ad G 21)), (1, .int a1)] [] S (fX6_drawn_0 N S a1) := by
  unfold fX6_drawn_0
  refine zg_aload_n 0 dX6_drawn_0 rfl rfl ?_
  refine zg_iconst (v := 0) dX6_drawn_1 (by decide) ?_
  refine zp_X6_0 rfl zw_114 dX6_drawn_2 (fun S1 => ?_)
  refine zg_iload_n 1 dX6_drawn_5 rfl rfl ?_
  refine zg_i2l dX6_drawn_6 ?_
  refine zg_lconst (v := 1) dX6_drawn_7 (by decide) ?_
  refine zg_ldc2 zw_763 dX6_drawn_8 ?_
  refine zg_callSI (As := [.long (Int32.toInt64 a1), .long 1, .long 40]) (rest := []) 3 (zcX6_in N S1 (Int32.toInt64 a1) 1 40) (by decide) (by decide) zw_117 zw_118 zw_5 zw_119 (by decide +kernel) rfl rfl (Nat.le_of_ble_eq_true rfl) dX6_drawn_11 (fun r3 S2 => ?_)
  refine zg_if_ne 20 dX6_drawn_14 (by decide) ?_ ?_
  · refine zg_aload_n 0 dX6_drawn_20 rfl rfl ?_
    refine zg_callVV (As := []) (rest := []) 0 (zcX6_layTrial N S2) (by decide) (by decide) rfl (by decide) rfl zw_542 zw_543 zw_544 zw_5 zw_545 (by decide +kernel) rfl rfl (Nat.le_of_ble_eq_true rfl) dX6_drawn_21 (fun S4 => ?_)
    refine zg_iconst (v := 0) dX6_drawn_24 (by decide) ?_
    refine zg_istore_n (lv' := [(2, .int 0), (0, .ref (zb_ad G 21)), (1, .int a1)]) dX6_drawn_25 rfl (by decide) rfl ?_
    refine zg_sub [1, 2, 0] rfl ?_
    exact gX6_drawn_26 N N S4 a1 0
  · refine zg_bipush (v := (-2)) dX6_drawn_17 (by decide) ?_
    exact zg_iret rfl dX6_drawn_19
def fX6_drawn (N : Nat) (S : zb_S) (a1 : Int32) : Option (Int32 × zb_S) := fX6_drawn_0 N S a1
theorem zcX6_drawn {l : Launch} {G : zb_G} (N : Nat) (S : zb_S) (a1 : Int32) : zb_C zb_eI l G 5 yX6_drawn cX6_drawn 4 (some .int) [.ref (zb_ad G 21), .int a1] S (fX6_drawn N S a1) :=
  zb_C.of (by decide +kernel) rfl (Nat.le_of_ble_eq_true rfl) rfl (gX6_drawn_0 N S a1)
-- X6_keep
def fX6_keep_26b (N : Nat) (k26 : zb_S → Int32 → Int32 → Option (Int32 × zb_S)) (S : zb_S) (l1 : Int32) (l2 : Int32) : Option (Int32 × zb_S) :=
  if 79 ≤ l2 then
    if zb_in 78 (zb_sz 24) then
    some (zb_a S 24 (Int32.toNatClampNeg 78), S) else none
  else
    if zb_in l2 (zb_sz 24) then
    if zb_in ((79 * l1) + l2) (zb_sz 27) then zb_let (zb_pa S 27 (Int32.toNatClampNeg ((79 * l1) + l2)) (zb_a S 24 (Int32.toNatClampNeg l2))) (fun S1 : zb_S =>
    zb_let (l2 + 1) (fun x2 : Int32 =>
    k26 S1 l1 x2)) else none else none
set_option maxHeartbeats 4000000 in
set_option maxRecDepth 100000 in
theorem gX6_keep_26b {l : Launch} {G : zb_G} (N : Nat) (k26 : zb_S → Int32 → Int32 → Option (Int32 × zb_S)) (hk26 : ∀ (S : zb_S) (l1 : Int32) (l2 : Int32), zb_Go zb_eI l G 1 RX6 cX6_keep 3 (some .int) 26 [(0, .ref (zb_ad G 21)), (1, .int l1), (2, .int l2)] [] S (k26 S l1 l2)) (S : zb_S) (l1 : Int32) (l2 : Int32) : zb_Go zb_eI l G 1 RX6 cX6_keep 3 (some .int) 26 [(0, .ref (zb_ad G 21)), (1, .int l1), (2, .int l2)] [] S (fX6_keep_26b N k26 S l1 l2) := by
  unfold fX6_keep_26b
  refine zg_iload_n 2 dX6_keep_26 rfl rfl ?_
  refine zg_bipush (v := 79) dX6_keep_27 (by decide) ?_
  refine zg_icmp_ge 55 dX6_keep_29 (by decide) ?_ ?_
  · refine zg_aload_n 0 dX6_keep_55 rfl rfl ?_
    refine zq_X6_11 rfl rfl zw_92 dX6_keep_56 ?_
    refine zg_bipush (v := 78) dX6_keep_59 (by decide) ?_
    refine zg_iald rfl dX6_keep_61 ?_
    exact zg_iret rfl dX6_keep_62
  · refine zg_aload_n 0 dX6_keep_32 rfl rfl ?_
    refine zq_X6_15 rfl rfl zw_95 dX6_keep_33 ?_
    refine zg_bipush (v := 79) dX6_keep_36 (by decide) ?_
    refine zg_iload_n 1 dX6_keep_38 rfl rfl ?_
    refine zg_imul dX6_keep_39 ?_
    refine zg_iload_n 2 dX6_keep_40 rfl rfl ?_
    refine zg_iadd dX6_keep_41 ?_
    refine zg_aload_n 0 dX6_keep_42 rfl rfl ?_
    refine zq_X6_11 rfl rfl zw_92 dX6_keep_43 ?_
    refine zg_iload_n 2 dX6_keep_46 rfl rfl ?_
    refine zg_iald rfl dX6_keep_47 ?_
    refine zg_iast rfl dX6_keep_48 (fun S1 => ?_)
    refine zg_iincL (fun x2 => [(2, .int x2), (0, .ref (zb_ad G 21)), (1, .int l1)]) 2 dX6_keep_49 rfl rfl (by decide) (fun _ => rfl) (fun x2 => ?_)
    refine zg_goto (tgt := 26) dX6_keep_52 (by decide) ?_
    refine zg_sub [1, 2, 0] rfl ?_
    exact hk26 S1 l1 x2
def fX6_keep_26 (N : Nat) : Nat → zb_S → Int32 → Int32 → Option (Int32 × zb_S)
  | 0, _, _, _ => none
  | n + 1, S, l1, l2 => fX6_keep_26b N (fX6_keep_26 N n) S l1 l2
set_option maxHeartbeats 4000000 in
set_option maxRecDepth 100000 in
theorem gX6_keep_26 {l : Launch} {G : zb_G} (N : Nat) : ∀ (n : Nat) (S : zb_S) (l1 : Int32) (l2 : Int32), zb_Go zb_eI l G 1 RX6 cX6_keep 3 (some .int) 26 [(0, .ref (zb_ad G 21)), (1, .int l1), (2, .int l2)] [] S (fX6_keep_26 N n S l1 l2) := by
  intro n
  induction n with
  | zero => intros; exact zg_none
  | succ n ih =>
    intro S l1 l2
    exact gX6_keep_26b N (fX6_keep_26 N n) ih S l1 l2
def fX6_keep_0 (N : Nat) (S : zb_S) (a1 : Int32) : Option (Int32 × zb_S) :=
  zb_let (zb_pi S 21 0 0) (fun S1 : zb_S =>
  zb_bind (fX6_in N S1 (Int32.toInt64 a1) 0 1) (fun r3 S2 =>
  if r3 = 0 then
    some ((-1), S2)
  else
    if zb_in a1 (zb_sz 28) then zb_let (zb_pa S2 28 (Int32.toNatClampNeg a1) (vp_nar .boolean 1)) (fun S4 : zb_S =>
    fX6_keep_26 N N S4 a1 0) else none))
set_option maxHeartbeats 4000000 in
set_option maxRecDepth 100000 in
theorem gX6_keep_0 {l : Launch} {G : zb_G} (N : Nat) (S : zb_S) (a1 : Int32) : zb_Go zb_eI l G 1 RX6 cX6_keep 3 (some .int) 0 [(0, .ref (zb_ad G 21)), (1, .int a1)] [] S (fX6_keep_0 N S a1) := by
  unfold fX6_keep_0
  refine zg_aload_n 0 dX6_keep_0 rfl rfl ?_
  refine zg_iconst (v := 0) dX6_keep_1 (by decide) ?_
  refine zp_X6_0 rfl zw_114 dX6_keep_2 (fun S1 => ?_)
  refine zg_iload_n 1 dX6_keep_5 rfl rfl ?_
  refine zg_i2l dX6_keep_6 ?_
  refine zg_lconst (v := 0) dX6_keep_7 (by decide) ?_
  refine zg_lconst (v := 1) dX6_keep_8 (by decide) ?_
  refine zg_callSI (As := [.long (Int32.toInt64 a1), .long 0, .long 1]) (rest := []) 3 (zcX6_in N S1 (Int32.toInt64 a1) 0 1) (by decide) (by decide) zw_117 zw_118 zw_5 zw_119 (by decide +kernel) rfl rfl (Nat.le_of_ble_eq_true rfl) dX6_keep_9 (fun r3 S2 => ?_)
  refine zg_if_ne 17 dX6_keep_12 (by decide) ?_ ?_
  · refine zg_aload_n 0 dX6_keep_17 rfl rfl ?_
    refine zq_X6_16 rfl rfl zw_97 dX6_keep_18 ?_
    refine zg_iload_n 1 dX6_keep_21 rfl rfl ?_
    refine zg_iconst (v := 1) dX6_keep_22 (by decide) ?_
    refine zg_zast rfl dX6_keep_23 (fun S4 => ?_)
    refine zg_iconst (v := 0) dX6_keep_24 (by decide) ?_
    refine zg_istore_n (lv' := [(2, .int 0), (0, .ref (zb_ad G 21)), (1, .int a1)]) dX6_keep_25 rfl (by decide) rfl ?_
    refine zg_sub [1, 2, 0] rfl ?_
    exact gX6_keep_26 N N S4 a1 0
  · refine zg_iconst (v := (-1)) dX6_keep_15 (by decide) ?_
    exact zg_iret rfl dX6_keep_16
def fX6_keep (N : Nat) (S : zb_S) (a1 : Int32) : Option (Int32 × zb_S) := fX6_keep_0 N S a1
theorem zcX6_keep {l : Launch} {G : zb_G} (N : Nat) (S : zb_S) (a1 : Int32) : zb_C zb_eI l G 1 yX6_keep cX6_keep 3 (some .int) [.ref (zb_ad G 21), .int a1] S (fX6_keep N S a1) :=
  zb_C.of (by decide +kernel) rfl (Nat.le_of_ble_eq_true rfl) rfl (gX6_keep_0 N S a1)
-- X6_again
def fX6_again_31b (N : Nat) (k31 : zb_S → Int32 → Int32 → Option (Int32 × zb_S)) (S : zb_S) (l1 : Int32) (l2 : Int32) : Option (Int32 × zb_S) :=
  if 79 ≤ l2 then
    zb_let (zb_pi S 21 14 0) (fun S1 : zb_S =>
    if zb_in 78 (zb_sz 24) then
    some (zb_a S1 24 (Int32.toNatClampNeg 78), S1) else none)
  else
    if zb_in ((79 * l1) + l2) (zb_sz 27) then
    if zb_in l2 (zb_sz 24) then zb_let (zb_pa S 24 (Int32.toNatClampNeg l2) (zb_a S 27 (Int32.toNatClampNeg ((79 * l1) + l2)))) (fun S2 : zb_S =>
    zb_let (l2 + 1) (fun x3 : Int32 =>
    k31 S2 l1 x3)) else none else none
set_option maxHeartbeats 4000000 in
set_option maxRecDepth 100000 in
theorem gX6_again_31b {l : Launch} {G : zb_G} (N : Nat) (k31 : zb_S → Int32 → Int32 → Option (Int32 × zb_S)) (hk31 : ∀ (S : zb_S) (l1 : Int32) (l2 : Int32), zb_Go zb_eI l G 1 RX6 cX6_again 3 (some .int) 31 [(0, .ref (zb_ad G 21)), (1, .int l1), (2, .int l2)] [] S (k31 S l1 l2)) (S : zb_S) (l1 : Int32) (l2 : Int32) : zb_Go zb_eI l G 1 RX6 cX6_again 3 (some .int) 31 [(0, .ref (zb_ad G 21)), (1, .int l1), (2, .int l2)] [] S (fX6_again_31b N k31 S l1 l2) := by
  unfold fX6_again_31b
  refine zg_iload_n 2 dX6_again_31 rfl rfl ?_
  refine zg_bipush (v := 79) dX6_again_32 (by decide) ?_
  refine zg_icmp_ge 60 dX6_again_34 (by decide) ?_ ?_
  · refine zg_aload_n 0 dX6_again_60 rfl rfl ?_
    refine zg_iconst (v := 0) dX6_again_61 (by decide) ?_
    refine zp_X6_14 rfl zw_219 dX6_again_62 (fun S1 => ?_)
    refine zg_aload_n 0 dX6_again_65 rfl rfl ?_
    refine zq_X6_11 rfl rfl zw_92 dX6_again_66 ?_
    refine zg_bipush (v := 78) dX6_again_69 (by decide) ?_
    refine zg_iald rfl dX6_again_71 ?_
    exact zg_iret rfl dX6_again_72
  · refine zg_aload_n 0 dX6_again_37 rfl rfl ?_
    refine zq_X6_11 rfl rfl zw_92 dX6_again_38 ?_
    refine zg_iload_n 2 dX6_again_41 rfl rfl ?_
    refine zg_aload_n 0 dX6_again_42 rfl rfl ?_
    refine zq_X6_15 rfl rfl zw_95 dX6_again_43 ?_
    refine zg_bipush (v := 79) dX6_again_46 (by decide) ?_
    refine zg_iload_n 1 dX6_again_48 rfl rfl ?_
    refine zg_imul dX6_again_49 ?_
    refine zg_iload_n 2 dX6_again_50 rfl rfl ?_
    refine zg_iadd dX6_again_51 ?_
    refine zg_iald rfl dX6_again_52 ?_
    refine zg_iast rfl dX6_again_53 (fun S2 => ?_)
    refine zg_iincL (fun x3 => [(2, .int x3), (0, .ref (zb_ad G 21)), (1, .int l1)]) 2 dX6_again_54 rfl rfl (by decide) (fun _ => rfl) (fun x3 => ?_)
    refine zg_goto (tgt := 31) dX6_again_57 (by decide) ?_
    refine zg_sub [1, 2, 0] rfl ?_
    exact hk31 S2 l1 x3
def fX6_again_31 (N : Nat) : Nat → zb_S → Int32 → Int32 → Option (Int32 × zb_S)
  | 0, _, _, _ => none
  | n + 1, S, l1, l2 => fX6_again_31b N (fX6_again_31 N n) S l1 l2
set_option maxHeartbeats 4000000 in
set_option maxRecDepth 100000 in
theorem gX6_again_31 {l : Launch} {G : zb_G} (N : Nat) : ∀ (n : Nat) (S : zb_S) (l1 : Int32) (l2 : Int32), zb_Go zb_eI l G 1 RX6 cX6_again 3 (some .int) 31 [(0, .ref (zb_ad G 21)), (1, .int l1), (2, .int l2)] [] S (fX6_again_31 N n S l1 l2) := by
  intro n
  induction n with
  | zero => intros; exact zg_none
  | succ n ih =>
    intro S l1 l2
    exact gX6_again_31b N (fX6_again_31 N n) ih S l1 l2
def fX6_again_0 (N : Nat) (S : zb_S) (a1 : Int32) : Option (Int32 × zb_S) :=
  zb_let (zb_pi S 21 0 0) (fun S1 : zb_S =>
  zb_bind (fX6_in N S1 (Int32.toInt64 a1) 0 1) (fun r3 S2 =>
  if r3 = 0 then
    some ((-1), S2)
  else
    if zb_in a1 (zb_sz 28) then
    if (zb_a S2 28 (Int32.toNatClampNeg a1)) = 0 then
      some ((-3), S2)
    else
      fX6_again_31 N N S2 a1 0 else none))
set_option maxHeartbeats 4000000 in
set_option maxRecDepth 100000 in
theorem gX6_again_0 {l : Launch} {G : zb_G} (N : Nat) (S : zb_S) (a1 : Int32) : zb_Go zb_eI l G 1 RX6 cX6_again 3 (some .int) 0 [(0, .ref (zb_ad G 21)), (1, .int a1)] [] S (fX6_again_0 N S a1) := by
  unfold fX6_again_0
  refine zg_aload_n 0 dX6_again_0 rfl rfl ?_
  refine zg_iconst (v := 0) dX6_again_1 (by decide) ?_
  refine zp_X6_0 rfl zw_114 dX6_again_2 (fun S1 => ?_)
  refine zg_iload_n 1 dX6_again_5 rfl rfl ?_
  refine zg_i2l dX6_again_6 ?_
  refine zg_lconst (v := 0) dX6_again_7 (by decide) ?_
  refine zg_lconst (v := 1) dX6_again_8 (by decide) ?_
  refine zg_callSI (As := [.long (Int32.toInt64 a1), .long 0, .long 1]) (rest := []) 3 (zcX6_in N S1 (Int32.toInt64 a1) 0 1) (by decide) (by decide) zw_117 zw_118 zw_5 zw_119 (by decide +kernel) rfl rfl (Nat.le_of_ble_eq_true rfl) dX6_again_9 (fun r3 S2 => ?_)
  refine zg_if_ne 17 dX6_again_12 (by decide) ?_ ?_
  · refine zg_aload_n 0 dX6_again_17 rfl rfl ?_
    refine zq_X6_16 rfl rfl zw_97 dX6_again_18 ?_
    refine zg_iload_n 1 dX6_again_21 rfl rfl ?_
    refine zg_zald rfl dX6_again_22 ?_
    refine zg_if_ne 29 dX6_again_23 (by decide) ?_ ?_
    · refine zg_iconst (v := 0) dX6_again_29 (by decide) ?_
      refine zg_istore_n (lv' := [(2, .int 0), (0, .ref (zb_ad G 21)), (1, .int a1)]) dX6_again_30 rfl (by decide) rfl ?_
      refine zg_sub [1, 2, 0] rfl ?_
      exact gX6_again_31 N N S2 a1 0
    · refine zg_bipush (v := (-3)) dX6_again_26 (by decide) ?_
      exact zg_iret rfl dX6_again_28
  · refine zg_iconst (v := (-1)) dX6_again_15 (by decide) ?_
    exact zg_iret rfl dX6_again_16
def fX6_again (N : Nat) (S : zb_S) (a1 : Int32) : Option (Int32 × zb_S) := fX6_again_0 N S a1
theorem zcX6_again {l : Launch} {G : zb_G} (N : Nat) (S : zb_S) (a1 : Int32) : zb_C zb_eI l G 1 yX6_again cX6_again 3 (some .int) [.ref (zb_ad G 21), .int a1] S (fX6_again N S a1) :=
  zb_C.of (by decide +kernel) rfl (Nat.le_of_ble_eq_true rfl) rfl (gX6_again_0 N S a1)
-- X6_count
def fX6_count_100 (N : Nat) (S : zb_S) (l1 : Int32) : Option (Int32 × zb_S) :=
  if zb_in ((73 + l1) - 4) (zb_sz 24) then
  some (zb_a S 24 (Int32.toNatClampNeg ((73 + l1) - 4)), S) else none
set_option maxHeartbeats 4000000 in
set_option maxRecDepth 100000 in
theorem gX6_count_100 {l : Launch} {G : zb_G} (N : Nat) (S : zb_S) (l1 : Int32) : zb_Go zb_eI l G 2 RX6 cX6_count 2 (some .int) 100 [(0, .ref (zb_ad G 21)), (1, .int l1)] [] S (fX6_count_100 N S l1) := by
  unfold fX6_count_100
  refine zg_aload_n 0 dX6_count_100 rfl rfl ?_
  refine zq_X6_11 rfl rfl zw_92 dX6_count_101 ?_
  refine zg_bipush (v := 73) dX6_count_104 (by decide) ?_
  refine zg_iload_n 1 dX6_count_106 rfl rfl ?_
  refine zg_iadd dX6_count_107 ?_
  refine zg_iconst (v := 4) dX6_count_108 (by decide) ?_
  refine zg_isub dX6_count_109 ?_
  refine zg_iald rfl dX6_count_110 ?_
  exact zg_iret rfl dX6_count_111
def fX6_count_0 (N : Nat) (S : zb_S) (a1 : Int32) : Option (Int32 × zb_S) :=
  zb_let (zb_pi S 21 0 0) (fun S1 : zb_S =>
  if a1 = 0 then
    some (zb_i S1 21 2, S1)
  else if a1 = 1 then
    some (zb_i S1 21 4, S1)
  else if a1 = 2 then
    some (zb_i S1 21 5, S1)
  else if a1 = 3 then
    some (zb_i S1 21 6, S1)
  else if a1 = 4 then
    fX6_count_100 N S1 a1
  else if a1 = 5 then
    fX6_count_100 N S1 a1
  else if a1 = 6 then
    if zb_in 72 (zb_sz 24) then
    some (zb_a S1 24 (Int32.toNatClampNeg 72), S1) else none
  else if a1 = 7 then
    if zb_in 78 (zb_sz 24) then
    some (zb_a S1 24 (Int32.toNatClampNeg 78), S1) else none
  else if a1 = 8 then
    if zb_in 76 (zb_sz 24) then
    some (zb_a S1 24 (Int32.toNatClampNeg 76), S1) else none
  else if a1 = 9 then
    if zb_in 77 (zb_sz 24) then
    some (zb_a S1 24 (Int32.toNatClampNeg 77), S1) else none
  else if a1 = 10 then
    zb_bind (fX6_those N 24 S1 0) (fun r13 S12 =>
    some (r13, S12))
  else if a1 = 11 then
    zb_bind (fX6_those N 24 S1 2) (fun r16 S15 =>
    some (r16, S15))
  else if a1 = 12 then
    zb_bind (fX6_those N 24 S1 3) (fun r19 S18 =>
    some (r19, S18))
  else if a1 = 13 then
    some (zb_i S1 21 14, S1)
  else if a1 = 14 then
    some (zb_i S1 21 17, S1)
  else 
    some ((-2), S1))
set_option maxHeartbeats 4000000 in
set_option maxRecDepth 100000 in
theorem gX6_count_0 {l : Launch} {G : zb_G} (N : Nat) (S : zb_S) (a1 : Int32) : zb_Go zb_eI l G 2 RX6 cX6_count 2 (some .int) 0 [(0, .ref (zb_ad G 21)), (1, .int a1)] [] S (fX6_count_0 N S a1) := by
  unfold fX6_count_0
  refine zg_aload_n 0 dX6_count_0 rfl rfl ?_
  refine zg_iconst (v := 0) dX6_count_1 (by decide) ?_
  refine zp_X6_0 rfl zw_114 dX6_count_2 (fun S1 => ?_)
  refine zg_iload_n 1 dX6_count_5 rfl rfl ?_
  refine zg_if (fun q2 => ?_) (fun q2 => ?_)
  · refine zg_tableIn dX6_count_6 (by rw [q2]; decide) (by rw [q2]; decide) (by rw [q2]; rfl) (by decide : (6 : Int) + 74 = (80 : Nat)) ?_
    refine zg_aload_n 0 dX6_count_80 rfl rfl ?_
    refine zq_X6_2 rfl zw_116 dX6_count_81 ?_
    exact zg_iret rfl dX6_count_84
  · refine zg_if (fun q3 => ?_) (fun q3 => ?_)
    · refine zg_tableIn dX6_count_6 (by rw [q3]; decide) (by rw [q3]; decide) (by rw [q3]; rfl) (by decide : (6 : Int) + 79 = (85 : Nat)) ?_
      refine zg_aload_n 0 dX6_count_85 rfl rfl ?_
      refine zq_X6_4 rfl zw_89 dX6_count_86 ?_
      exact zg_iret rfl dX6_count_89
    · refine zg_if (fun q4 => ?_) (fun q4 => ?_)
      · refine zg_tableIn dX6_count_6 (by rw [q4]; decide) (by rw [q4]; decide) (by rw [q4]; rfl) (by decide : (6 : Int) + 84 = (90 : Nat)) ?_
        refine zg_aload_n 0 dX6_count_90 rfl rfl ?_
        refine zq_X6_5 rfl zw_218 dX6_count_91 ?_
        exact zg_iret rfl dX6_count_94
      · refine zg_if (fun q5 => ?_) (fun q5 => ?_)
        · refine zg_tableIn dX6_count_6 (by rw [q5]; decide) (by rw [q5]; decide) (by rw [q5]; rfl) (by decide : (6 : Int) + 89 = (95 : Nat)) ?_
          refine zg_aload_n 0 dX6_count_95 rfl rfl ?_
          refine zq_X6_6 rfl zw_90 dX6_count_96 ?_
          exact zg_iret rfl dX6_count_99
        · refine zg_if (fun q6 => ?_) (fun q6 => ?_)
          · refine zg_tableIn dX6_count_6 (by rw [q6]; decide) (by rw [q6]; decide) (by rw [q6]; rfl) (by decide : (6 : Int) + 94 = (100 : Nat)) ?_
            exact gX6_count_100 N S1 a1
          · refine zg_if (fun q7 => ?_) (fun q7 => ?_)
            · refine zg_tableIn dX6_count_6 (by rw [q7]; decide) (by rw [q7]; decide) (by rw [q7]; rfl) (by decide : (6 : Int) + 94 = (100 : Nat)) ?_
              exact gX6_count_100 N S1 a1
            · refine zg_if (fun q8 => ?_) (fun q8 => ?_)
              · refine zg_tableIn dX6_count_6 (by rw [q8]; decide) (by rw [q8]; decide) (by rw [q8]; rfl) (by decide : (6 : Int) + 106 = (112 : Nat)) ?_
                refine zg_aload_n 0 dX6_count_112 rfl rfl ?_
                refine zq_X6_11 rfl rfl zw_92 dX6_count_113 ?_
                refine zg_bipush (v := 72) dX6_count_116 (by decide) ?_
                refine zg_iald rfl dX6_count_118 ?_
                exact zg_iret rfl dX6_count_119
              · refine zg_if (fun q9 => ?_) (fun q9 => ?_)
                · refine zg_tableIn dX6_count_6 (by rw [q9]; decide) (by rw [q9]; decide) (by rw [q9]; rfl) (by decide : (6 : Int) + 114 = (120 : Nat)) ?_
                  refine zg_aload_n 0 dX6_count_120 rfl rfl ?_
                  refine zq_X6_11 rfl rfl zw_92 dX6_count_121 ?_
                  refine zg_bipush (v := 78) dX6_count_124 (by decide) ?_
                  refine zg_iald rfl dX6_count_126 ?_
                  exact zg_iret rfl dX6_count_127
                · refine zg_if (fun q10 => ?_) (fun q10 => ?_)
                  · refine zg_tableIn dX6_count_6 (by rw [q10]; decide) (by rw [q10]; decide) (by rw [q10]; rfl) (by decide : (6 : Int) + 122 = (128 : Nat)) ?_
                    refine zg_aload_n 0 dX6_count_128 rfl rfl ?_
                    refine zq_X6_11 rfl rfl zw_92 dX6_count_129 ?_
                    refine zg_bipush (v := 76) dX6_count_132 (by decide) ?_
                    refine zg_iald rfl dX6_count_134 ?_
                    exact zg_iret rfl dX6_count_135
                  · refine zg_if (fun q11 => ?_) (fun q11 => ?_)
                    · refine zg_tableIn dX6_count_6 (by rw [q11]; decide) (by rw [q11]; decide) (by rw [q11]; rfl) (by decide : (6 : Int) + 130 = (136 : Nat)) ?_
                      refine zg_aload_n 0 dX6_count_136 rfl rfl ?_
                      refine zq_X6_11 rfl rfl zw_92 dX6_count_137 ?_
                      refine zg_bipush (v := 77) dX6_count_140 (by decide) ?_
                      refine zg_iald rfl dX6_count_142 ?_
                      exact zg_iret rfl dX6_count_143
                    · refine zg_if (fun q14 => ?_) (fun q14 => ?_)
                      · refine zg_tableIn dX6_count_6 (by rw [q14]; decide) (by rw [q14]; decide) (by rw [q14]; rfl) (by decide : (6 : Int) + 138 = (144 : Nat)) ?_
                        refine zg_aload_n 0 dX6_count_144 rfl rfl ?_
                        refine zg_aload_n 0 dX6_count_145 rfl rfl ?_
                        refine zq_X6_11 rfl rfl zw_92 dX6_count_146 ?_
                        refine zg_iconst (v := 0) dX6_count_149 (by decide) ?_
                        refine zg_callVI (As := [.ref (zb_ad G 24), .int 0]) (rest := []) 2 (zcX6_those N 24 rfl S1 0) (by decide) (by decide) rfl (by decide) rfl zw_391 zw_392 zw_393 zw_5 zw_394 (by decide +kernel) rfl rfl (Nat.le_of_ble_eq_true rfl) dX6_count_150 (fun r13 S12 => ?_)
                        exact zg_iret rfl dX6_count_153
                      · refine zg_if (fun q17 => ?_) (fun q17 => ?_)
                        · refine zg_tableIn dX6_count_6 (by rw [q17]; decide) (by rw [q17]; decide) (by rw [q17]; rfl) (by decide : (6 : Int) + 148 = (154 : Nat)) ?_
                          refine zg_aload_n 0 dX6_count_154 rfl rfl ?_
                          refine zg_aload_n 0 dX6_count_155 rfl rfl ?_
                          refine zq_X6_11 rfl rfl zw_92 dX6_count_156 ?_
                          refine zg_iconst (v := 2) dX6_count_159 (by decide) ?_
                          refine zg_callVI (As := [.ref (zb_ad G 24), .int 2]) (rest := []) 2 (zcX6_those N 24 rfl S1 2) (by decide) (by decide) rfl (by decide) rfl zw_391 zw_392 zw_393 zw_5 zw_394 (by decide +kernel) rfl rfl (Nat.le_of_ble_eq_true rfl) dX6_count_160 (fun r16 S15 => ?_)
                          exact zg_iret rfl dX6_count_163
                        · refine zg_if (fun q20 => ?_) (fun q20 => ?_)
                          · refine zg_tableIn dX6_count_6 (by rw [q20]; decide) (by rw [q20]; decide) (by rw [q20]; rfl) (by decide : (6 : Int) + 158 = (164 : Nat)) ?_
                            refine zg_aload_n 0 dX6_count_164 rfl rfl ?_
                            refine zg_aload_n 0 dX6_count_165 rfl rfl ?_
                            refine zq_X6_11 rfl rfl zw_92 dX6_count_166 ?_
                            refine zg_iconst (v := 3) dX6_count_169 (by decide) ?_
                            refine zg_callVI (As := [.ref (zb_ad G 24), .int 3]) (rest := []) 2 (zcX6_those N 24 rfl S1 3) (by decide) (by decide) rfl (by decide) rfl zw_391 zw_392 zw_393 zw_5 zw_394 (by decide +kernel) rfl rfl (Nat.le_of_ble_eq_true rfl) dX6_count_170 (fun r19 S18 => ?_)
                            exact zg_iret rfl dX6_count_173
                          · refine zg_if (fun q21 => ?_) (fun q21 => ?_)
                            · refine zg_tableIn dX6_count_6 (by rw [q21]; decide) (by rw [q21]; decide) (by rw [q21]; rfl) (by decide : (6 : Int) + 168 = (174 : Nat)) ?_
                              refine zg_aload_n 0 dX6_count_174 rfl rfl ?_
                              refine zq_X6_14 rfl zw_219 dX6_count_175 ?_
                              exact zg_iret rfl dX6_count_178
                            · refine zg_if (fun q22 => ?_) (fun q22 => ?_)
                              · refine zg_tableIn dX6_count_6 (by rw [q22]; decide) (by rw [q22]; decide) (by rw [q22]; rfl) (by decide : (6 : Int) + 173 = (179 : Nat)) ?_
                                refine zg_aload_n 0 dX6_count_179 rfl rfl ?_
                                refine zq_X6_17 rfl zw_640 dX6_count_180 ?_
                                exact zg_iret rfl dX6_count_183
                              · refine zg_tableOut dX6_count_6 (by have q2 := lv_neT q2 (show (0 : Int32).toInt = 0 from by decide); have q3 := lv_neT q3 (show (1 : Int32).toInt = 1 from by decide); have q4 := lv_neT q4 (show (2 : Int32).toInt = 2 from by decide); have q5 := lv_neT q5 (show (3 : Int32).toInt = 3 from by decide); have q6 := lv_neT q6 (show (4 : Int32).toInt = 4 from by decide); have q7 := lv_neT q7 (show (5 : Int32).toInt = 5 from by decide); have q8 := lv_neT q8 (show (6 : Int32).toInt = 6 from by decide); have q9 := lv_neT q9 (show (7 : Int32).toInt = 7 from by decide); have q10 := lv_neT q10 (show (8 : Int32).toInt = 8 from by decide); have q11 := lv_neT q11 (show (9 : Int32).toInt = 9 from by decide); have q14 := lv_neT q14 (show (10 : Int32).toInt = 10 from by decide); have q17 := lv_neT q17 (show (11 : Int32).toInt = 11 from by decide); have q20 := lv_neT q20 (show (12 : Int32).toInt = 12 from by decide); have q21 := lv_neT q21 (show (13 : Int32).toInt = 13 from by decide); have q22 := lv_neT q22 (show (14 : Int32).toInt = 14 from by decide); omega) (by decide : (6 : Int) + 178 = (184 : Nat)) ?_
                                refine zg_bipush (v := (-2)) dX6_count_184 (by decide) ?_
                                exact zg_iret rfl dX6_count_186
def fX6_count (N : Nat) (S : zb_S) (a1 : Int32) : Option (Int32 × zb_S) := fX6_count_0 N S a1
theorem zcX6_count {l : Launch} {G : zb_G} (N : Nat) (S : zb_S) (a1 : Int32) : zb_C zb_eI l G 2 yX6_count cX6_count 2 (some .int) [.ref (zb_ad G 21), .int a1] S (fX6_count N S a1) :=
  zb_C.of (by decide +kernel) rfl (Nat.le_of_ble_eq_true rfl) rfl (gX6_count_0 N S a1)
