/-! ===== Int32 by its bits: bt x i ===== -/
def bt (x : Int32) (i : Nat) : Bool := x.toBitVec.getLsbD i
theorem b_ext {x y : Int32} (h : ∀ i, i < 32 → bt x i = bt y i) : x = y := Int32.toBitVec_inj.mp (BitVec.eq_of_getLsbD_eq (fun i hi => h i hi))
theorem b_or (x y : Int32) (i : Nat) : bt (x ||| y) i = (bt x i || bt y i) := by unfold bt; rw [Int32.toBitVec_or, BitVec.getLsbD_or]
theorem b_and (x y : Int32) (i : Nat) : bt (x &&& y) i = (bt x i && bt y i) := by unfold bt; rw [Int32.toBitVec_and, BitVec.getLsbD_and]
theorem b_xor (x y : Int32) (i : Nat) : bt (x ^^^ y) i = (bt x i ^^ bt y i) := by unfold bt; rw [Int32.toBitVec_xor, BitVec.getLsbD_xor]
theorem b_big {x : Int32} {i : Nat} (h : 32 ≤ i) : bt x i = false := BitVec.getLsbD_of_ge _ _ h
theorem b_m1 : ∀ i, i < 32 → bt (-1) i = true := by decide +kernel
theorem b_0 (i : Nat) : bt 0 i = false := BitVec.getLsbD_zero
theorem s_l : ∀ n, n < 32 → ((nI n &&& 31).toBitVec.smod 32).toNat = n := by decide +kernel
theorem s_u : ∀ n, n < 32 → (((nI n).toUInt32 &&& Int32.toUInt32 31).toBitVec % 32).toNat = n := by decide +kernel
theorem b_shl (n : Nat) (hn : n < 32) (x : Int32) {i : Nat} (hi : i < 32) : bt (x <<< (nI n &&& 31)) i = (decide (n ≤ i) && bt x (i - n)) := by
  unfold bt
  rw [Int32.toBitVec_shiftLeft]
  show (x.toBitVec <<< ((nI n &&& 31).toBitVec.smod 32).toNat).getLsbD i = _
  rw [s_l n hn, BitVec.getLsbD_shiftLeft]
  rcases Nat.lt_or_ge i n with h | h
  · simp [h, Nat.not_le.mpr h]
  · simp [hi, h, Nat.not_lt.mpr h]
theorem b_sshr (n : Nat) (hn : n < 32) (x : Int32) {i : Nat} (hi : i < 32) : bt (x >>> (nI n &&& 31)) i = if n + i < 32 then bt x (n + i) else bt x 31 := by
  unfold bt
  rw [Int32.toBitVec_shiftRight]
  show (x.toBitVec.sshiftRight ((nI n &&& 31).toBitVec.smod 32).toNat).getLsbD i = _
  rw [s_l n hn, BitVec.getLsbD_sshiftRight, BitVec.msb_eq_getLsbD_last]
  simp [hi]
/-! numbers -/
theorem zn_al (a k : Nat) : (no_index (OfNat.ofNat a : Int32)) + nI k = nI (a + k) := nI_add a k
theorem zn_ar (a k : Nat) : nI k + (no_index (OfNat.ofNat a : Int32)) = nI (k + a) := nI_add k a
theorem zn_ml (a k : Nat) : (no_index (OfNat.ofNat a : Int32)) * nI k = nI (a * k) := pk_mul a k
theorem zn_cl {n : Nat} (h : n < 2147483648) : Int32.toNatClampNeg (nI n) = n := nI_clamp h
theorem zn_in {n s : Nat} (h : n < 2147483648) : zb_in (nI n) s ↔ n < s := by
  unfold zb_in
  rw [nI_clamp h]
  exact ⟨fun q => q.2, fun q => ⟨nI_pos h, q⟩⟩
theorem zn_le {a b : Nat} (ha : a < 2147483648) (hb : b < 2147483648) : nI a ≤ nI b ↔ a ≤ b := nI_leI ha hb
theorem zn_lt {a b : Nat} (ha : a < 2147483648) (hb : b < 2147483648) : nI a < nI b ↔ a < b := nI_ltI ha hb
theorem zn_eq {a b : Nat} (ha : a < 2147483648) (hb : b < 2147483648) : nI a = nI b ↔ a = b := nI_eq ha hb
theorem zn_lit (a : Nat) : (no_index (OfNat.ofNat a : Int32)) = nI a := rfl
theorem zn_m1 (n : Nat) : nI (n + 1) + (-1) = nI n := pk_m1 n
theorem zn_am1 (x : Int32) : x + (-1) = x - 1 := by rw [Int32.sub_eq_add_neg]
theorem zn_s1 (n : Nat) : nI (n + 1) - 1 = nI n := nI_pred n
theorem zn_neg1 : nI 0 - 1 < 0 := by decide
theorem zn_neg1' : nI 0 - 1 = -1 := by decide
theorem zb_1 {a : Int32} {k : Nat} (hk : k < 32) : ((a >>> (nI k &&& 31)) &&& 1) = 1 ↔ bt a k = true := by
  constructor
  · intro h
    have h2 : bt ((a >>> (nI k &&& 31)) &&& 1) 0 = bt 1 0 := by rw [h]
    rw [b_and, b_sshr k hk a (by omega)] at h2
    have h3 : bt 1 0 = true := by decide
    rw [h3] at h2
    simpa [hk] using h2
  · intro h
    apply b_ext
    intro i hi
    rw [b_and]
    by_cases h0 : i = 0
    · subst h0
      rw [b_sshr k hk a (by omega)]
      simp [hk, h]
    · have h1 : bt 1 i = false := by
        have := (by decide +kernel : ∀ i, i < 32 → i ≠ 0 → bt 1 i = false) i hi h0
        exact this
      simp [h1]
theorem zb_one {k i : Nat} (hk : k < 32) (hi : i < 32) : bt ((1 : Int32) <<< (nI k &&& 31)) i = decide (i = k) := by
  rw [b_shl k hk 1 hi]
  have h := (by decide +kernel : ∀ i, i < 32 → bt 1 i = decide (i = 0))
  by_cases h1 : k ≤ i
  · rw [h (i - k) (by omega)]
    by_cases h2 : i = k <;> simp [h1, h2] <;> omega
  · have : ¬ i = k := by omega
    simp [h1, this]
theorem zb_not (x : Int32) {i : Nat} (hi : i < 32) : bt (x ^^^ (-1)) i = !bt x i := by rw [b_xor, b_m1 i hi]; simp
/-! the state: rows set whole -/
def zs_a (S : zb_S) (o : Nat) (f : Nat → Int32) : zb_S := (S.1, S.2.1, va_up S.2.2 o f)
theorem zs_pa (S : zb_S) (o k : Nat) (v : Int32) : zb_pa S o k v = zs_a S o (upd (zb_a S o) k v) := rfl
theorem zs_cp (S : zb_S) (x sp y dp n : Nat) : zb_cp S x sp y dp n = zs_a S y (va_cpy (zb_a S x) (zb_a S y) sp dp n) := rfl
theorem zs_i (S : zb_S) (o : Nat) (f : Nat → Int32) (b k : Nat) : zb_i (zs_a S o f) b k = zb_i S b k := rfl
theorem zs_l (S : zb_S) (o : Nat) (f : Nat → Int32) (b k : Nat) : zb_l (zs_a S o f) b k = zb_l S b k := rfl
theorem zs_same (S : zb_S) (o : Nat) (f : Nat → Int32) : zb_a (zs_a S o f) o = f := by funext k; simp [zb_a, zs_a, va_up]
theorem zs_ne {S : zb_S} {o q : Nat} {f : Nat → Int32} (h : q ≠ o) : zb_a (zs_a S o f) q = zb_a S q := by funext k; simp [zb_a, zs_a, va_up, h]
theorem zs_aa (S : zb_S) (o : Nat) (f g : Nat → Int32) : zs_a (zs_a S o f) o g = zs_a S o g := by simp only [zs_a]; rw [bx_uu]
theorem zs_id (S : zb_S) (o : Nat) : zs_a S o (zb_a S o) = S := by
  show (S.1, S.2.1, va_up S.2.2 o (S.2.2 o)) = S
  have : va_up S.2.2 o (S.2.2 o) = S.2.2 := by funext j; simp only [va_up]; split <;> simp_all
  rw [this]
theorem zs_pi_i (S : zb_S) (b k : Nat) (v : Int32) (b' k' : Nat) : zb_i (zb_pi S b k v) b' k' = if b' = b ∧ k' = k then v else zb_i S b' k' := by
  simp only [zb_i, zb_pi, va_up]
  by_cases h1 : b' = b
  · subst h1
    by_cases h2 : k' = k <;> simp [h2, va_up]
  · simp [h1]
theorem zs_pi_a (S : zb_S) (b k : Nat) (v : Int32) (o : Nat) : zb_a (zb_pi S b k v) o = zb_a S o := rfl
theorem zs_pi_l (S : zb_S) (b k : Nat) (v : Int32) (o q : Nat) : zb_l (zb_pi S b k v) o q = zb_l S o q := rfl
theorem zs_api (S : zb_S) (o : Nat) (f : Nat → Int32) (b k : Nat) (v : Int32) : zb_pi (zs_a S o f) b k v = zs_a (zb_pi S b k v) o f := rfl
theorem zs_pipi (S : zb_S) (b k : Nat) (v w : Int32) : zb_pi (zb_pi S b k v) b k w = zb_pi S b k w := by
  show (va_up (va_up S.1 b (va_up (S.1 b) k v)) b (va_up ((va_up S.1 b (va_up (S.1 b) k v)) b) k w), S.2.1, S.2.2) = _
  have : (va_up S.1 b (va_up (S.1 b) k v)) b = va_up (S.1 b) k v := by simp [va_up]
  rw [this, bx_uu, bx_uu]; rfl
theorem upd_s (f : Nat → Int32) (k : Nat) (v : Int32) : upd f k v k = v := by simp [upd]
theorem upd_n {f : Nat → Int32} {k j : Nat} {v : Int32} (h : j ≠ k) : upd f k v j = f j := by simp [upd, h]
theorem zn_le0 {n : Nat} (h : n < 2147483648) : nI n ≤ 0 ↔ n = 0 := by
  rw [show (0 : Int32) = nI 0 from rfl, nI_leI h (by omega)]; omega
theorem zn_eq0 {n : Nat} (h : n < 2147483648) : nI n = 0 ↔ n = 0 := by
  rw [show (0 : Int32) = nI 0 from rfl, nI_eq h (by omega)]
theorem zn_lt0 {n : Nat} (h : n < 2147483648) : nI n < 0 ↔ False := by
  rw [show (0 : Int32) = nI 0 from rfl, nI_ltI h (by omega)]; simp
theorem zn_0lt {n : Nat} (h : n < 2147483648) : 0 < nI n ↔ 0 < n := by
  rw [show (0 : Int32) = nI 0 from rfl, nI_ltI (by omega) h]
theorem zn_0le {n : Nat} (h : n < 2147483648) : 0 ≤ nI n ↔ True := by
  rw [show (0 : Int32) = nI 0 from rfl, nI_leI (by omega) h]; simp
theorem zb_bitc {z k : Nat} {c : Bool} (hz : z < 32) (hk : k < 32) : bt (if c = true then (1 : Int32) <<< (nI z &&& 31) else 0) k = (decide (k = z) && c) := by
  cases c
  · simp [b_0]
  · simp [zb_one hz hk]
