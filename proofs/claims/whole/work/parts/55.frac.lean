section FR
variable {M s J tl na nx ns N b r : Nat} {S T S' S'' : zb_S} {f f' g g' : Nat → Int32}
theorem bt_nI {m i : Nat} (hi : i < 32) : bt (nI m) i = zu_b m i := by
  unfold bt zu_b
  show (BitVec.ofNat 32 m).getLsbD i = _
  rw [BitVec.getLsbD_ofNat]
  simp [hi]
theorem zm_ons_c {m : Nat} : ∀ k, k ≤ 31 → zm_ons (nI m) k = nI (zu_c (zu_b m) k) := by
  intro k
  induction k with
  | zero => intro _; rfl
  | succ k ih =>
    intro hk
    simp only [zm_ons, zu_c]
    rw [ih (by omega), ← nI_add]
    congr 1
    by_cases c : zu_b m k = true
    · rw [if_pos c]
      exact (zb_1 (show k < 32 by omega)).mpr (by rw [bt_nI (by omega)]; exact c)
    · rw [if_neg c]
      apply b_ext
      intro i hi
      rw [b_and, b_sshr k (by omega) _ hi, show bt (nI 0) i = false from b_0 i]
      by_cases h0 : i = 0
      · subst h0
        rw [if_pos (by omega), Nat.add_zero, bt_nI (by omega)]
        simp [c]
      · have h1 : bt 1 i = false := (by decide +kernel : ∀ i, i < 32 → i ≠ 0 → bt 1 i = false) i hi h0
        simp [h1]
theorem zn_of12 {m : Int32} (h : ∀ k, 12 ≤ k → k < 32 → bt m k = false) : ∃ j, j < 4096 ∧ m = nI j := by
  have e : m &&& 4095 = m := by
    apply b_ext
    intro i hi
    rw [b_and]
    by_cases c : i < 12
    · have := (by decide +kernel : ∀ i, i < 12 → bt 4095 i = true) i c
      rw [this]; simp
    · rw [h i (by omega) hi]; simp
  obtain ⟨j, h1, h2⟩ := pk_andE m (m := 4095) 12 (by decide)
  rw [e] at h2
  exact ⟨j, h1, h2⟩
theorem zu_b_big {m k i : Nat} (h : m < 2 ^ k) (hi : k ≤ i) : zu_b m i = false := by
  unfold zu_b
  exact Nat.testBit_lt_two_pow (Nat.lt_of_lt_of_le h (Nat.pow_le_pow_right (by omega) hi))
theorem m_fact {k : Nat} (hN : 5000 ≤ N) (hk : k ≤ 6) : fX6_factorial N S (nI k) = some (zb_fac k, S) := by
  obtain ⟨n, rfl⟩ : ∃ n, N = n + 8 := ⟨N - 8, by omega⟩
  unfold fX6_factorial fX6_factorial_0
  have : k = 0 ∨ k = 1 ∨ k = 2 ∨ k = 3 ∨ k = 4 ∨ k = 5 ∨ k = 6 := by omega
  rcases this with e | e | e | e | e | e | e <;> subst e <;> rfl
theorem zb_fac_l {k : Nat} (hk : k ≤ 6) : ∃ l, 0 < l ∧ l ≤ 720 ∧ zb_fac k = nI l := by
  have : k = 0 ∨ k = 1 ∨ k = 2 ∨ k = 3 ∨ k = 4 ∨ k = 5 ∨ k = 6 := by omega
  rcases this with e | e | e | e | e | e | e <;> subst e
  · exact ⟨1, by omega, by omega, rfl⟩
  · exact ⟨1, by omega, by omega, rfl⟩
  · exact ⟨2, by omega, by omega, rfl⟩
  · exact ⟨6, by omega, by omega, rfl⟩
  · exact ⟨24, by omega, by omega, rfl⟩
  · exact ⟨120, by omega, by omega, rfl⟩
  · exact ⟨720, by omega, by omega, rfl⟩
theorem zb_fac_B {k : Nat} (hk : k ≤ 5) : zu_B 120 (zb_fac k) := by
  have : k = 0 ∨ k = 1 ∨ k = 2 ∨ k = 3 ∨ k = 4 ∨ k = 5 := by omega
  rcases this with e | e | e | e | e | e <;> subst e <;> unfold zu_B <;> decide
/-! the common divisor -/
theorem zn_rem {a b : Nat} (ha : a < 2147483648) (hb : b < 2147483648) (h0 : 0 < b) : nI a - nI a / nI b * nI b = nI (a % b) := pk_rem ha h0 hb
theorem zg_rec {a b : Nat} : Nat.gcd b (a % b) = Nat.gcd a b := by
  rw [Nat.gcd_comm b, ← Nat.gcd_rec, Nat.gcd_comm]
theorem p_gcd1 {a b c n : Nat} (ha : a < 2147483648) (hb : b < 2147483648) (hc : c < 64) (h0 : 0 < b) : fX5_commonDivisor_7 N (n + 1) S (nI a) (nI b) (nI c) = fX5_commonDivisor_7 N n S (nI b) (nI (a % b)) (nI (c + 1)) := by
  conv => lhs; unfold fX5_commonDivisor_7 fX5_commonDivisor_7b
  simp only [zb_let]
  have e : ¬ nI b = 0 := by rw [zn_eq0 hb]; omega
  rw [if_neg (show ¬ (64 : Int32) ≤ nI c by rw [show (64 : Int32) = nI 64 from rfl, zn_le (by omega) (by omega)]; omega), if_neg e, if_neg e, zn_rem ha hb h0, show nI c + 1 = nI (c + 1) from nI_1 c]
theorem p_gcd0 {a c n : Nat} : fX5_commonDivisor_7 N (n + 1) S (nI a) (nI 0) (nI c) = some (nI a, S) := by
  unfold fX5_commonDivisor_7 fX5_commonDivisor_7b
  rw [if_pos (show nI 0 = 0 from rfl)]
  split <;> rfl
theorem m_gcd1 {a b n : Nat} (ha : a < 2147483648) (hb : b < 2147483648) (h0 : 0 < b) : fX6_divisor_13 N (n + 1) S (nI a) (nI b) = fX6_divisor_13 N n S (nI b) (nI (a % b)) := by
  conv => lhs; unfold fX6_divisor_13 fX6_divisor_13b
  simp only [zb_let]
  have e : ¬ nI b = 0 := by rw [zn_eq0 hb]; omega
  rw [if_neg e, if_neg e, zn_rem ha hb h0]
theorem m_gcd0 {a n : Nat} : fX6_divisor_13 N (n + 1) S (nI a) (nI 0) = some (nI a, S) := by
  unfold fX6_divisor_13 fX6_divisor_13b
  rw [if_pos (show nI 0 = 0 from rfl)]
theorem p_gcd : ∀ (j a b c n : Nat), b < 2 ^ j → j ≤ 30 → a < 2147483648 → c + 2 * j < 64 → 2 * j + 1 < n → fX5_commonDivisor_7 N n S (nI a) (nI b) (nI c) = some (nI (Nat.gcd a b), S) := by
  intro j
  induction j with
  | zero =>
    intro a b c n hb hj ha hc hn
    obtain ⟨n, rfl⟩ : ∃ q, n = q + 1 := ⟨n - 1, by omega⟩
    have e : b = 0 := by simp at hb; omega
    subst e
    rw [p_gcd0, Nat.gcd_zero_right]
  | succ j ih =>
    intro a b c n hb hj ha hc hn
    obtain ⟨n, rfl⟩ : ∃ q, n = q + 2 := ⟨n - 2, by omega⟩
    have h30 : 2 ^ (j + 1) ≤ 2 ^ 30 := Nat.pow_le_pow_right (by omega) hj
    have hb2 : b < 2147483648 := by omega
    rcases Nat.eq_zero_or_pos b with e | e
    · subst e; rw [p_gcd0, Nat.gcd_zero_right]
    · have h1 := Nat.mod_lt a e
      rw [p_gcd1 (n := n + 1) ha hb2 (by omega) e, ← zg_rec]
      rcases Nat.eq_zero_or_pos (a % b) with e2 | e2
      · rw [e2, p_gcd0, Nat.gcd_zero_right]
      · rw [p_gcd1 (n := n) hb2 (by omega) (by omega) e2, ← zg_rec]
        have h2 := Nat.mod_lt b e2
        have h3 := Nat.div_add_mod b (a % b)
        have h4 : 1 ≤ b / (a % b) := (Nat.one_le_div_iff e2).mpr (by omega)
        have h5 : a % b ≤ a % b * (b / (a % b)) := Nat.le_mul_of_pos_right _ h4
        exact ih (a % b) (b % (a % b)) (c + 1 + 1) n (by rw [Nat.pow_succ] at hb; omega) (by omega) (by omega) (by omega) (by omega)
theorem m_gcd : ∀ (j a b n : Nat), b < 2 ^ j → j ≤ 30 → a < 2147483648 → 2 * j + 1 < n → fX6_divisor_13 N n S (nI a) (nI b) = some (nI (Nat.gcd a b), S) := by
  intro j
  induction j with
  | zero =>
    intro a b n hb hj ha hn
    obtain ⟨n, rfl⟩ : ∃ q, n = q + 1 := ⟨n - 1, by omega⟩
    have e : b = 0 := by simp at hb; omega
    subst e
    rw [m_gcd0, Nat.gcd_zero_right]
  | succ j ih =>
    intro a b n hb hj ha hn
    obtain ⟨n, rfl⟩ : ∃ q, n = q + 2 := ⟨n - 2, by omega⟩
    have h30 : 2 ^ (j + 1) ≤ 2 ^ 30 := Nat.pow_le_pow_right (by omega) hj
    have hb2 : b < 2147483648 := by omega
    rcases Nat.eq_zero_or_pos b with e | e
    · subst e; rw [m_gcd0, Nat.gcd_zero_right]
    · have h1 := Nat.mod_lt a e
      rw [m_gcd1 (n := n + 1) ha hb2 e, ← zg_rec]
      rcases Nat.eq_zero_or_pos (a % b) with e2 | e2
      · rw [e2, m_gcd0, Nat.gcd_zero_right]
      · rw [m_gcd1 (n := n) hb2 (by omega) e2, ← zg_rec]
        have h2 := Nat.mod_lt b e2
        have h3 := Nat.div_add_mod b (a % b)
        have h4 : 1 ≤ b / (a % b) := (Nat.one_le_div_iff e2).mpr (by omega)
        have h5 : a % b ≤ a % b * (b / (a % b)) := Nat.le_mul_of_pos_right _ h4
        exact ih (a % b) (b % (a % b)) n (by rw [Nat.pow_succ] at hb; omega) (by omega) (by omega) (by omega)
/-- both bring a fraction to its least terms -/
theorem e_frac {c l : Nat} {x u : Int32} (hN : 5000 ≤ N) (hx : zu_B c x) (hc : c < 2147483648) (h0 : 0 < l) (hl : l < 2 ^ 27) : ∃ v, (∀ S, fX5_fraction N S x (nI l) u = some (v, S)) ∧ ∀ T, fX6_fraction N T x (nI l) u = some (v, T) := by
  unfold zu_B at hx
  have habs : ∃ a, a < 2147483648 ∧ (if 0 ≤ x then x else 0 - x) = nI a ∧ (if 0 ≤ x then x else -x) = nI a := by
    by_cases h : 0 ≤ x
    · rw [if_pos h, if_pos h]
      obtain ⟨j, j1, j2⟩ := nI_of (Int32.not_lt.mpr h)
      exact ⟨j, j1, j2, j2⟩
    · rw [if_neg h, if_neg h, Int32.zero_sub]
      have h2 : x.toInt < 0 := by
        have := Int32.not_le.mp h
        rw [Int32.lt_iff_toInt_lt] at this
        exact this
      have h3 : (-x).toInt = -x.toInt := by
        rw [Int32.toInt_neg, zu_bm (by omega) (by omega)]
      have h4 : ¬ (-x) < 0 := by
        rw [Int32.lt_iff_toInt_lt, h3]
        show ¬ -x.toInt < 0
        omega
      obtain ⟨j, j1, j2⟩ := nI_of h4
      exact ⟨j, j1, j2, j2⟩
  obtain ⟨a, a1, a2, a3⟩ := habs
  have hg : 0 < Nat.gcd a l := Nat.gcd_pos_of_pos_right _ h0
  have hg2 : Nat.gcd a l ≤ l := Nat.gcd_le_right _ h0
  have e0 : ¬ nI (Nat.gcd a l) = 0 := by rw [zn_eq0 (by omega)]; omega
  have e1 : (1 : Int32) ≤ nI (Nat.gcd a l) := (zn_le (a := 1) (by omega) (by omega)).mpr hg
  refine ⟨if u = 0 then nI l / nI (Nat.gcd a l) else x / nI (Nat.gcd a l), fun S => ?_, fun T => ?_⟩
  · unfold fX5_fraction fX5_fraction_0 fX5_commonDivisor fX5_commonDivisor_0
    rw [a2, show fX5_commonDivisor_7 N N S (nI a) (nI l) 0 = fX5_commonDivisor_7 N N S (nI a) (nI l) (nI 0) from rfl, p_gcd 27 a l 0 N hl (by omega) a1 (by omega) (by omega), zb_bind_some, if_pos e1, if_neg e0, if_neg e0]
    by_cases h : u = 0
    · rw [if_pos h, if_pos h]
    · rw [if_neg h, if_neg h]
  · have ed : fX6_divisor N T x (nI l) = some (nI (Nat.gcd a l), T) := by
      unfold fX6_divisor fX6_divisor_0 fX6_divisor_10
      by_cases h : 0 ≤ x
      · rw [if_pos h]
        rw [if_pos h] at a3
        rw [a3]
        exact m_gcd 27 a l N hl (by omega) a1 (by omega)
      · rw [if_neg h]
        rw [if_neg h] at a3
        rw [a3]
        exact m_gcd 27 a l N hl (by omega) a1 (by omega)
    unfold fX6_fraction fX6_fraction_0
    rw [ed, zb_bind_some, if_neg e0, if_neg e0]
    by_cases h : u = 0
    · rw [if_pos h, if_pos h]
    · rw [if_neg h, if_neg h]
/-! where all is out, all stays out -/
theorem zs_E_mv1 {go : Nat → Bool} {z : Nat} {x : zs_X} (hz : z < M + s) (h : zs_E (M + s) x.1) : zs_E (M + s) (zs_mv1 M s J go z x).1 ∧ (zs_mv1 M s J go z x).2 = x.2 := by
  unfold zs_mv1
  by_cases c : go z = true
  · rw [if_pos c]
    unfold zs_ho
    rw [if_pos (by rw [upd_n (by omega)]; exact h z hz)]
    exact ⟨fun y hy => by show upd x.1 (6 * z + 5) 0 (6 * y) = 0; rw [upd_n (by omega)]; exact h y hy, rfl⟩
  · rw [if_neg c]; exact ⟨h, rfl⟩
theorem zs_E_mv {go : Nat → Bool} {lo : Nat} : ∀ (n : Nat) (x : zs_X), lo + n ≤ M + s → zs_E (M + s) x.1 → zs_E (M + s) (zs_mv M s J go lo n x).1 ∧ (zs_mv M s J go lo n x).2 = x.2 := by
  intro n
  induction n with
  | zero => intro x _ h; exact ⟨h, rfl⟩
  | succ n ih =>
    intro x hn h
    have h1 := zs_E_mv1 (M := M) (s := s) (J := J) (go := go) (z := lo + n) (x := x) (by omega) h
    have h2 := ih _ (by omega) h1.1
    exact ⟨h2.1, h2.2.trans h1.2⟩
theorem zs_E_step (hl : zc_lim M s J) (h : zs_E (M + s) g) : zs_E (M + s) (zs_step M s J g).1 ∧ (zs_step M s J g).1 77 = g 77 := by
  obtain ⟨l1, l2, l3, l4, l5⟩ := id hl
  have h2 : zs_E (M + s) (zs_g2 M s J g) := by
    intro z hz
    unfold zs_g2 zs_tks
    split
    · rw [zs_tk_n (by omega) (by omega), zs_tk_n (by omega) (by omega), zs_wk_n (by omega)]; exact h z hz
    · rw [zs_tk_n (by omega) (by omega), zs_wk_n (by omega)]; exact h z hz
  have h3 : zs_E (M + s) (zs_g3 M s J g).1 ∧ (zs_g3 M s J g).2 = 0 := by
    have a := zs_E_mv (M := M) (s := s) (J := J) (go := zs_gos M s J g) (lo := 0) M (zs_g2 M s J g, 0) (by omega) h2
    have b := zs_E_mv (M := M) (s := s) (J := J) (go := zs_gos M s J g) (lo := M) s _ (by omega) a.1
    exact ⟨b.1, b.2.trans a.2⟩
  have h4 : ∀ n, n ≤ M + s → zs_E (M + s) (zs_idl (zs_any M s J (zs_g3 M s J g).1) n (zs_g3 M s J g).1) := by
    intro n
    induction n with
    | zero => intro _; exact h3.1
    | succ n ih =>
      intro hn z hz
      have h1 := ih (by omega) z hz
      simp only [zs_idl]
      unfold zs_id1
      split
      · rw [upd_n (by omega)]; exact h1
      · split
        · rw [upd_n (by omega), upd_n (by omega)]; exact h1
        · rw [upd_n (by omega)]; exact h1
  refine ⟨fun z hz => ?_, ?_⟩
  · show upd (zs_g4 M s J g) 78 _ (6 * z) = 0
    rw [upd_n (by omega)]
    exact h4 (M + s) (Nat.le_refl _) z hz
  · rw [zs_out hl, if_pos (show (zs_step M s J g).2 = 0 from h3.2), Int32.add_zero]
theorem zs_E_steps (hl : zc_lim M s J) : ∀ (n : Nat) (g : Nat → Int32), zs_E (M + s) g → zs_E (M + s) (zs_steps M s J n g) ∧ zs_steps M s J n g 77 = g 77 := by
  intro n
  induction n with
  | zero => intro g h; exact ⟨h, rfl⟩
  | succ n ih =>
    intro g h
    have h1 := zs_E_step hl h
    have h2 := ih _ h1.1
    exact ⟨h2.1, h2.2.trans h1.2⟩
end FR
