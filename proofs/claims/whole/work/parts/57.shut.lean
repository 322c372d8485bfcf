section ST
variable {M s J tl na nx ns N b r n w x : Nat} {S T S' S'' U : zb_S} {f f' g g' g0 : Nat → Int32} {A : Nat → Bool}
def zv_W (M s J x : Nat) : Nat → (Nat → Int32) → Nat
  | 0, g => if zs_E (M + s) g then 1 else 0
  | n + 1, g => x * zv_W M s J x n (zs_step M s J (upd g 72 0)).1 + (10 - x) * zv_W M s J x n (zs_step M s J (upd g 72 1)).1
theorem zs_E_72 {v : Int32} (hZ : M + s ≤ 12) (h : zs_E (M + s) g) : zs_E (M + s) (upd g 72 v) := fun z hz => by rw [upd_n (by omega)]; exact h z hz
theorem zv_W_E (hl : zc_lim M s J) (hx : x ≤ 10) : ∀ (n : Nat) (g : Nat → Int32), zs_E (M + s) g → zv_W M s J x n g = 10 ^ n := by
  obtain ⟨l1, l2, l3, l4, l5⟩ := id hl
  intro n
  induction n with
  | zero => intro g h; show (if zs_E (M + s) g then 1 else 0) = 1; rw [if_pos h]
  | succ n ih =>
    intro g h
    simp only [zv_W]
    rw [ih _ (zs_E_step hl (zs_E_72 (by omega) h)).1, ih _ (zs_E_step hl (zs_E_72 (by omega) h)).1, ← Nat.add_mul, show x + (10 - x) = 10 by omega, Nat.pow_succ, Nat.mul_comm]
theorem zv_W_le (hx : x ≤ 10) : ∀ (n : Nat) (g : Nat → Int32), zv_W M s J x n g ≤ 10 ^ n := by
  intro n
  induction n with
  | zero => intro g; show (if zs_E (M + s) g then 1 else 0) ≤ 1; split <;> omega
  | succ n ih =>
    intro g
    simp only [zv_W]
    have h1 := Nat.mul_le_mul_left x (ih (zs_step M s J (upd g 72 0)).1)
    have h2 := Nat.mul_le_mul_left (10 - x) (ih (zs_step M s J (upd g 72 1)).1)
    have h3 : x * 10 ^ n + (10 - x) * 10 ^ n = 10 ^ (n + 1) := by rw [← Nat.add_mul, show x + (10 - x) = 10 by omega, Nat.pow_succ, Nat.mul_comm]
    omega
/-! the class -/
theorem p_ten {k : Nat} (hN : 5000 ≤ N) (hk : k ≤ 8) : fX5_tenToThe N S (nI k) = some (nI (10 ^ k), S) := by
  have loop : ∀ (j q i : Nat), i + j = k → j < q → fX5_tenToThe_4 N q S (nI k) (nI (10 ^ i)) (nI i) = some (nI (10 ^ k), S) := by
    intro j
    induction j with
    | zero =>
      intro q i hi hq
      obtain ⟨q, rfl⟩ : ∃ p, q = p + 1 := ⟨q - 1, by omega⟩
      have e : i = k := by omega
      subst e
      simp only [fX5_tenToThe_4, fX5_tenToThe_4b]
      rw [if_pos (Int32.le_refl _)]
    | succ j ih =>
      intro q i hi hq
      obtain ⟨q, rfl⟩ : ∃ p, q = p + 1 := ⟨q - 1, by omega⟩
      simp only [fX5_tenToThe_4, fX5_tenToThe_4b, zb_let]
      rw [if_neg (by rw [zn_le (by omega) (by omega)]; omega), if_neg (show ¬ (8 : Int32) ≤ nI i by rw [show (8 : Int32) = nI 8 from rfl, zn_le (by omega) (by omega)]; omega), zn_mr, show nI i + 1 = nI (i + 1) from nI_1 i]
      have := ih q (i + 1) (by omega) (by omega)
      rw [Nat.pow_succ] at this
      exact this
  exact loop k N 0 (by omega) (by omega)
theorem p_put5 {k : Nat} (hk : zb_i S 12 0 = nI 9) (h1 : k < 9) : fX3_put N 12 5 S (nI k) = some ((), zs_a S 13 (va_cpy (zb_a S 6) (zb_a S 13) 0 (k * 57) 57)) := by
  unfold fX3_put fX3_put_0
  have c : Int32.toNatClampNeg (nI (k * 57)) = k * 57 := zn_cl (by omega)
  rw [hk, if_neg (by rw [zn_lt0 (by omega)]; exact fun h => h), if_neg (by rw [zn_le (by omega) (by omega)]; omega), zn_mr]
  rw [if_pos ?_]
  · simp only [zb_let]
    rw [c, zs_cp]
    rfl
  · have : ∀ k, k < 9 → zb_cpok 0 (nI (k * 57)) 57 (zb_sz (5 + 1)) (zb_sz (12 + 1)) := by decide
    exact this k h1
theorem p_ways (hl : zc_lim M s J) (hN : 5000 ≤ N) (hx : x ≤ 10) : ∀ (fuel n : Nat) (S : zb_S) (g : Nat → Int32), n < fuel → n ≤ 8 → zc_ok 5 M s J S → zb_i S 12 0 = nI 9 → zr_Rel (M + s) (zb_a S 6) g → ∃ S1, fX5_waysToEmpty N fuel 5 12 S (nI n) (nI x) = some (nI (zv_W M s J x n g), S1) ∧ zt S S1 ∧ zc_ok 5 M s J S1 ∧ ∀ i, 57 * (n + 1) ≤ i → zb_a S1 13 i = zb_a S 13 i := by
  obtain ⟨l1, l2, l3, l4, l5⟩ := id hl
  intro fuel
  induction fuel with
  | zero => intro n S g hn; omega
  | succ fuel ih =>
    intro n S g hn h8 hok h12 hr
    obtain ⟨m, e1, e2⟩ := p_tload (N := N) (b := 5) hok hl hN hr
    simp only [fX5_waysToEmpty, fX5_waysToEmpty_0]
    rw [e1]
    simp only [zb_bind_some]
    by_cases c : m = 0
    · refine ⟨S, ?_, zt.rf, hok, fun _ _ => rfl⟩
      rw [if_pos c, p_ten hN h8, zv_W_E hl hx n g (e2.mp c)]
      rfl
    · rw [if_neg c]
      cases n with
      | zero =>
        refine ⟨S, ?_, zt.rf, hok, fun _ _ => rfl⟩
        rw [if_pos (by decide)]
        simp only [zv_W]
        rw [if_neg (fun h => c (e2.mpr h))]
        rfl
      | succ n =>
        rw [if_neg (show ¬ nI (n + 1) < 1 by rw [show (1 : Int32) = nI 1 from rfl, zn_lt (by omega) (by omega)]; omega), if_pos (show nI (n + 1) ≤ 8 from (zn_le (b := 8) (by omega) (by omega)).mpr h8), p_put5 h12 (by omega)]
        simp only [zb_bind_some]
        generalize hS3 : zs_a S 13 (va_cpy (zb_a S 6) (zb_a S 13) 0 ((n + 1) * 57) 57) = S3
        have z3 : zt S S3 := by rw [← hS3]; exact ⟨⟨fun _ _ _ _ => rfl, fun o _ h _ _ _ _ => zs_ne h, fun _ _ => rfl⟩, fun _ _ => rfl⟩
        have ok3 : zc_ok 5 M s J S3 := by rw [← hS3]; exact hok
        have b3 : ∀ i, i < 57 → zb_a S3 13 ((n + 1) * 57 + i) = zb_a S 6 i := by
          intro i hi
          rw [← hS3, zs_same]; unfold va_cpy; rw [if_pos (by omega), show 0 + ((n + 1) * 57 + i - (n + 1) * 57) = i by omega]
        have u3 : ∀ i, 57 * (n + 1 + 1) ≤ i → zb_a S3 13 i = zb_a S 13 i := by
          intro i hi
          rw [← hS3, zs_same]; unfold va_cpy; rw [if_neg (by omega)]
        -- a branch
        have br : ∀ (q o acc wt : Nat) (U : zb_S), o ≤ 1 → wt ≤ 10 → zt S U → zc_ok 5 M s J U → (∀ i, i < 57 → zb_a U 13 ((n + 1) * 57 + i) = zb_a S 6 i) → (∀ i, 57 * (n + 1 + 1) ≤ i → zb_a U 13 i = zb_a S 13 i) → ∃ U1, fX5_waysToEmpty_56 N 5 12 (fX5_waysToEmpty N fuel) (fX5_waysToEmpty_37 N 5 12 (fX5_waysToEmpty N fuel) q) U (nI (n + 1)) (nI x) (nI acc) (nI o) (nI wt) = fX5_waysToEmpty_37 N 5 12 (fX5_waysToEmpty N fuel) q U1 (nI (n + 1)) (nI x) (nI (acc + wt * zv_W M s J x n (zs_step M s J (upd g 72 (nI o))).1)) (nI (o + 1)) ∧ zt S U1 ∧ zc_ok 5 M s J U1 ∧ (∀ i, i < 57 → zb_a U1 13 ((n + 1) * 57 + i) = zb_a S 6 i) ∧ (∀ i, 57 * (n + 1 + 1) ≤ i → zb_a U1 13 i = zb_a S 13 i) := by
          intro q o acc wt U ho hwt hzU hokU hb hu
          simp only [fX5_waysToEmpty_56, fX5_waysToEmpty_99, zb_let]
          rw [show nI o + 1 = nI (o + 1) from nI_1 o]
          by_cases d : wt = 0
          · refine ⟨U, ?_, hzU, hokU, hb, hu⟩
            rw [if_pos (by rw [zn_le0 (by omega)]; exact d), d, Nat.zero_mul]
            rfl
          · rw [if_neg (by rw [zn_le0 (by omega)]; exact d)]
            have h12U : zb_i U 12 0 = nI 9 := by rw [hzU.1.1 12 0 (by omega) (by omega)]; exact h12
            rw [p_get (b := 12) (k := n + 1) (q := 9) h12U (by omega) (by omega) rfl 5 rfl]
            simp only [zb_bind_some]
            rw [if_pos (show zb_in 50 (zb_sz (5 + 1)) by decide), show Int32.toNatClampNeg 50 = 50 from by decide, zs_pa]
            generalize hV : zs_a (zs_a U (5 + 1) (va_cpy (zb_a U (12 + 1)) (zb_a U (5 + 1)) ((n + 1) * 57) 0 57)) (5 + 1) (upd (zb_a (zs_a U (5 + 1) (va_cpy (zb_a U (12 + 1)) (zb_a U (5 + 1)) ((n + 1) * 57) 0 57)) (5 + 1)) 50 (nI o)) = V
            have hV2 : V = zs_a U 6 (upd (va_cpy (zb_a U 13) (zb_a U 6) ((n + 1) * 57) 0 57) 50 (nI o)) := by
              rw [← hV, zs_same, zs_aa]
            have okV : zc_ok 5 M s J V := by rw [hV2]; exact hokU
            have zV : zt U V := by rw [hV2]; exact zt_a6
            have aV : zb_a V 13 = zb_a U 13 := by rw [hV2]; exact zs_ne (by omega)
            have hrV : zr_Rel (M + s) (zb_a V 6) (upd g 72 (nI o)) := by
              rw [hV2, zs_same]
              refine zr_g (j := 0) (hr.ext (by omega) (fun i hi => ?_) (fun _ _ => rfl)) (by omega) (by omega)
              unfold va_cpy; rw [if_pos (by omega), show i - 0 = i by omega]
              exact hb i hi
            obtain ⟨w2, f2, y1, y2⟩ := p_adv1 (N := N) okV hl hN hrV
            rw [y1]
            simp only [zb_bind_some]
            rw [zn_s1]
            have h12V : zb_i (zc_t V w2 f2) 12 0 = nI 9 := by rw [(zV.tr (zc_t_zt (w := w2) (f := f2))).1.1 12 0 (by omega) (by omega)]; exact h12U
            obtain ⟨U1, v1, v2, v3, v4⟩ := ih n (zc_t V w2 f2) _ (by omega) (by omega) (zc_t_ok okV) h12V (by rw [zc_t_6]; exact y2)
            rw [v1]
            simp only [zb_bind_some]
            refine ⟨U1, ?_, ((hzU.tr zV).tr zc_t_zt).tr v2, v3, fun i hi => ?_, fun i hi => ?_⟩
            · rw [pk_mul, nI_add]
            · rw [v4 _ (by omega), zc_t_o (by omega), aV]; exact hb i hi
            · rw [v4 _ (by omega), zc_t_o (by omega), aV]; exact hu i hi
        obtain ⟨q, hq⟩ : ∃ q, N = q + 3 := ⟨N - 3, by omega⟩
        have st : ∀ q U l2 l3 l4 l5, fX5_waysToEmpty_37 N 5 12 (fX5_waysToEmpty N fuel) (q + 1) U l2 l3 l4 l5 = fX5_waysToEmpty_37b N 5 12 (fX5_waysToEmpty N fuel) (fX5_waysToEmpty_37 N 5 12 (fX5_waysToEmpty N fuel) q) U l2 l3 l4 l5 := fun _ _ _ _ _ _ => rfl
        obtain ⟨U1, v1, v2, v3, v4, v5⟩ := br (q + 2) 0 0 x S3 (by omega) hx z3 ok3 b3 u3
        obtain ⟨U2, w1, w2, w3, w4, w5⟩ := br (q + 1) 1 (0 + x * zv_W M s J x n (zs_step M s J (upd g 72 (nI 0))).1) (10 - x) U1 (by omega) (by omega) v2 v3 v4 v5
        refine ⟨U2, ?_, w2, w3, w5⟩
        have e0 : fX5_waysToEmpty_37 N 5 12 (fX5_waysToEmpty N fuel) N S3 (nI (n + 1)) (nI x) 0 0 = fX5_waysToEmpty_37 N 5 12 (fX5_waysToEmpty N fuel) (q + 2 + 1) S3 (nI (n + 1)) (nI x) (nI 0) (nI 0) := by rw [← hq]; rfl
        rw [e0, st]
        unfold fX5_waysToEmpty_37b
        rw [if_neg (by decide), if_pos (show nI 0 = 0 from rfl), v1, st]
        unfold fX5_waysToEmpty_37b
        rw [if_neg (by decide), if_neg (by decide), show (10 : Int32) - nI x = nI (10 - x) from pk_sub (a := 10) hx, w1, st]
        unfold fX5_waysToEmpty_37b
        rw [if_pos (by decide), Nat.zero_add]
        rfl
/-! the reference -/
def zv_run (M s J : Nat) : Nat → (Nat → Bool) → (Nat → Int32) → (Nat → Int32)
  | 0, _, g => g
  | n + 1, A, g => zv_run M s J n (fun i => A (i + 1)) (zs_step M s J (upd g 72 (if A 0 = true then 0 else 1))).1
def zv_t (M s J x n : Nat) (g : Nat → Int32) (A : Nat → Bool) : Nat := if zs_E (M + s) (zv_run M s J n A g) then x ^ zu_r A n * (10 - x) ^ (n - zu_r A n) else 0
theorem zu_r_le0 {A : Nat → Bool} (n : Nat) : zu_r A n ≤ n := by
  have := (zu_r_le (b := A) (z := 0) n).2
  rw [Nat.zero_add] at this
  simpa [zu_r] using this
theorem zv_t_k {b : Bool} : zv_t M s J x (n + 1) g (zu_k b A) = (if b = true then x else 10 - x) * zv_t M s J x n (zs_step M s J (upd g 72 (if b = true then 0 else 1))).1 A := by
  have e1 : zv_run M s J (n + 1) (zu_k b A) g = zv_run M s J n A (zs_step M s J (upd g 72 (if b = true then 0 else 1))).1 := rfl
  have e2 : zu_r (zu_k b A) (n + 1) = (if b = true then 1 else 0) + zu_r A n := rfl
  have hle := zu_r_le0 (A := A) n
  unfold zv_t
  rw [e1, e2]
  by_cases c : zs_E (M + s) (zv_run M s J n A (zs_step M s J (upd g 72 (if b = true then 0 else 1))).1)
  · rw [if_pos c, if_pos c]
    cases b
    · simp only [Bool.false_eq_true, if_false, Nat.zero_add]
      rw [show n + 1 - zu_r A n = (n - zu_r A n) + 1 by omega, Nat.pow_succ, Nat.mul_comm ((10 - x) ^ (n - zu_r A n)), ← Nat.mul_assoc, ← Nat.mul_assoc, Nat.mul_comm (x ^ zu_r A n)]
    · simp only [if_true]
      rw [show n + 1 - (1 + zu_r A n) = n - zu_r A n by omega, Nat.add_comm 1, Nat.pow_succ, Nat.mul_comm (x ^ zu_r A n) x, Nat.mul_assoc]
  · rw [if_neg c, if_neg c, Nat.mul_zero]
theorem zu_p_mul {w : Nat} : ∀ (k : Nat) (t : (Nat → Bool) → Nat), zu_p k (fun A => nI (w * t A)) = nI w * zu_p k (fun A => nI (t A)) := by
  intro k
  induction k with
  | zero => intro t; exact (pk_mul _ _).symm
  | succ k ih =>
    intro t
    show zu_p k (fun A => nI (w * t (zu_k false A))) + zu_p k (fun A => nI (w * t (zu_k true A))) = nI w * (zu_p k (fun A => nI (t (zu_k false A))) + zu_p k (fun A => nI (t (zu_k true A))))
    rw [ih (fun A => t (zu_k false A)), ih (fun A => t (zu_k true A)), Int32.mul_add]
theorem zv_sum : ∀ (n : Nat) (g : Nat → Int32), zu_p n (fun A => nI (zv_t M s J x n g A)) = nI (zv_W M s J x n g) := by
  intro n
  induction n with
  | zero =>
    intro g
    show nI (zv_t M s J x 0 g (fun _ => false)) = _
    congr 1
  | succ n ih =>
    intro g
    show zu_p n (fun A => nI (zv_t M s J x (n + 1) g (zu_k false A))) + zu_p n (fun A => nI (zv_t M s J x (n + 1) g (zu_k true A))) = _
    simp only [zv_t_k]
    rw [zu_p_mul, zu_p_mul]
    simp only [Bool.false_eq_true, if_false, if_true]
    rw [ih, ih, pk_mul, pk_mul, nI_add, Nat.add_comm]
    rfl
theorem m_pow {c k : Nat} (hN : 5000 ≤ N) (hk : k ≤ 100) : fX6_power N S (nI c) (nI k) = some (nI (c ^ k), S) := by
  have loop : ∀ (j q i : Nat), i + j = k → j < q → fX6_power_4 N q S (nI c) (nI k) (nI (c ^ i)) (nI i) = some (nI (c ^ k), S) := by
    intro j
    induction j with
    | zero =>
      intro q i hi hq
      obtain ⟨q, rfl⟩ : ∃ p, q = p + 1 := ⟨q - 1, by omega⟩
      have e : i = k := by omega
      subst e
      simp only [fX6_power_4, fX6_power_4b]
      rw [if_pos (Int32.le_refl _)]
    | succ j ih =>
      intro q i hi hq
      obtain ⟨q, rfl⟩ : ∃ p, q = p + 1 := ⟨q - 1, by omega⟩
      simp only [fX6_power_4, fX6_power_4b, zb_let]
      rw [if_neg (by rw [zn_le (by omega) (by omega)]; omega), pk_mul, show nI i + 1 = nI (i + 1) from nI_1 i]
      have := ih q (i + 1) (by omega) (by omega)
      rw [Nat.pow_succ] at this
      exact this
  have := loop k N 0 (by omega) (by omega)
  rw [Nat.pow_zero] at this
  exact this
theorem m_shutL {u : Int32} (hP : zi_P M s J tl na nx ns S) (hN : 5000 ≤ N) (hx : x ≤ 10) (hn8 : n ≤ 8) : ∀ (j q m : Nat) (U : zb_S), m + j = 2 ^ n → j < q → zt S U → ∃ U1, zt S U1 ∧ fX6_shut_38 N q U (nI n) (nI x) u (zu_s (fun m => nI (zv_t M s J x n (zt_g S) (zu_b m))) m) (nI m) = zb_bind (fX6_fraction N U1 (zu_s (fun m => nI (zv_t M s J x n (zt_g S) (zu_b m))) (2 ^ n)) (nI (10 ^ n)) u) (fun r4 S3 => some (r4, S3)) := by
  obtain ⟨hl, hc, hnw, ht, ha, hk, hs, ho⟩ := id hP
  obtain ⟨l1, l2, l3, l4, l5⟩ := id hl
  have hwf := (hnw.rel hl).2
  have h256 : 2 ^ n ≤ 2 ^ 8 := Nat.pow_le_pow_right (by omega) hn8
  have e2n : (1 : Int32) <<< (nI n &&& 31) = nI (2 ^ n) := (by decide +kernel : ∀ n, n < 9 → (1 : Int32) <<< (nI n &&& 31) = nI (2 ^ n)) n (by omega)
  intro j
  induction j with
  | zero =>
    intro q m U hm hq hU
    obtain ⟨q, rfl⟩ : ∃ p, q = p + 1 := ⟨q - 1, by omega⟩
    refine ⟨U, hU, ?_⟩
    have e : m = 2 ^ n := by omega
    simp only [fX6_shut_38, fX6_shut_38b]
    rw [e2n, if_pos (by rw [zn_le (by omega) (by omega)]; omega), show fX6_power N U 10 (nI n) = fX6_power N U (nI 10) (nI n) from rfl, m_pow hN (by omega)]
    simp only [zb_bind_some]
    rw [e]
  | succ j ih =>
    intro q m U hm hq hU
    obtain ⟨q, rfl⟩ : ∃ p, q = p + 1 := ⟨q - 1, by omega⟩
    obtain ⟨S3, u1, u2, u3, u4⟩ := m_tlay (N := N) hP hN hU.1
    have hcn : zu_c (zu_b m) 12 = zu_r (zu_b m) n := by
      have := zu_c_more (A := zu_b m) (a := n) (12 - n) (fun i hi => zu_b_big (k := n) (by omega) hi)
      rw [show n + (12 - n) = 12 by omega] at this
      rw [this, zu_c_r]
    have hcl := zu_r_le0 (A := zu_b m) n
    have inner : ∀ (j q2 k : Nat) (X : zb_S) (gk : Nat → Int32) (acc : Int32), k + j = n → j < q2 → zt S X → zb_a X 25 = gk → zr_wf (M + s) gk → ∃ X1, zt S X1 ∧ fX6_shut_53 N (fX6_shut_38 N q) q2 X (nI n) (nI x) u acc (nI m) (nI k) = fX6_shut_38 N q X1 (nI n) (nI x) u (acc + nI (if zs_E (M + s) (zv_run M s J j (fun i => zu_b m (k + i)) gk) then x ^ zu_r (zu_b m) n * (10 - x) ^ (n - zu_r (zu_b m) n) else 0)) (nI (m + 1)) := by
      intro j
      induction j with
      | zero =>
        intro q2 k X gk acc hk2 hq2 hX hg hw
        obtain ⟨q2, rfl⟩ : ∃ p, q2 = p + 1 := ⟨q2 - 1, by omega⟩
        have hm1 : zm_ok 25 M s J X := hc.m hX.1
        obtain ⟨mm, e1, e2⟩ := m_tload (N := N) hm1 hl hN (by rw [hg]; exact hw)
        refine ⟨X, hX, ?_⟩
        simp only [fX6_shut_53, fX6_shut_53b, fX6_shut_137, zb_let]
        rw [if_pos (by rw [zn_le (by omega) (by omega)]; omega), e1]
        simp only [zb_bind_some]
        rw [hg] at e2
        show _ = fX6_shut_38 N q X (nI n) (nI x) u (acc + nI (if zs_E (M + s) gk then _ else 0)) (nI (m + 1))
        by_cases c : mm = 0
        · rw [if_pos c, m_ones (by omega), zm_ons_c 12 (by omega), hcn]
          simp only [zb_bind_some]
          rw [m_pow hN (by omega)]
          simp only [zb_bind_some]
          rw [m_ones (by omega), zm_ons_c 12 (by omega), hcn]
          simp only [zb_bind_some]
          rw [show (10 : Int32) - nI x = nI (10 - x) from pk_sub (a := 10) hx, pk_sub hcl, m_pow hN (by omega)]
          simp only [zb_bind_some]
          rw [pk_mul, show nI m + 1 = nI (m + 1) from nI_1 m, if_pos (e2.mp c)]
        · rw [if_neg c, show nI m + 1 = nI (m + 1) from nI_1 m, if_neg (fun h => c (e2.mpr h))]
          rfl
      | succ j ih2 =>
        intro q2 k X gk acc hk2 hq2 hX hg hw
        obtain ⟨q2, rfl⟩ : ∃ p, q2 = p + 1 := ⟨q2 - 1, by omega⟩
        have go : ∀ v : Int32, (v = 0 ∨ v = 1) → (if zu_b m k = true then 0 else 1) = v → ∃ X1, zt S X1 ∧ fX6_shut_80 N (fX6_shut_38 N q) (fX6_shut_53 N (fX6_shut_38 N q) q2) X (nI n) (nI x) u acc (nI m) (nI k) v = fX6_shut_38 N q X1 (nI n) (nI x) u (acc + nI (if zs_E (M + s) (zv_run M s J (j + 1) (fun i => zu_b m (k + i)) gk) then x ^ zu_r (zu_b m) n * (10 - x) ^ (n - zu_r (zu_b m) n) else 0)) (nI (m + 1)) := by
          intro v hv ev
          have t1 : zt X (zs_a X 25 (upd gk 72 v)) := zt_a25 (fun i hi => by rw [upd_n (by omega), hg])
          obtain ⟨X2, y1, y2, y3, y4, -⟩ := m_tstep (N := N) (S := zs_a X 25 (upd gk 72 v)) (M := M) (s := s) (J := J) (hc.m (hX.tr t1).1) hl hN (zs_same _ _ _) (zr_wf_72 hw (by omega) hv)
          obtain ⟨X1, z1, z2⟩ := ih2 q2 (k + 1) X2 _ acc (by omega) (by omega) ((hX.tr t1).tr y2) y4 (zr_wf_step hl (zr_wf_72 hw (by omega) hv))
          refine ⟨X1, z1, ?_⟩
          simp only [fX6_shut_80, zb_let]
          rw [if_pos (show zb_in 72 (zb_sz 25) by decide), show Int32.toNatClampNeg 72 = 72 from by decide, zs_pa, hg, y1]
          simp only [zb_bind_some]
          rw [show nI k + 1 = nI (k + 1) from nI_1 k, z2]
          have er : zv_run M s J (j + 1) (fun i => zu_b m (k + i)) gk = zv_run M s J j (fun i => zu_b m (k + 1 + i)) (zs_step M s J (upd gk 72 v)).1 := by
            show zv_run M s J j (fun i => zu_b m (k + (i + 1))) (zs_step M s J (upd gk 72 (if zu_b m (k + 0) = true then 0 else 1))).1 = _
            rw [Nat.add_zero, ev, show (fun i => zu_b m (k + (i + 1))) = (fun i => zu_b m (k + 1 + i)) from by funext i; congr 1; omega]
          rw [er]
        simp only [fX6_shut_53, fX6_shut_53b]
        rw [if_neg (by rw [zn_le (by omega) (by omega)]; omega), m_has (show k < 32 by omega), bt_nI (by omega)]
        simp only [zb_bind_some]
        by_cases c : zu_b m k = true
        · rw [if_pos c, if_neg (by decide)]
          exact go 0 (Or.inl rfl) (by rw [if_pos c])
        · rw [if_neg c, if_pos rfl]
          exact go 1 (Or.inr rfl) (by rw [if_neg c])
    obtain ⟨X1, y1, y2⟩ := inner n N 0 S3 (zt_g S) (zu_s (fun m => nI (zv_t M s J x n (zt_g S) (zu_b m))) m) (by omega) (by omega) (hU.tr u2) u4 hwf
    obtain ⟨U1, v1, v2⟩ := ih q (m + 1) X1 (by omega) (by omega) y1
    refine ⟨U1, v1, ?_⟩
    rw [← v2]
    simp only [fX6_shut_38, fX6_shut_38b]
    rw [e2n, if_neg (by rw [zn_le (by omega) (by omega)]; omega), u1]
    simp only [zb_bind_some]
    rw [show fX6_shut_53 N (fX6_shut_38 N q) N S3 (nI n) (nI x) u (zu_s (fun m => nI (zv_t M s J x n (zt_g S) (zu_b m))) m) (nI m) 0 = fX6_shut_53 N (fX6_shut_38 N q) N S3 (nI n) (nI x) u (zu_s (fun m => nI (zv_t M s J x n (zt_g S) (zu_b m))) m) (nI m) (nI 0) from rfl, y2]
    congr 1
    show _ = zu_s (fun m => nI (zv_t M s J x n (zt_g S) (zu_b m))) m + nI (zv_t M s J x n (zt_g S) (zu_b m))
    unfold zv_t
    rw [show (fun i => zu_b m (0 + i)) = zu_b m from by funext i; rw [Nat.zero_add]]
theorem e_shut {a c u : Int32} (hN : 5000 ≤ N) (h : zi_I S) : zi_E (fun S => fX5_shut N S a c u) (fun S => fX6_shut N S a c u) S := by
  obtain ⟨M, s, J, tl, na, nx, ns, hP⟩ := h
  obtain ⟨hl, hc, hn, ht, ha, hk, hs, ho⟩ := id hP
  have hina : ∀ T : zb_S, fX6_in N T a.toInt64 1 8 = some (if 1 ≤ a ∧ a ≤ 8 then 1 else 0, T) := fun T => m_in32 1 8 rfl rfl
  have hinc : ∀ T : zb_S, fX6_in N T c.toInt64 0 10 = some (if 0 ≤ c ∧ c ≤ 10 then 1 else 0, T) := fun T => m_in32 0 10 rfl rfl
  by_cases hb : (1 ≤ a ∧ a ≤ 8) ∧ (0 ≤ c ∧ c ≤ 10)
  · obtain ⟨b1, b2⟩ := hb
    obtain ⟨n, k1, rfl⟩ := (zn_bet (n := 8) (by omega)).mp ⟨Int32.le_trans (by decide) b1.1, b1.2⟩
    obtain ⟨x, x1, rfl⟩ := (zn_bet (n := 10) (by omega)).mp b2
    obtain ⟨S1, y1, y2, y3, y4⟩ := p_tcopy (N := N) hP zq.rf
    obtain ⟨S2, z1, z2, z3, z4⟩ := p_ways (N := N) (x := x) hl hN (by omega) 12 n S1 (zt_g S) (by omega) (by omega) y3 (by rw [y2.1.1 12 0 (by omega) (by omega)]; exact ho.1) y4
    have hW := zv_W_le (M := M) (s := s) (J := J) (x := x) (by omega) n (zt_g S)
    have h10 : 10 ^ n ≤ 10 ^ 8 := Nat.pow_le_pow_right (by omega) (by omega)
    have hp : 0 < 10 ^ n := Nat.pow_pos (by omega)
    have hB : zu_B 100000000 (nI (zv_W M s J x n (zt_g S))) := by
      unfold zu_B
      rw [show (nI (zv_W M s J x n (zt_g S))).toInt = ((zv_W M s J x n (zt_g S) : Nat) : Int) from nI_toInt (by omega)]
      omega
    obtain ⟨v, w1, w2⟩ := e_frac (N := N) (l := 10 ^ n) (u := u) hN hB (by omega) hp (by omega)
    obtain ⟨U4, q1, q2⟩ := m_shutL (u := u) (n := n) (x := x) hP hN (by omega) (by omega) (2 ^ n) N 0 (zb_pi S2 21 0 0) (by omega) (by have := Nat.pow_le_pow_right (show 0 < 2 by omega) (show n ≤ 8 by omega); omega) ((y2.tr z2).tr zt_thr)
    rw [zu_sp_s n (fun A => nI (zv_t M s J x n (zt_g S) A)), zv_sum] at q2
    refine ⟨v, S2, U4, ?_, ?_, (hP.t q1).I⟩
    · simp only [fX5_shut, fX5_shut_0]
      rw [if_neg (Int32.not_lt.mpr b1.1), if_neg (Int32.not_lt.mpr b1.2), if_neg (Int32.not_lt.mpr b2.1), if_pos b2.2, y1]
      simp only [zb_bind_some]
      rw [z1]
      simp only [zb_bind_some]
      rw [p_ten hN (by omega)]
      simp only [zb_bind_some]
      rw [w1]
      simp only [zb_bind_some]
    · simp only [fX6_shut, fX6_shut_0, zb_let, hina, zb_bind_some, if_pos b1]
      rw [if_neg (by decide), hinc]
      simp only [zb_bind_some, if_pos b2]
      rw [if_neg (by decide), show fX6_shut_38 N N (zb_pi S2 21 0 0) (nI n) (nI x) u 0 0 = fX6_shut_38 N N (zb_pi S2 21 0 0) (nI n) (nI x) u (zu_s (fun m => nI (zv_t M s J x n (zt_g S) (zu_b m))) 0) (nI 0) from rfl, q2, w2]
      simp only [zb_bind_some]
  · refine ⟨-2, S, zb_pi S 21 0 0, ?_, ?_, hP.thr.I⟩
    · simp only [fX5_shut, fX5_shut_0]
      by_cases h1 : a < 1
      · rw [if_pos h1]
      · rw [if_neg h1]
        by_cases h2 : 8 < a
        · rw [if_pos h2]
        · rw [if_neg h2]
          by_cases h3 : c < 0
          · rw [if_pos h3]
          · rw [if_neg h3, if_neg (fun h4 => hb ⟨⟨Int32.not_lt.mp h1, Int32.not_lt.mp h2⟩, Int32.not_lt.mp h3, h4⟩)]
    · simp only [fX6_shut, fX6_shut_0, zb_let, hina, zb_bind_some]
      by_cases h1 : 1 ≤ a ∧ a ≤ 8
      · rw [if_pos h1, if_neg (by decide), hinc]
        simp only [zb_bind_some]
        rw [if_neg (fun h2 => hb ⟨h1, h2⟩), if_pos rfl]
      · rw [if_neg h1, if_pos rfl]
end ST
