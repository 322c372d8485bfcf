section BG
variable {M s J tl na nx ns N b r k n Z i : Nat} {S T S' S'' T' U X Y : zb_S} {f f' g g' R R' A : Nat → Int32} {C : Nat → Nat} {m : Int32}
def zc_cfg (S : zb_S) (M s J : Nat) : zb_S := zb_pi (zb_pi (zb_pi (zb_pi S 3 0 (nI M)) 3 1 (nI s)) 3 2 (nI (M + s))) 3 3 (nI J)
theorem p_begin (hN : 5000 ≤ N) : fX1_begin N 3 S (nI M) (nI s) (nI J) = some ((), zs_a (zc_cfg S M s J) 4 (upd (va_cpy (fun _ => 0) (zb_a S 4) 0 0 57) 50 1)) := by
  have loop : ∀ (A : Nat → Int32) (j n i : Nat) (T : zb_S), i + j = 57 → j < n → fX1_begin_25 N 3 n (zs_a T 4 (va_cpy (fun _ => 0) A 0 0 i)) (nI i) = some ((), zs_a T 4 (upd (va_cpy (fun _ => 0) A 0 0 57) 50 1)) := by
    intro A j
    induction j with
    | zero =>
      intro n i T hi hn
      obtain ⟨n, rfl⟩ : ∃ q, n = q + 1 := ⟨n - 1, by omega⟩
      have e : i = 57 := by omega
      subst e
      simp only [fX1_begin_25, fX1_begin_25b, zb_let]
      rw [if_pos (show (57 : Int32) ≤ nI 57 by decide), if_pos (show zb_in 50 (zb_sz (3 + 1)) by decide), zs_pa, show Int32.toNatClampNeg 50 = 50 from by decide, show zb_a (zs_a T 4 (va_cpy (fun _ => 0) A 0 0 57)) (3 + 1) = va_cpy (fun _ => 0) A 0 0 57 from zs_same _ _ _, show ∀ q, zs_a (zs_a T 4 (va_cpy (fun _ => 0) A 0 0 57)) (3 + 1) q = zs_a T 4 q from fun q => zs_aa _ _ _ _]
    | succ j ih =>
      intro n i T hi hn
      obtain ⟨n, rfl⟩ : ∃ q, n = q + 1 := ⟨n - 1, by omega⟩
      simp only [fX1_begin_25, fX1_begin_25b, zb_let]
      rw [if_neg (show ¬ (57 : Int32) ≤ nI i by rw [show (57 : Int32) = nI 57 from rfl, zn_le (by omega) (by omega)]; omega), if_pos (show zb_in (nI i) (zb_sz (3 + 1)) from (zn_in (by omega)).mpr (show i < 57 by omega)), zn_cl (by omega), zs_pa, show zb_a (zs_a T 4 (va_cpy (fun _ => 0) A 0 0 i)) (3 + 1) = va_cpy (fun _ => 0) A 0 0 i from zs_same _ _ _, show ∀ q, zs_a (zs_a T 4 (va_cpy (fun _ => 0) A 0 0 i)) (3 + 1) q = zs_a T 4 q from fun q => zs_aa _ _ _ _, show nI i + 1 = nI (i + 1) from nI_1 i]
      have := zc_cpy (f := fun _ => 0) (g := A) (sp := 0) (dp := 0) (i := i)
      rw [Nat.zero_add] at this
      rw [this]
      exact ih n (i + 1) T (by omega) (by omega)
  unfold fX1_begin fX1_begin_0
  simp only [zb_let]
  rw [nI_add]
  have := loop (zb_a S 4) 57 N 0 (zc_cfg S M s J) (by omega) (by omega)
  rw [zc_cpy0, show zs_a (zc_cfg S M s J) 4 (zb_a S 4) = zc_cfg S M s J from zs_id (zc_cfg S M s J) 4] at this
  exact this
theorem zr_zero (hZ : Z ≤ 12) (hf : ∀ i, i < 57 → f i = 0) (hg : ∀ i, i < 79 → g i = 0) : zr_Rel Z f g := by
  refine ⟨fun z hz => ?_, fun z hz => ?_, fun z hz => ?_, fun j hj => ?_⟩
  · rw [hf _ (by omega), hf _ (by omega), hf _ (by omega), hf _ (by omega), hg _ (by omega), hg _ (by omega), hg _ (by omega), hg _ (by omega)]
    exact ⟨rfl, rfl, rfl, rfl⟩
  · rw [hf _ (by omega), b_0]
    by_cases c : z < Z
    · rw [hg _ (by omega)]; simp
    · simp [c]
  · rw [hf _ (by omega), b_0]
    by_cases c : z < Z
    · rw [hg _ (by omega)]; simp
    · simp [c]
  · rw [hf _ (by omega), hg _ (by omega)]
theorem m_beltcopy (hN : 5000 ≤ N) (hR : zb_a T 23 = R) : fX6_belt_43 N N T 0 = zb_bind (fX6_zones N (zb_pa (zb_pa (zb_pi (zs_a T 24 (upd (va_cpy R (zb_a T 24) 0 0 79) 72 1)) 21 14 0) 28 0 0) 28 1 0)) (fun r6 S5 => some (r6, S5)) := by
  have loop : ∀ (j n i : Nat), i + j = 79 → j < n → fX6_belt_43 N n (zs_a T 24 (va_cpy R (zb_a T 24) 0 0 i)) (nI i) = zb_bind (fX6_zones N (zb_pa (zb_pa (zb_pi (zs_a T 24 (upd (va_cpy R (zb_a T 24) 0 0 79) 72 1)) 21 14 0) 28 0 0) 28 1 0)) (fun r6 S5 => some (r6, S5)) := by
    intro j
    induction j with
    | zero =>
      intro n i hi hn
      obtain ⟨n, rfl⟩ : ∃ q, n = q + 1 := ⟨n - 1, by omega⟩
      have e : i = 79 := by omega
      subst e
      simp only [fX6_belt_43, fX6_belt_43b, zb_let]
      rw [if_pos (show (79 : Int32) ≤ nI 79 by decide), if_pos (show zb_in 72 (zb_sz 24) by decide), if_pos (show zb_in 0 (zb_sz 28) by decide), if_pos (show zb_in 1 (zb_sz 28) by decide), show Int32.toNatClampNeg 72 = 72 from by decide, show Int32.toNatClampNeg 0 = 0 from by decide, show Int32.toNatClampNeg 1 = 1 from by decide, show vp_nar .boolean 0 = 0 from by decide, zs_pa (zs_a T 24 (va_cpy R (zb_a T 24) 0 0 79)) 24 72 1, zs_same, zs_aa]
    | succ j ih =>
      intro n i hi hn
      obtain ⟨n, rfl⟩ : ∃ q, n = q + 1 := ⟨n - 1, by omega⟩
      simp only [fX6_belt_43, fX6_belt_43b, zb_let]
      rw [if_neg (show ¬ (79 : Int32) ≤ nI i by rw [show (79 : Int32) = nI 79 from rfl, zn_le (by omega) (by omega)]; omega), if_pos (show zb_in (nI i) (zb_sz 23) from (zn_in (by omega)).mpr (show i < 79 by omega)), if_pos (show zb_in (nI i) (zb_sz 24) from (zn_in (by omega)).mpr (show i < 79 by omega)), zn_cl (by omega), zs_ne (show (23 : Nat) ≠ 24 by omega), hR, zs_pa, zs_same, zs_aa, show nI i + 1 = nI (i + 1) from nI_1 i]
      have := zc_cpy (f := R) (g := zb_a T 24) (sp := 0) (dp := 0) (i := i)
      rw [Nat.zero_add] at this
      rw [this]
      exact ih n (i + 1) (by omega) (by omega)
  have := loop 79 N 0 (by omega) (by omega)
  rw [zc_cpy0, zs_id] at this
  exact this
theorem e_belt (hN : 5000 ≤ N) (h : zi_I S) : zi_E (fun S => fX5_belt N S) (fun S => fX6_belt N S) S := by
  obtain ⟨M0, s0, J0, tl, na, nx, ns, hP⟩ := h
  obtain ⟨hl0, hc, hn, ht, ha, hk, hs, ho⟩ := id hP
  obtain ⟨C, hcC, hmC⟩ := ht.lt
  obtain ⟨r, x1, x2⟩ := f_read (N := N) (A := zb_a S 23) hN hcC
  rcases x2 with ⟨x3, x2⟩ | ⟨x3, h6, M, s, J, tr, re, R', hl, htr, hre, c1, c2, c3, c4, c5, hR', x2, x4⟩
  · obtain ⟨T', y1, y2⟩ := x2 (zb_pi S 21 0 0) (hmC.h (zh_pi (by omega))) rfl
    refine ⟨-3, S, T', ?_, ?_, (hP.h ((zh_pi (by omega)).tr y2)).I⟩
    · simp only [fX5_belt, fX5_belt_0, x1, zb_bind_some]
      rw [if_neg x3]
    · simp only [fX6_belt, fX6_belt_0, zb_let, y1, zb_bind_some]
      rw [if_neg x3]
  · obtain ⟨l1, l2, l3, l4, l5⟩ := id hl
    generalize hA : zb_a S 23 = A at x2 x4
    -- the class
    generalize hU : zs_a (zc_cfg S M s J) 4 (upd (upd (upd (va_cpy (fun _ => 0) (zb_a S 4) 0 0 57) 50 1) 51 (nI tr)) 52 (nI re)) = U
    have hUc : zf_c tl C U := by rw [← hU]; exact hcC
    have hUok : zc_ok 3 M s J U := by rw [← hU]; exact ⟨rfl, rfl, rfl, rfl, rfl⟩
    have hUr : zr_Rel (M + s) (zb_a U 4) (upd (upd (upd (zf_0 A) 73 (nI tr)) 74 (nI re)) 72 1) := by
      rw [← hU, zs_same, upd_comm (show (74 : Nat) ≠ 72 by omega), upd_comm (show (73 : Nat) ≠ 72 by omega)]
      refine zr_g (j := 2) (zr_g (j := 1) (zr_g (j := 0) (zr_zero (by omega) (fun i hi => ?_) (fun i hi => zf_0_lt hi)) (by omega) (by omega)) (by omega) (by omega)) (by omega) (by omega)
      unfold va_cpy; rw [if_pos (by omega)]
    obtain ⟨f', w1, w2⟩ := x4 U hUc hUok hUr
    have hlay : fX4_layOut N 3 S = some ((), zs_a U 4 f') := by
      unfold fX4_layOut fX4_layOut_0
      rw [show fX4_figure N S 1 = fX4_figure N S (nI 1) from rfl, pf_figure hcC (by omega), zb_bind_some, show fX4_figure N S 2 = fX4_figure N S (nI 2) from rfl, pf_figure hcC (by omega), zb_bind_some, show fX4_figure N S 3 = fX4_figure N S (nI 3) from rfl, pf_figure hcC (by omega), zb_bind_some, c1, c2, c3, zf_sub (by omega), zf_sub (by omega), zf_sub (by omega), show 48 + M - 48 = M by omega, show 48 + s - 48 = s by omega, show 48 + J - 48 = J by omega, p_begin hN, zb_bind_some]
      generalize hV : zs_a (zc_cfg S M s J) 4 (upd (va_cpy (fun _ => 0) (zb_a S 4) 0 0 57) 50 1) = V
      have hVc : zf_c tl C V := by rw [← hV]; exact hcC
      have hVc2 : zf_c tl C (zs_a V 4 (upd (zb_a V 4) 51 (nI tr))) := hVc
      rw [show fX4_figure N V 4 = fX4_figure N V (nI 4) from rfl, pf_figure hVc (by omega), zb_bind_some, c4, zf_sub (by omega), show 48 + tr - 48 = tr by omega, if_pos (show zb_in 51 (zb_sz (3 + 1)) by decide), show Int32.toNatClampNeg 51 = 51 from by decide]
      simp only [zb_let]
      rw [zs_pa, show zs_a V (3 + 1) (upd (zb_a V (3 + 1)) 51 (nI tr)) = zs_a V 4 (upd (zb_a V 4) 51 (nI tr)) from rfl, show ∀ X, fX4_figure N X 5 = fX4_figure N X (nI 5) from fun _ => rfl, pf_figure hVc2 (by omega), zb_bind_some, c5, zf_sub (by omega), show 48 + re - 48 = re by omega, if_pos (show zb_in 52 (zb_sz (3 + 1)) by decide), show Int32.toNatClampNeg 52 = 52 from by decide, zs_pa]
      rw [show zs_a (zs_a V 4 (upd (zb_a V 4) 51 (nI tr))) (3 + 1) (upd (zb_a (zs_a V 4 (upd (zb_a V 4) 51 (nI tr))) (3 + 1)) 52 (nI re)) = U from by
        rw [show zb_a (zs_a V 4 (upd (zb_a V 4) 51 (nI tr))) (3 + 1) = upd (zb_a V 4) 51 (nI tr) from zs_same _ _ _, show ∀ q, zs_a (zs_a V 4 (upd (zb_a V 4) 51 (nI tr))) (3 + 1) q = zs_a V 4 q from fun q => zs_aa _ _ _ _, ← hV, zs_same, zs_aa, hU]]
      exact w1
    generalize hS5 : zb_pi (zb_pi (zs_a U 4 f') 7 2 0) 0 5 0 = S5
    have hclass : fX5_belt N S = some (nI (M + s), S5) := by
      simp only [fX5_belt, fX5_belt_0, x1, zb_bind_some]
      rw [if_pos x3, hlay]
      simp only [zb_bind_some, fX0_forgetAll, fX0_forgetAll_0, zb_let]
      rw [hS5, ← hS5, show zb_i (zb_pi (zb_pi (zs_a U 4 f') 7 2 0) 0 5 0) 3 2 = nI (M + s) from hUok.2.2.2.1]
    -- the reference
    have hT : zf_m tl C (zb_pi S5 21 0 0) := by rw [← hS5, ← hU]; exact hmC
    obtain ⟨T', y1, y2, y3, y4, y5, y6⟩ := x2 (zb_pi S5 21 0 0) hT (by rw [← hS5, ← hU]; exact hA)
    generalize hT3 : zb_pi (zb_pi (zb_pi T' 21 4 (nI M)) 21 5 (nI s)) 21 6 (nI J) = T3
    have hR3 : zb_a T3 23 = R' := by rw [← hT3]; exact y6
    generalize hT9 : zb_pa (zb_pa (zb_pi (zs_a T3 24 (upd (va_cpy R' (zb_a T3 24) 0 0 79) 72 1)) 21 14 0) 28 0 0) 28 1 0 = T9
    have hm9 : zb_i T9 21 4 = nI M ∧ zb_i T9 21 5 = nI s ∧ zb_i T9 21 6 = nI J := by rw [← hT9, ← hT3]; exact ⟨rfl, rfl, rfl⟩
    have hmodel : fX6_belt N S5 = some (nI (M + s), T9) := by
      simp only [fX6_belt, fX6_belt_0, zb_let, y1, zb_bind_some]
      rw [if_true, y3, show zb_i (zb_pi T' 21 4 (nI M)) 21 8 = nI s from y4, show zb_i (zb_pi (zb_pi T' 21 4 (nI M)) 21 5 (nI s)) 21 9 = nI J from y5, hT3, m_beltcopy hN hR3, hT9]
      simp only [fX6_zones, fX6_zones_0, hm9.1, hm9.2.1, zb_bind_some, nI_add]
    refine ⟨nI (M + s), S5, T9, hclass, hmodel, ?_⟩
    have I : ∀ o k, ¬ (o = 21 ∧ (k = 0 ∨ k = 3 ∨ k = 4 ∨ k = 5 ∨ k = 6 ∨ k = 7 ∨ k = 8 ∨ k = 9 ∨ k = 14)) → zb_i T9 o k = zb_i S5 o k := by
      intro o k hk
      rw [← hT9, ← hT3]
      show zb_i (zb_pi (zb_pi (zb_pi (zb_pi T' 21 4 (nI M)) 21 5 (nI s)) 21 6 (nI J)) 21 14 0) o k = _
      rw [zs_pi_i, if_neg (by omega), zs_pi_i, if_neg (by omega), zs_pi_i, if_neg (by omega), zs_pi_i, if_neg (by omega), y2.1 o k (by omega), zs_pi_i, if_neg (by omega)]
    have Ar : ∀ o, o ≠ 23 → o ≠ 24 → o ≠ 28 → zb_a T9 o = zb_a S5 o := by
      intro o h1 h2 h3
      rw [← hT9, zs_pa, zs_ne h3, zs_pa, zs_ne h3]
      show zb_a (zs_a T3 24 _) o = _
      rw [zs_ne h2, ← hT3]
      exact y2.2.1 o h1
    have L : ∀ o k, zb_l T9 o k = zb_l S o k := by
      intro o k
      rw [← hT9, ← hT3]
      show zb_l T' o k = _
      rw [y2.2.2, ← hS5, ← hU]
      rfl
    have A24 : ∀ i, i < 79 → zb_a T9 24 i = upd R' 72 1 i := by
      intro i hi
      rw [← hT9, zs_pa, zs_ne (by omega), zs_pa, zs_ne (by omega)]
      show zb_a (zs_a T3 24 (upd (va_cpy R' (zb_a T3 24) 0 0 79) 72 1)) 24 i = _
      rw [zs_same]
      by_cases c : i = 72
      · rw [c, upd_s, upd_s]
      · rw [upd_n c, upd_n c]; unfold va_cpy; rw [if_pos (by omega), show 0 + (i - 0) = i by omega]
    have S5i : ∀ o k, ¬ (o = 3 ∧ k < 4) → ¬ (o = 7 ∧ k = 2) → ¬ (o = 0 ∧ k = 5) → zb_i S5 o k = zb_i S o k := by
      intro o k h1 h2 h3
      rw [← hS5, zs_pi_i, if_neg (by omega), zs_pi_i, if_neg (by omega), zs_i, ← hU, zs_i]
      unfold zc_cfg
      rw [zs_pi_i, if_neg (by omega), zs_pi_i, if_neg (by omega), zs_pi_i, if_neg (by omega), zs_pi_i, if_neg (by omega)]
    have S5a : ∀ o, o ≠ 4 → zb_a S5 o = zb_a S o := by
      intro o h1
      rw [← hS5, zs_pi_a, zs_pi_a, zs_ne h1, ← hU, zs_ne h1]
      rfl
    have S5c : zc_ok 3 M s J S5 := by rw [← hS5]; exact hUok
    refine ⟨M, s, J, tl, 0, nx, ns, hl, ⟨⟨rfl, (I 3 0 (by omega)).trans S5c.2.1, (I 3 1 (by omega)).trans S5c.2.2.1, (I 3 2 (by omega)).trans S5c.2.2.2.1, (I 3 3 (by omega)).trans S5c.2.2.2.2⟩, hm9⟩, ⟨?_, ?_⟩, ?_, ?_, ⟨?_, ?_⟩, ?_, ?_⟩
    · rw [Ar 4 (by omega) (by omega) (by omega), ← hS5, zs_pi_a, zs_pi_a, zs_same]
      exact w2.ext (by omega) (fun _ _ => rfl) A24
    · exact hR'.2.ext (by omega) A24
    · exact ht.tr ((I 1 1 (by omega)).trans (S5i 1 1 (by omega) (by omega) (by omega))) ((I 21 2 (by omega)).trans (S5i 21 2 (by omega) (by omega) (by omega))) ((Ar 2 (by omega) (by omega) (by omega)).trans (S5a 2 (by omega))) ((Ar 22 (by omega) (by omega) (by omega)).trans (S5a 22 (by omega)))
    · refine ⟨by omega, ha.2.1, ?_, ?_, ?_, ?_, fun k hk => absurd hk (by omega)⟩
      · rw [I 7 2 (by omega), ← hS5]; rfl
      · rw [I 7 1 (by omega), S5i 7 1 (by omega) (by omega) (by omega)]; exact ha.2.2.2.1
      · rw [← hT9]; rfl
      · rw [I 8 0 (by omega), S5i 8 0 (by omega) (by omega) (by omega)]; exact ha.2.2.2.2.2.1
    · rw [I 10 0 (by omega), S5i 10 0 (by omega) (by omega) (by omega)]; exact hk.1
    · intro j hj
      right
      refine ⟨?_, ?_⟩
      · rw [I 0 5 (by omega), ← hS5, show zb_i (zb_pi (zb_pi (zs_a U 4 f') 7 2 0) 0 5 0) 0 5 = 0 from rfl, b_0]
      · rw [← hT9, zs_pa, zs_same, zs_pa, zs_same]
        have : j = 0 ∨ j = 1 := by omega
        rcases this with e | e
        · rw [e, upd_n (by omega), upd_s]
        · rw [e, upd_s]
    · exact hs.tr ((I 14 3 (by omega)).trans (S5i 14 3 (by omega) (by omega) (by omega))) ((I 21 17 (by omega)).trans (S5i 21 17 (by omega) (by omega) (by omega))) ((Ar 15 (by omega) (by omega) (by omega)).trans (S5a 15 (by omega))) ((Ar 16 (by omega) (by omega) (by omega)).trans (S5a 16 (by omega))) ((Ar 17 (by omega) (by omega) (by omega)).trans (S5a 17 (by omega))) ((Ar 29 (by omega) (by omega) (by omega)).trans (S5a 29 (by omega))) ((Ar 30 (by omega) (by omega) (by omega)).trans (S5a 30 (by omega))) ((Ar 31 (by omega) (by omega) (by omega)).trans (S5a 31 (by omega)))
    · exact ho.tr ((I 12 0 (by omega)).trans (S5i 12 0 (by omega) (by omega) (by omega))) (L _ _) (L _ _)
end BG
