section AF
variable {M s J tl na nx ns N b r : Nat} {S T : zb_S} {f f' g g' : Nat → Int32}
def zc_bc (a0 : Int32) : Int32 :=
  let x1 := a0 - (((Int32.toUInt32 a0 >>> (Int32.toUInt32 1 &&& Int32.toUInt32 31)).toInt32) &&& (1431655765 : Int32))
  let x2 := (x1 &&& (858993459 : Int32)) + (((Int32.toUInt32 x1 >>> (Int32.toUInt32 2 &&& Int32.toUInt32 31)).toInt32) &&& (858993459 : Int32))
  let x3 := (x2 + ((Int32.toUInt32 x2 >>> (Int32.toUInt32 4 &&& Int32.toUInt32 31)).toInt32)) &&& (252645135 : Int32)
  let x4 := x3 + ((Int32.toUInt32 x3 >>> (Int32.toUInt32 8 &&& Int32.toUInt32 31)).toInt32)
  let x5 := x4 + ((Int32.toUInt32 x4 >>> (Int32.toUInt32 16 &&& Int32.toUInt32 31)).toInt32)
  x5 &&& (63 : Int32)
theorem p_bitCount {m : Int32} : fJ6_bitCount_0f7a4 N S m = some (zc_bc m, S) := rfl
def zm_ons (m : Int32) : Nat → Int32
  | 0 => 0
  | n + 1 => zm_ons m n + ((m >>> (nI n &&& 31)) &&& 1)
theorem m_ones {m : Int32} (hN : 20 ≤ N) : fX6_ones N S m = some (zm_ons m 12, S) := by
  have loop : ∀ (j n i : Nat), i + j = 12 → j < n → fX6_ones_4 N n S m (zm_ons m i) (nI i) = some (zm_ons m 12, S) := by
    intro j
    induction j with
    | zero =>
      intro n i hi hn
      obtain ⟨n, rfl⟩ : ∃ q, n = q + 1 := ⟨n - 1, by omega⟩
      have e : i = 12 := by omega
      subst e
      simp only [fX6_ones_4, fX6_ones_4b]
      rw [if_pos (by decide)]
    | succ j ih =>
      intro n i hi hn
      obtain ⟨n, rfl⟩ : ∃ q, n = q + 1 := ⟨n - 1, by omega⟩
      simp only [fX6_ones_4, fX6_ones_4b, zb_let, zn_ar]
      rw [if_neg (show ¬ (12 : Int32) ≤ nI i by rw [show (12 : Int32) = nI 12 from rfl, zn_le (by omega) (by omega)]; omega)]
      exact ih n (i + 1) (by omega) (by omega)
  exact loop 12 N 0 (by omega) (by omega)
theorem zc_bc_all : (List.range 4096).all (fun j => decide (zc_bc (nI j) = zm_ons (nI j) 12)) = true := by decide +kernel
theorem zc_bc_eq {m : Int32} (h : ∀ k, 12 ≤ k → k < 32 → bt m k = false) : zc_bc m = zm_ons m 12 := by
  have e : m &&& 4095 = m := by
    apply b_ext
    intro i hi
    rw [b_and]
    by_cases c : i < 12
    · have := (by decide +kernel : ∀ i, i < 12 → bt 4095 i = true) i c
      rw [this]; simp
    · rw [h i (by omega) hi]; simp
  obtain ⟨j, h1, h2⟩ := pk_andE m (m := 4095) 12 (by decide)
  rw [e] at h2
  have := List.all_eq_true.mp zc_bc_all j (by simp; omega)
  rw [decide_eq_true_eq] at this
  rw [h2]; exact this
theorem e_clear {a : Int32} (hN : 5000 ≤ N) (h : zi_I S) : zi_E (fun S => fX5_clear N S a) (fun S => fX6_clear N S a) S := by
  obtain ⟨M, s, J, tl, na, nx, ns, hP⟩ := h
  obtain ⟨hl, hc, hn, ht, ha, hk, hs, ho⟩ := id hP
  obtain ⟨l1, l2, l3, l4, l5⟩ := id hl
  have hm0 : zm_ok 24 M s J (zb_pi S 21 0 0) := ⟨rfl, hc.2.1, hc.2.2.1, hc.2.2.2⟩
  have i48 : zb_in 48 (zb_sz (3 + 1)) := by decide
  have i48' : zb_in 48 (zb_sz 4) := by decide
  have c48 : Int32.toNatClampNeg 48 = 48 := by decide
  rcases p_hasZone (N := N) (a := a) hc.1 hl with ⟨z, h1, rfl, h3⟩ | ⟨h2, h3⟩
  · have c2 : Int32.toNatClampNeg (nI (6 * z + 2)) = 6 * z + 2 := zn_cl (by omega)
    have i2 : zb_in (nI (6 * z + 2)) (zb_sz 24) := (zn_in (by omega)).mpr (show 6 * z + 2 < 79 by omega)
    have ej : bt (zb_a S (3 + 1) 48) z = decide (zb_a S 24 (6 * z + 2) = 1) := by rw [show zb_a S (3 + 1) 48 = zb_a S 4 48 from rfl, hn.1.2.1 z (by omega)]; simp [h1]
    have hjam : fX1_isJammed N 3 S (nI z) = some (if zb_a S 24 (6 * z + 2) = 1 then 1 else 0, S) := by
      unfold fX1_isJammed fX1_isJammed_0
      simp only [if_pos i48, c48, p_in (show z < 32 by omega), zb_bind_some, ej]
      by_cases h : zb_a S 24 (6 * z + 2) = 1 <;> simp [h]
    rcases (hn.2.1 z h1).2.2.1 with hb | hb
    · refine ⟨-3, S, zb_pi S 21 0 0, ?_, ?_, hP.thr.I⟩
      · simp only [fX5_clear, fX5_clear_0, h3, zb_bind_some, hjam, hb]; rfl
      · simp only [fX6_clear, fX6_clear_0, zb_let, (m_noZone (N := N) hm0 hl).1 ⟨z, h1, rfl⟩, zb_bind_some, zn_ml, zn_ar, c2, if_pos i2, zs_pi_a, hb]; rfl
    · have hr' : zr_Rel (M + s) (upd (zb_a S 4) 48 (zb_a S 4 48 &&& (((1 : Int32) <<< (nI z &&& 31)) ^^^ (-1)))) (upd (zb_a S 24) (6 * z + 2) 0) := zr_j (on := false) hn.1 (by omega) h1 (by decide) (zr_an1 (by omega))
      have hw' : zr_wf (M + s) (upd (zb_a S 24) (6 * z + 2) 0) := zr_wf_upd hn.2 (by omega) (by omega) (by omega) (fun _ => Or.inl rfl) (by omega) (by omega)
      generalize hm1 : zb_a S 4 48 &&& (((1 : Int32) <<< (nI z &&& 31)) ^^^ (-1)) = m1 at hr'
      refine zi_fin1 (r := zm_ons m1 12) (f' := upd (zb_a S 4) 48 m1) (g' := upd (zb_a S 24) (6 * z + 2) 0) hP ?_ ?_ hr' hw'
      · simp only [fX5_clear, fX5_clear_0, h3, zb_bind_some, hjam, hb, p_remember ha, fX1_freeJam, fX1_freeJam_0, zb_let, if_pos i48, if_pos i48', c48, zs_pa]
        rw [if_neg (by decide), if_neg (by decide)]
        have e1 : zb_a (zc_rem S na nx) (3 + 1) = zb_a S 4 := rfl
        rw [e1, hm1, show zb_a (zs_a (zc_rem S na nx) (3 + 1) (upd (zb_a S 4) 48 m1)) 4 = upd (zb_a S 4) 48 m1 from zs_same _ _ _, upd_s, p_bitCount, zb_bind_some]
        rw [zc_bc_eq (m := m1)]
        intro k k1 k2
        have := hr'.2.1 k k2
        rw [upd_s] at this
        rw [this]
        simp [show ¬ (k < M + s) by omega]
      · intro X C hC hm e0 e14
        simp only [fX6_clear, fX6_clear_0, zb_let, hC]
        rw [(m_noZone (N := N) hm hl).1 ⟨z, h1, rfl⟩]
        simp only [zb_bind_some, zn_ml, zn_ar, c2, if_pos i2, e0]
        rw [if_pos trivial, if_neg (by rw [hb]; decide), m_note (na := na) hN e14 ha.1]
        simp only [zb_bind_some, zs_pa]
        rw [show zb_a (zm_note C na) 24 = zb_a S 24 from e0]
        obtain ⟨q, q1, q2⟩ := m_those (N := N) (r := 24) (S := zs_a (zm_note C na) 24 (upd (zb_a S 24) (6 * z + 2) 0)) (w := 2) (M := M) (s := s) (J := J) ⟨rfl, hm.2.1, hm.2.2.1, hm.2.2.2⟩ hl (by omega) (by omega)
        rw [show (2 : Int32) = nI 2 from rfl, q1]
        simp only [zb_bind_some]
        rw [m_ones (by omega)]
        simp only [zb_bind_some]
        have e9 : q = m1 := by
          apply b_ext
          intro k hk
          rw [q2 k hk, zs_same]
          have := hr'.2.1 k hk
          rw [upd_s] at this
          rw [this]
          by_cases c : k < M + s
          · rw [m_one (hw'.1 k c).2.2.1]; simp
          · simp [c]
        rw [e9]
  · refine ⟨-1, S, zb_pi S 21 0 0, ?_, ?_, hP.thr.I⟩
    · simp only [fX5_clear, fX5_clear_0, h3, zb_bind_some]; rfl
    · simp only [fX6_clear, fX6_clear_0, zb_let, (m_noZone (N := N) hm0 hl).2 h2, zb_bind_some]; rfl
theorem e_undo (hN : 5000 ≤ N) (h : zi_I S) : zi_E (fun S => fX5_undo N S) (fun S => fX6_undo N S) S := by
  obtain ⟨M, s, J, tl, na, nx, ns, hP⟩ := h
  obtain ⟨hl, hc, hn, ht, ha, hk, hs, ho⟩ := id hP
  obtain ⟨l1, l2, l3, l4, l5⟩ := id hl
  obtain ⟨a1, a2, a3, a4, a5, a6, a7⟩ := id ha
  by_cases h0 : na = 0
  · refine ⟨-3, S, zb_pi S 21 0 0, ?_, ?_, hP.thr.I⟩
    · simp only [fX5_undo, fX5_undo_0, fX0_takeBack, fX0_takeBack_0, a3, h0]; rfl
    · simp only [fX6_undo, fX6_undo_0, zb_let]
      rw [show zb_i (zb_pi S 21 0 0) 21 14 = nI na from a5, h0]; rfl
  · obtain ⟨b1, b2⟩ := a7 (na - 1) (by omega)
    have es : (nx + 14 - na + (na - 1)) % 14 = (nx + 13) % 14 := by omega
    rw [es] at b1
    generalize hP1 : (nx + 13) % 14 = p at b1
    have hp : p < 14 := by omega
    have e7 : nI nx + 14 - 1 - (nI nx + 14 - 1) / 14 * 14 = nI p := by
      rw [show nI nx + 14 = nI (nx + 14) from nI_add nx 14, zn_sub1 (by omega), zn_mod (by omega), show nx + 14 - 1 = nx + 13 by omega, hP1]
    let C := zs_a (zb_pi (zb_pi S 7 1 (nI p)) 7 2 (nI (na - 1))) 4 (va_cpy (zb_a S 9) (zb_a S 4) (p * 57) 0 57)
    have hcl : fX5_undo N S = some (nI (na - 1), C) := by
      simp only [fX5_undo, fX5_undo_0, fX0_takeBack, fX0_takeBack_0, a3, a4]
      rw [if_neg (by rw [zn_eq0 (by omega)]; exact h0), if_neg (by decide)]
      simp only [zb_let, e7]
      rw [show zb_i (zb_pi S 7 1 (nI p)) 7 2 = nI na from a3, zn_sub1 (by omega)]
      rw [show zb_i (zb_pi (zb_pi S 7 1 (nI p)) 7 2 (nI (na - 1))) 7 1 = nI p from rfl]
      rw [p_get (b := 8) (q := 14) (S := zb_pi (zb_pi S 7 1 (nI p)) 7 2 (nI (na - 1))) a6 hp (by omega) rfl 3 rfl]
      rfl
    have loop : ∀ (Tt : zb_S), zb_i Tt 21 14 = nI (na - 1) → ∀ (j n i : Nat), i + j = 79 → j < n → fX6_undo_27 N n (zs_a Tt 24 (va_cpy (zb_a Tt 26) (zb_a Tt 24) (79 * (na - 1)) 0 i)) (nI i) = some (nI (na - 1), zs_a Tt 24 (va_cpy (zb_a Tt 26) (zb_a Tt 24) (79 * (na - 1)) 0 79)) := by
      intro Tt hT j
      induction j with
      | zero =>
        intro n i hi hn
        obtain ⟨n, rfl⟩ : ∃ q, n = q + 1 := ⟨n - 1, by omega⟩
        have e : i = 79 := by omega
        subst e
        simp only [fX6_undo_27, fX6_undo_27b]
        rw [if_pos (by decide), zs_i, hT]
      | succ j ih =>
        intro n i hi hn
        obtain ⟨n, rfl⟩ : ∃ q, n = q + 1 := ⟨n - 1, by omega⟩
        simp only [fX6_undo_27, fX6_undo_27b, zb_let, zs_i, hT, zn_ml, nI_add, zn_ar]
        rw [if_neg (show ¬ (79 : Int32) ≤ nI i by rw [show (79 : Int32) = nI 79 from rfl, zn_le (by omega) (by omega)]; omega), if_pos (show zb_in (nI (79 * (na - 1) + i)) (zb_sz 26) from (zn_in (by omega)).mpr (show 79 * (na - 1) + i < 1106 by omega)), if_pos (show zb_in (nI i) (zb_sz 24) from (zn_in (by omega)).mpr (show i < 79 by omega)), zn_cl (by omega), zn_cl (by omega), zs_pa, zs_same, zs_aa, zs_ne (by omega)]
        have := zc_cpy (f := zb_a Tt 26) (g := zb_a Tt 24) (sp := 79 * (na - 1)) (dp := 0) (i := i)
        rw [Nat.zero_add] at this
        rw [this]
        exact ih n (i + 1) (by omega) (by omega)
    have hmo : fX6_undo N C = some (nI (na - 1), zs_a (zb_pi (zb_pi C 21 0 0) 21 14 (nI (na - 1))) 24 (va_cpy (zb_a S 26) (zb_a S 24) (79 * (na - 1)) 0 79)) := by
      simp only [fX6_undo, fX6_undo_0, zb_let]
      rw [show zb_i (zb_pi C 21 0 0) 21 14 = nI na from a5, if_neg (by rw [zn_eq0 (by omega)]; exact h0), zn_sub1 (by omega)]
      have := loop (zb_pi (zb_pi C 21 0 0) 21 14 (nI (na - 1))) rfl 79 N 0 (by omega) (by omega)
      rw [zc_cpy0, zs_id] at this
      exact this
    refine ⟨_, _, _, hcl, hmo, M, s, J, tl, na - 1, p, ns, hl, hc.tr rfl rfl rfl rfl rfl rfl rfl, ⟨?_, ?_⟩, ht.tr rfl rfl rfl rfl, ⟨by omega, hp, rfl, rfl, rfl, a6, fun k hk2 => ?_⟩, hk.tr rfl rfl rfl rfl rfl, hs.tr rfl rfl rfl rfl rfl rfl rfl rfl, ho.tr rfl rfl rfl⟩
    · refine b1.ext (by omega) (fun i hi => ?_) (fun i hi => ?_)
      · show va_cpy (zb_a S 9) (zb_a S 4) (p * 57) 0 57 i = _
        unfold va_cpy; rw [if_pos (by omega)]
        show _ = zb_a S 9 (57 * p + i)
        rw [show p * 57 + (i - 0) = 57 * p + i by omega]
      · show va_cpy (zb_a S 26) (zb_a S 24) (79 * (na - 1)) 0 79 i = _
        unfold va_cpy; rw [if_pos (by omega)]
        rw [show 79 * (na - 1) + (i - 0) = 79 * (na - 1) + i by omega]
    · refine b2.ext (by omega) (fun i hi => ?_)
      show va_cpy (zb_a S 26) (zb_a S 24) (79 * (na - 1)) 0 79 i = _
      unfold va_cpy; rw [if_pos (by omega)]
      rw [show 79 * (na - 1) + (i - 0) = 79 * (na - 1) + i by omega]
    · have e5 : (p + 14 - (na - 1) + k) % 14 = (nx + 14 - na + k) % 14 := by omega
      rw [e5]
      exact a7 k (by omega)
theorem e_keep {a : Int32} (hN : 5000 ≤ N) (h : zi_I S) : zi_E (fun S => fX5_keep N S a) (fun S => fX6_keep N S a) S := by
  obtain ⟨M, s, J, tl, na, nx, ns, hP⟩ := h
  obtain ⟨hl, hc, hn, ht, ha, hk, hs, ho⟩ := id hP
  obtain ⟨l1, l2, l3, l4, l5⟩ := id hl
  have hin : ∀ T : zb_S, fX6_in N T a.toInt64 0 1 = some (if 0 ≤ a ∧ a ≤ 1 then 1 else 0, T) := fun T => m_in32 0 1 rfl rfl
  by_cases hb : 0 ≤ a ∧ a ≤ 1
  · obtain ⟨k, k1, rfl⟩ := (zn_bet (n := 1) (by omega)).mp hb
    have h56 : zb_a S 4 56 = zb_a S 24 78 := hn.1.2.2.2 6 (by omega)
    let C := zb_pi (zs_a S 11 (va_cpy (zb_a S 4) (zb_a S 11) 0 (k * 57) 57)) 0 5 (zb_i S 0 5 ||| ((1 : Int32) <<< (nI k &&& 31)))
    have hcl : fX5_keep N S (nI k) = some (zb_a S 24 78, C) := by
      simp only [fX5_keep, fX5_keep_0]
      rw [if_neg (Int32.not_lt.mpr hb.1), if_pos (show nI k < 2 by rw [show (2 : Int32) = nI 2 from rfl, zn_lt (by omega) (by omega)]; omega), p_put (b := 10) (q := 2) hk.1 (by omega) (by omega) rfl]
      simp only [zb_bind_some, zb_let]
      rw [if_pos (by decide), show zb_a (zb_pi (zs_a S (10 + 1) (va_cpy (zb_a S 4) (zb_a S (10 + 1)) 0 (k * 57) 57)) 0 5 (zb_i (zs_a S (10 + 1) (va_cpy (zb_a S 4) (zb_a S (10 + 1)) 0 (k * 57) 57)) 0 5 ||| ((1 : Int32) <<< (nI k &&& 31)))) 4 (Int32.toNatClampNeg 56) = zb_a S 4 56 from rfl, h56]
      rfl
    have loop : ∀ (Tt : zb_S), ∀ (j n i : Nat), i + j = 79 → j < n → fX6_keep_26 N n (zs_a Tt 27 (va_cpy (zb_a Tt 24) (zb_a Tt 27) 0 (79 * k) i)) (nI k) (nI i) = some (zb_a Tt 24 78, zs_a Tt 27 (va_cpy (zb_a Tt 24) (zb_a Tt 27) 0 (79 * k) 79)) := by
      intro Tt j
      induction j with
      | zero =>
        intro n i hi hn
        obtain ⟨n, rfl⟩ : ∃ q, n = q + 1 := ⟨n - 1, by omega⟩
        have e : i = 79 := by omega
        subst e
        simp only [fX6_keep_26, fX6_keep_26b]
        rw [if_pos (by decide), if_pos (by decide), zs_ne (by omega)]
        rfl
      | succ j ih =>
        intro n i hi hn
        obtain ⟨n, rfl⟩ : ∃ q, n = q + 1 := ⟨n - 1, by omega⟩
        simp only [fX6_keep_26, fX6_keep_26b, zb_let, zn_ml, nI_add, zn_ar]
        rw [if_neg (show ¬ (79 : Int32) ≤ nI i by rw [show (79 : Int32) = nI 79 from rfl, zn_le (by omega) (by omega)]; omega), if_pos (show zb_in (nI i) (zb_sz 24) from (zn_in (by omega)).mpr (show i < 79 by omega)), if_pos (show zb_in (nI (79 * k + i)) (zb_sz 27) from (zn_in (by omega)).mpr (show 79 * k + i < 158 by omega)), zn_cl (by omega), zn_cl (by omega), zs_pa, zs_same, zs_aa, zs_ne (by omega)]
        have := zc_cpy (f := zb_a Tt 24) (g := zb_a Tt 27) (sp := 0) (dp := 79 * k) (i := i)
        rw [Nat.zero_add] at this
        rw [this]
        exact ih n (i + 1) (by omega) (by omega)
    have hmo : fX6_keep N C (nI k) = some (zb_a S 24 78, zs_a (zs_a (zb_pi C 21 0 0) 28 (upd (zb_a S 28) k 1)) 27 (va_cpy (zb_a S 24) (zb_a S 27) 0 (79 * k) 79)) := by
      simp only [fX6_keep, fX6_keep_0, zb_let, hin, zb_bind_some, if_pos hb]
      rw [if_neg (by decide), if_pos (show zb_in (nI k) (zb_sz 28) from (zn_in (by omega)).mpr (show k < 2 by omega)), zn_cl (by omega), zs_pa]
      have := loop (zs_a (zb_pi C 21 0 0) 28 (upd (zb_a S 28) k 1)) 79 N 0 (by omega) (by omega)
      rw [zc_cpy0, zs_id] at this
      exact this
    refine ⟨_, _, _, hcl, hmo, M, s, J, tl, na, nx, ns, hl, hc.tr rfl rfl rfl rfl rfl rfl rfl, hn.tr rfl rfl, ht.tr rfl rfl rfl rfl, ha.tr rfl rfl rfl rfl rfl rfl, ⟨hk.1, fun j hj => ?_⟩, hs.tr rfl rfl rfl rfl rfl rfl rfl rfl, ho.tr rfl rfl rfl⟩
    show (bt (zb_i S 0 5 ||| ((1 : Int32) <<< (nI k &&& 31))) j = true ∧ upd (zb_a S 28) k 1 j = 1 ∧ zr_Rel (M + s) (fun i => va_cpy (zb_a S 4) (zb_a S 11) 0 (k * 57) 57 (57 * j + i)) (fun i => va_cpy (zb_a S 24) (zb_a S 27) 0 (79 * k) 79 (79 * j + i)) ∧ zr_wf (M + s) (fun i => va_cpy (zb_a S 24) (zb_a S 27) 0 (79 * k) 79 (79 * j + i))) ∨ (bt (zb_i S 0 5 ||| ((1 : Int32) <<< (nI k &&& 31))) j = false ∧ upd (zb_a S 28) k 1 j = 0)
    rw [zr_or1 (by omega) j (by omega)]
    by_cases e : j = k
    · subst e
      refine Or.inl ⟨by simp, upd_s _ _ _, hn.1.ext (by omega) (fun i hi => ?_) (fun i hi => ?_), hn.2.ext (by omega) (fun i hi => ?_)⟩
      · unfold va_cpy; rw [if_pos (by omega), show 0 + (57 * j + i - j * 57) = i by omega]
      · unfold va_cpy; rw [if_pos (by omega), show 0 + (79 * j + i - 79 * j) = i by omega]
      · unfold va_cpy; rw [if_pos (by omega), show 0 + (79 * j + i - 79 * j) = i by omega]
    · rw [if_neg e, upd_n e]
      rcases hk.2 j hj with ⟨d1, d2, d3, d4⟩ | d
      · refine Or.inl ⟨d1, d2, d3.ext (by omega) (fun i hi => ?_) (fun i hi => ?_), d4.ext (by omega) (fun i hi => ?_)⟩
        · unfold va_cpy; rw [if_neg (by omega)]
        · unfold va_cpy; rw [if_neg (by omega)]
        · unfold va_cpy; rw [if_neg (by omega)]
      · exact Or.inr d
  · refine ⟨-1, S, zb_pi S 21 0 0, ?_, ?_, hP.thr.I⟩
    · simp only [fX5_keep, fX5_keep_0]
      by_cases h1 : a < 0
      · rw [if_pos h1]
      · rw [if_neg h1, if_neg (fun q => hb ⟨Int32.not_lt.mp h1, ?_⟩)]
        rcases zn_cases a 2 (by omega) with ⟨k, k1, rfl⟩ | ⟨c | c, -⟩
        · exact ((zn_bet (n := 1) (by omega)).mpr ⟨k, k1, rfl⟩).2
        · exact absurd c h1
        · exact absurd q (Int32.not_lt.mpr c)
    · simp only [fX6_keep, fX6_keep_0, zb_let, hin, zb_bind_some, if_neg hb]; rfl
theorem e_again {a : Int32} (hN : 5000 ≤ N) (h : zi_I S) : zi_E (fun S => fX5_again N S a) (fun S => fX6_again N S a) S := by
  obtain ⟨M, s, J, tl, na, nx, ns, hP⟩ := h
  obtain ⟨hl, hc, hn, ht, ha, hk, hs, ho⟩ := id hP
  obtain ⟨l1, l2, l3, l4, l5⟩ := id hl
  obtain ⟨a1, a2, a3, a4, a5, a6, a7⟩ := id ha
  have hin : ∀ T : zb_S, fX6_in N T a.toInt64 0 1 = some (if 0 ≤ a ∧ a ≤ 1 then 1 else 0, T) := fun T => m_in32 0 1 rfl rfl
  by_cases hb : 0 ≤ a ∧ a ≤ 1
  · obtain ⟨k, k1, rfl⟩ := (zn_bet (n := 1) (by omega)).mp hb
    have h2 : nI k < 2 := by rw [show (2 : Int32) = nI 2 from rfl, zn_lt (by omega) (by omega)]; omega
    have i28 : zb_in (nI k) (zb_sz 28) := (zn_in (by omega)).mpr (show k < 2 by omega)
    rcases hk.2 k (by omega) with ⟨d1, d2, d3, d4⟩ | ⟨d1, d2⟩
    · let C := zb_pi (zs_a S 4 (va_cpy (zb_a S 11) (zb_a S 4) (k * 57) 0 57)) 7 2 0
      have h56 : zb_a S 11 (57 * k + 56) = zb_a S 27 (79 * k + 78) := d3.2.2.2 6 (by omega)
      have hcl : fX5_again N S (nI k) = some (zb_a S 27 (79 * k + 78), C) := by
        simp only [fX5_again, fX5_again_0]
        rw [if_neg (Int32.not_lt.mpr hb.1), if_pos h2, p_in (by omega), d1]
        simp only [zb_bind_some]
        rw [if_neg (by decide), p_get (b := 10) (q := 2) hk.1 (by omega) (by omega) rfl 3 rfl]
        simp only [zb_bind_some, fX0_forgetAll, fX0_forgetAll_0, zb_let]
        rw [if_pos (by decide), ← h56]
        have : zb_a (zb_pi (zs_a S (3 + 1) (va_cpy (zb_a S (10 + 1)) (zb_a S (3 + 1)) (k * 57) 0 57)) 7 2 0) 4 = va_cpy (zb_a S 11) (zb_a S 4) (k * 57) 0 57 := by rw [zs_pi_a]; exact zs_same _ _ _
        rw [this, show Int32.toNatClampNeg 56 = 56 from by decide]
        unfold va_cpy
        rw [if_pos (by omega), show k * 57 + (56 - 0) = 57 * k + 56 by omega]
        rfl
      have loop : ∀ (Tt : zb_S), ∀ (j n i : Nat), i + j = 79 → j < n → fX6_again_31 N n (zs_a Tt 24 (va_cpy (zb_a Tt 27) (zb_a Tt 24) (79 * k) 0 i)) (nI k) (nI i) = some (zb_a Tt 27 (79 * k + 78), zb_pi (zs_a Tt 24 (va_cpy (zb_a Tt 27) (zb_a Tt 24) (79 * k) 0 79)) 21 14 0) := by
        intro Tt j
        induction j with
        | zero =>
          intro n i hi hn
          obtain ⟨n, rfl⟩ : ∃ q, n = q + 1 := ⟨n - 1, by omega⟩
          have e : i = 79 := by omega
          subst e
          simp only [fX6_again_31, fX6_again_31b, zb_let]
          rw [if_pos (by decide), if_pos (by decide), zs_pi_a, zs_same, show Int32.toNatClampNeg 78 = 78 from by decide]
          unfold va_cpy
          rw [if_pos (by omega)]
        | succ j ih =>
          intro n i hi hn
          obtain ⟨n, rfl⟩ : ∃ q, n = q + 1 := ⟨n - 1, by omega⟩
          simp only [fX6_again_31, fX6_again_31b, zb_let, zn_ml, nI_add, zn_ar]
          rw [if_neg (show ¬ (79 : Int32) ≤ nI i by rw [show (79 : Int32) = nI 79 from rfl, zn_le (by omega) (by omega)]; omega), if_pos (show zb_in (nI (79 * k + i)) (zb_sz 27) from (zn_in (by omega)).mpr (show 79 * k + i < 158 by omega)), if_pos (show zb_in (nI i) (zb_sz 24) from (zn_in (by omega)).mpr (show i < 79 by omega)), zn_cl (by omega), zn_cl (by omega), zs_pa, zs_same, zs_aa, zs_ne (by omega)]
          have := zc_cpy (f := zb_a Tt 27) (g := zb_a Tt 24) (sp := 79 * k) (dp := 0) (i := i)
          rw [Nat.zero_add] at this
          rw [this]
          exact ih n (i + 1) (by omega) (by omega)
      have hmo : fX6_again N C (nI k) = some (zb_a S 27 (79 * k + 78), zb_pi (zs_a (zb_pi C 21 0 0) 24 (va_cpy (zb_a S 27) (zb_a S 24) (79 * k) 0 79)) 21 14 0) := by
        simp only [fX6_again, fX6_again_0, zb_let, hin, zb_bind_some, if_pos hb]
        rw [if_neg (by decide), if_pos i28, zn_cl (by omega), show zb_a (zb_pi C 21 0 0) 28 k = 1 from d2, if_neg (by decide)]
        have := loop (zb_pi C 21 0 0) 79 N 0 (by omega) (by omega)
        rw [zc_cpy0, zs_id] at this
        exact this
      refine ⟨_, _, _, hcl, hmo, M, s, J, tl, 0, nx, ns, hl, hc.tr rfl rfl rfl rfl rfl rfl rfl, ⟨?_, ?_⟩, ht.tr rfl rfl rfl rfl, ⟨by omega, a2, rfl, a4, rfl, a6, fun q hq => by omega⟩, hk.tr rfl rfl rfl rfl rfl, hs.tr rfl rfl rfl rfl rfl rfl rfl rfl, ho.tr rfl rfl rfl⟩
      · refine d3.ext (by omega) (fun i hi => ?_) (fun i hi => ?_)
        · show va_cpy (zb_a S 11) (zb_a S 4) (k * 57) 0 57 i = _
          unfold va_cpy; rw [if_pos (by omega), show k * 57 + (i - 0) = 57 * k + i by omega]
        · show va_cpy (zb_a S 27) (zb_a S 24) (79 * k) 0 79 i = _
          unfold va_cpy; rw [if_pos (by omega), show 79 * k + (i - 0) = 79 * k + i by omega]
      · refine d4.ext (by omega) (fun i hi => ?_)
        show va_cpy (zb_a S 27) (zb_a S 24) (79 * k) 0 79 i = _
        unfold va_cpy; rw [if_pos (by omega), show 79 * k + (i - 0) = 79 * k + i by omega]
    · refine ⟨-3, S, zb_pi S 21 0 0, ?_, ?_, hP.thr.I⟩
      · simp only [fX5_again, fX5_again_0]
        rw [if_neg (Int32.not_lt.mpr hb.1), if_pos h2, p_in (by omega), d1]
        rfl
      · simp only [fX6_again, fX6_again_0, zb_let, hin, zb_bind_some, if_pos hb]
        rw [if_neg (by decide), if_pos i28, zn_cl (by omega), show zb_a (zb_pi S 21 0 0) 28 k = 0 from d2, if_pos rfl]
  · refine ⟨-1, S, zb_pi S 21 0 0, ?_, ?_, hP.thr.I⟩
    · simp only [fX5_again, fX5_again_0]
      by_cases h1 : a < 0
      · rw [if_pos h1]
      · rw [if_neg h1, if_neg (fun q => hb ⟨Int32.not_lt.mp h1, ?_⟩)]
        rcases zn_cases a 2 (by omega) with ⟨k, k1, rfl⟩ | ⟨c | c, -⟩
        · exact ((zn_bet (n := 1) (by omega)).mpr ⟨k, k1, rfl⟩).2
        · exact absurd c h1
        · exact absurd q (Int32.not_lt.mpr c)
    · simp only [fX6_again, fX6_again_0, zb_let, hin, zb_bind_some, if_neg hb]; rfl
end AF
