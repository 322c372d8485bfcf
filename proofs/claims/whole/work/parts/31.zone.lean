section ZN
variable {M s J tl na nx ns N b r : Nat} {S : zb_S} {g : Nat → Int32}
def zs_fact (g : Nat → Int32) (z k : Nat) : Int32 := if k = 0 then (if g (6 * z) = 0 then -9 else g (6 * z)) else if k = 1 then g (6 * z + 1) else if k = 2 then (if zs_see g z then 1 else 0) else g (6 * z + k - 1)
theorem p_hasZone {a : Int32} (hok : zc_ok b M s J S) (hl : zc_lim M s J) : (∃ z, z < M + s ∧ a = nI z ∧ fX1_hasZone N b S a = some (1, S)) ∨ ((∀ z, z < M + s → a ≠ nI z) ∧ fX1_hasZone N b S a = some (0, S)) := by
  obtain ⟨l1, l2, l3, l4, l5⟩ := hl
  unfold fX1_hasZone fX1_hasZone_0
  rw [hok.2.2.2.1]
  rcases zn_cases a (M + s) (by omega) with ⟨z, h1, h2⟩ | ⟨h1 | h1, h2⟩
  · refine Or.inl ⟨z, h1, h2, ?_⟩
    subst h2
    rw [if_neg (by rw [zn_lt0 (by omega)]; exact fun h => h), if_neg (by rw [zn_le (by omega) (by omega)]; omega), if_neg (by rw [show (12 : Int32) = nI 12 from rfl, zn_le (by omega) (by omega)]; omega)]
    rfl
  · refine Or.inr ⟨h2, ?_⟩
    rw [if_pos h1]; rfl
  · refine Or.inr ⟨h2, ?_⟩
    rw [if_pos h1]
    split <;> rfl
theorem m_noZone {a : Int32} (hok : zm_ok r M s J S) (hl : zc_lim M s J) : ((∃ z, z < M + s ∧ a = nI z) → fX6_noZone N S a = some (0, S)) ∧ ((∀ z, z < M + s → a ≠ nI z) → fX6_noZone N S a = some (1, S)) := by
  obtain ⟨l1, l2, l3, l4, l5⟩ := hl
  have e : fX6_noZone N S a = some (if 0 ≤ a ∧ a ≤ nI (M + s - 1) then 0 else 1, S) := by
    unfold fX6_noZone fX6_noZone_0
    rw [m_zones hok]
    simp only [zb_bind_some]
    rw [zn_sub1 (by omega), m_in32 (L := 0) 0 (nI (M + s - 1)) rfl rfl]
    simp only [zb_bind_some]
    by_cases h : 0 ≤ a ∧ a ≤ nI (M + s - 1)
    · simp only [if_pos h]; rfl
    · simp only [if_neg h]; rfl
  rw [e]
  constructor
  · rintro ⟨z, h1, rfl⟩
    rw [if_pos ((zn_bet (by omega)).mpr ⟨z, by omega, rfl⟩)]
  · intro h
    rw [if_neg (fun q => by obtain ⟨k, h1, h2⟩ := (zn_bet (by omega)).mp q; exact h k (by omega) h2)]
theorem m_tellOf {z k : Nat} (hok : zm_ok r M s J S) (hl : zc_lim M s J) (hz : z < M + s) (hk : k < 7) (hw : zr_wf (M + s) (zb_a S r)) : fX6_tellOf N r S (nI z) (nI k) = some (zs_fact (zb_a S r) z k, S) := by
  have hl' := hl
  obtain ⟨l1, l2, l3, l4, l5⟩ := hl
  have c0 : Int32.toNatClampNeg (nI (6 * z + 0)) = 6 * z := zn_cl (by omega)
  have i0 : zb_in (nI (6 * z + 0)) 79 := (zn_in (by omega)).mpr (by omega)
  have c1 : Int32.toNatClampNeg (nI (6 * z + 1)) = 6 * z + 1 := zn_cl (by omega)
  have i1 : zb_in (nI (6 * z + 1)) 79 := (zn_in (by omega)).mpr (by omega)
  unfold fX6_tellOf fX6_tellOf_0 zs_fact
  simp only [zb_let, zn_ml, zn_ar, hok.1, c0, c1, if_pos i0, if_pos i1, m_seesAt hok hl' hz (fun z hz => (hw.1 z hz).1), zb_bind_some, nI_add]
  by_cases h0 : k = 0
  · subst h0
    rw [if_pos (by rfl), if_pos rfl]
    by_cases h : zb_a S r (6 * z) = 0
    · rw [if_pos ((m_pos (hw.1 z hz).1).mpr h), if_pos h]
    · rw [if_neg (fun q => h ((m_pos (hw.1 z hz).1).mp q)), if_neg h]
  · rw [if_neg (by rw [zn_eq0 (by omega)]; exact h0), if_neg h0]
    by_cases h1 : k = 1
    · subst h1; rw [if_pos (by rfl), if_pos rfl]
    · rw [if_neg (show ¬ nI k = 1 by rw [show (1 : Int32) = nI 1 from rfl, zn_eq (by omega) (by omega)]; exact h1), if_neg h1]
      by_cases h2 : k = 2
      · subst h2; rw [if_pos (by rfl), if_pos rfl]
        by_cases h : zs_see (zb_a S r) z = true <;> simp [h]
      · rw [if_neg (show ¬ nI k = 2 by rw [show (2 : Int32) = nI 2 from rfl, zn_eq (by omega) (by omega)]; exact h2), if_neg h2]
        rw [zn_sub1 (by omega), if_pos ((zn_in (by omega)).mpr (by omega)), zn_cl (by omega)]
theorem p_factOf {z k : Nat} (hok : zc_ok b M s J S) (hl : zc_lim M s J) (hN : 20 ≤ N) (hz : z < M + s) (hk : k < 7) (hr : zr_Rel (M + s) (zb_a S (b + 1)) g) (hw : zr_wf (M + s) g) : fX5_factOf N b S (nI z) (nI k) = some (zs_fact g z k, S) := by
  have hs := (zk_X1_4 hok.1).2.2
  obtain ⟨l1, l2, l3, l4, l5⟩ := id hl
  obtain ⟨r0, r1, r4, r5⟩ := hr.1 z hz
  obtain ⟨m, e1, e2⟩ := p_seeing (N := N) hok hl hN
  have em : bt m z = zs_see g z := by rw [e2 z (by omega), zf_see_rel hr hz]; simp [hz]
  have ej : bt (zb_a S (b + 1) 48) z = decide (g (6 * z + 2) = 1) := by rw [hr.2.1 z (by omega)]; simp [hz]
  have ea : bt (zb_a S (b + 1) 49) z = decide (g (6 * z + 3) = 1) := by rw [hr.2.2.1 z (by omega)]; simp [hz]
  obtain ⟨-, -, w2, w3⟩ := hw.1 z hz
  have c0 : Int32.toNatClampNeg (nI (0 + z)) = z := by rw [Nat.zero_add]; exact zn_cl (by omega)
  have i0 : zb_in (nI (0 + z)) 57 := (zn_in (by omega)).mpr (by omega)
  have c1 : Int32.toNatClampNeg (nI (12 + z)) = 12 + z := zn_cl (by omega)
  have i1 : zb_in (nI (12 + z)) 57 := (zn_in (by omega)).mpr (by omega)
  have c2 : Int32.toNatClampNeg (nI (24 + z)) = 24 + z := zn_cl (by omega)
  have i2 : zb_in (nI (24 + z)) 57 := (zn_in (by omega)).mpr (by omega)
  have c3 : Int32.toNatClampNeg (nI (36 + z)) = 36 + z := zn_cl (by omega)
  have i3 : zb_in (nI (36 + z)) 57 := (zn_in (by omega)).mpr (by omega)
  have i49 : zb_in 49 57 := by decide
  have i48 : zb_in 48 57 := by decide
  have c49 : Int32.toNatClampNeg 49 = 49 := by decide
  have c48 : Int32.toNatClampNeg 48 = 48 := by decide
  have hjam : fX1_isJammed N b S (nI z) = some (if bt (zb_a S (b + 1) 48) z then 1 else 0, S) := by
    unfold fX1_isJammed fX1_isJammed_0
    simp only [hs, if_pos i48, c48, p_in (show z < 32 by omega), zb_bind_some]
    by_cases h : bt (zb_a S (b + 1) 48) z = true <;> simp [h]
  unfold fX5_factOf fX5_factOf_0 zs_fact
  simp only [zn_al, hs, c0, c1, c2, c3, c49, if_pos i0, if_pos i1, if_pos i2, if_pos i3, if_pos i49, p_hasCarton hok (show z < 57 by omega), e1, zb_bind_some, p_in (show z < 32 by omega), hjam, em, ej, ea, r0, r1, r4, r5]
  by_cases h0 : k = 0
  · subst h0
    rw [if_pos (by rfl), if_pos rfl]
    by_cases h : g (6 * z) = 0 <;> simp [h]
  · rw [if_neg (by rw [zn_eq0 (by omega)]; exact h0), if_neg h0]
    have hne : ∀ q, q < 7 → k ≠ q → ¬ nI k = nI q := fun q hq h => by rw [zn_eq (by omega) (by omega)]; exact h
    by_cases h1 : k = 1
    · subst h1; rw [if_pos (by rfl), if_pos rfl]
    · rw [if_neg (show ¬ nI k = 1 from hne 1 (by omega) h1), if_neg h1]
      by_cases h2 : k = 2
      · subst h2; rw [if_pos (by rfl), if_pos rfl]
        by_cases h : zs_see g z = true <;> simp [h]
      · rw [if_neg (show ¬ nI k = 2 from hne 2 (by omega) h2), if_neg h2]
        by_cases h3 : k = 3
        · subst h3; rw [if_pos (by rfl)]
          rcases w2 with h | h <;> simp [h]
        · rw [if_neg (show ¬ nI k = 3 from hne 3 (by omega) h3)]
          by_cases h4 : k = 4
          · subst h4; rw [if_pos (by rfl)]
            rcases w3 with h | h <;> simp [h]
          · rw [if_neg (show ¬ nI k = 4 from hne 4 (by omega) h4)]
            by_cases h5 : k = 5
            · subst h5; rw [if_pos (by rfl)]; rfl
            · rw [if_neg (show ¬ nI k = 5 from hne 5 (by omega) h5)]
              have h6 : k = 6 := by omega
              subst h6; rw [if_pos (by rfl)]; rfl
theorem p_factOut {z : Nat} {a : Int32} (h : ∀ k, k < 7 → a ≠ nI k) : fX5_factOf N b S (nI z) a = some (-2, S) := by
  unfold fX5_factOf fX5_factOf_0
  rw [if_neg (show ¬ a = 0 from h 0 (by omega)), if_neg (show ¬ a = 1 from h 1 (by omega)), if_neg (show ¬ a = 2 from h 2 (by omega)), if_neg (show ¬ a = 3 from h 3 (by omega)), if_neg (show ¬ a = 4 from h 4 (by omega)), if_neg (show ¬ a = 5 from h 5 (by omega)), if_neg (show ¬ a = 6 from h 6 (by omega))]
theorem e_zone {a c : Int32} (hN : 5000 ≤ N) (h : zi_I S) : zi_E (fun S => fX5_zone N S a c) (fun S => fX6_zone N S a c) S := by
  obtain ⟨M, s, J, tl, na, nx, ns, hP⟩ := h
  obtain ⟨hl, hc, hn, ht, ha, hk, hs, ho⟩ := id hP
  have hm : zm_ok 24 M s J (zb_pi S 21 0 0) := ⟨rfl, hc.2.1, hc.2.2.1, hc.2.2.2⟩
  have hin : ∀ T : zb_S, fX6_in N T c.toInt64 0 6 = some (if 0 ≤ c ∧ c ≤ 6 then 1 else 0, T) := fun T => m_in32 0 6 rfl rfl
  rcases p_hasZone (N := N) (a := a) hc.1 hl with ⟨z, h1, h2, h3⟩ | ⟨h2, h3⟩
  · have hz := (m_noZone (N := N) hm hl).1 ⟨z, h1, h2⟩
    by_cases hb : 0 ≤ c ∧ c ≤ 6
    · obtain ⟨k, k1, rfl⟩ := (zn_bet (n := 6) (by omega)).mp hb
      subst h2
      refine ⟨zs_fact (zb_a S 24) z k, S, zb_pi S 21 0 0, ?_, ?_, hP.thr.I⟩
      · simp only [fX5_zone, fX5_zone_0, h3, zb_bind_some, p_factOf (N := N) hc.1 hl (by omega) h1 (show k < 7 by omega) hn.1 hn.2]
        rfl
      · simp only [fX6_zone, fX6_zone_0, zb_let, hz, zb_bind_some, hin, if_pos hb]
        rw [if_true, if_neg (by decide), m_tellOf hm hl h1 (show k < 7 by omega) hn.2]
        rfl
    · refine ⟨-2, S, zb_pi S 21 0 0, ?_, ?_, hP.thr.I⟩
      · subst h2
        simp only [fX5_zone, fX5_zone_0, h3, zb_bind_some]
        rw [p_factOut (fun k k1 e => hb ((zn_bet (n := 6) (by omega)).mpr ⟨k, k1, e⟩))]
        rfl
      · simp only [fX6_zone, fX6_zone_0, zb_let, hz, zb_bind_some, hin, if_neg hb]
        rfl
  · have hz := (m_noZone (N := N) hm hl).2 h2
    refine ⟨-1, S, zb_pi S 21 0 0, ?_, ?_, hP.thr.I⟩
    · simp only [fX5_zone, fX5_zone_0, h3, zb_bind_some]; rfl
    · simp only [fX6_zone, fX6_zone_0, zb_let, hz, zb_bind_some]; rfl
theorem m_those {w : Nat} (hok : zm_ok r M s J S) (hl : zc_lim M s J) (hN : 20 ≤ N) (hw : w < 6) : ∃ m, fX6_those N r S (nI w) = some (m, S) ∧ ∀ k, k < 32 → bt m k = (decide (k < M + s) && !decide (zb_a S r (6 * k + w) ≤ 0)) := by
  obtain ⟨l1, l2, l3, l4, l5⟩ := hl
  refine zm_loop (F := fun n m i => fX6_those_5 N r n S (nI w) m i) (Z := M + s) (by omega) ?_ ?_ N (by omega)
  · intro n i m hi
    simp only [fX6_those_5, fX6_those_5b, fX6_those_35, zb_let, m_zones hok, zb_bind_some, zn_ml, nI_add, zn_ar, hok.1]
    rw [if_neg (by rw [zn_le (by omega) (by omega)]; omega), if_pos ((zn_in (by omega)).mpr (by omega)), zn_cl (by omega)]
    by_cases h : zb_a S r (6 * i + w) ≤ 0 <;> simp [h]
  · intro n m
    simp only [fX6_those_5, fX6_those_5b, m_zones hok, zb_bind_some]
    rw [if_pos (Int32.le_refl _)]
theorem m_one {x : Int32} (h : x = 0 ∨ x = 1) : decide (x ≤ 0) = !decide (x = 1) := by
  rcases h with rfl | rfl <;> decide
theorem e_count {a : Int32} (hN : 5000 ≤ N) (h : zi_I S) : zi_E (fun S => fX5_count N S a) (fun S => fX6_count N S a) S := by
  obtain ⟨M, s, J, tl, na, nx, ns, hP⟩ := h
  obtain ⟨hl, hc, hn, ht, ha, hk, hs, ho⟩ := id hP
  obtain ⟨hrel, hw⟩ := id hn
  have hm : zm_ok 24 M s J (zb_pi S 21 0 0) := ⟨rfl, hc.2.1, hc.2.2.1, hc.2.2.2⟩
  have fin : ∀ r, fX5_count N S a = some (r, S) → fX6_count N S a = some (r, zb_pi S 21 0 0) → zi_E (fun S => fX5_count N S a) (fun S => fX6_count N S a) S := fun r h1 h2 => ⟨r, S, zb_pi S 21 0 0, h1, h2, hP.thr.I⟩
  have g0 : ∀ j, j < 7 → zb_a S 4 (50 + j) = zb_a S 24 (72 + j) := hrel.2.2.2
  obtain ⟨m0, a0, b0⟩ := m_those (N := N) (r := 24) (w := 0) hm hl (by omega) (by omega)
  obtain ⟨m2, a2, b2⟩ := m_those (N := N) (r := 24) (w := 2) hm hl (by omega) (by omega)
  obtain ⟨m3, a3, b3⟩ := m_those (N := N) (r := 24) (w := 3) hm hl (by omega) (by omega)
  obtain ⟨q0, c0, d0⟩ := p_loaded (N := N) (b := 3) hc.1 hl (by omega)
  have l1 := hl.2.1
  have l3 := hl.2.2.1
  have f0 : m0 = q0 := b_ext (fun k hk => by
    rw [b0 k hk, d0 k hk]
    by_cases c : k < M + s
    · have := (hrel.1 k c).1
      rw [show zb_a S (3 + 1) k = zb_a S 24 (6 * k) from this]
      have e := m_pos (hw.1 k c).1
      show (_ && !decide (zb_a S 24 (6 * k + 0) ≤ 0)) = _
      simp only [Nat.add_zero, e]
    · simp [c])
  have f2 : m2 = zb_a S 4 48 := b_ext (fun k hk => by
    rw [b2 k hk, hrel.2.1 k hk]
    by_cases c : k < M + s
    · show (_ && !decide (zb_a S 24 (6 * k + 2) ≤ 0)) = _
      rw [m_one (hw.1 k c).2.2.1]; simp
    · simp [c])
  have f3 : m3 = zb_a S 4 49 := b_ext (fun k hk => by
    rw [b3 k hk, hrel.2.2.1 k hk]
    by_cases c : k < M + s
    · show (_ && !decide (zb_a S 24 (6 * k + 3) ≤ 0)) = _
      rw [m_one (hw.1 k c).2.2.2]; simp
    · simp [c])
  rcases zn_cases a 15 (by omega) with ⟨k, k1, rfl⟩ | ⟨-, hne⟩
  · have : k = 0 ∨ k = 1 ∨ k = 2 ∨ k = 3 ∨ k = 4 ∨ k = 5 ∨ k = 6 ∨ k = 7 ∨ k = 8 ∨ k = 9 ∨ k = 10 ∨ k = 11 ∨ k = 12 ∨ k = 13 ∨ k = 14 := by omega
    rcases this with rfl | rfl | rfl | rfl | rfl | rfl | rfl | rfl | rfl | rfl | rfl | rfl | rfl | rfl | rfl
    · exact fin (zb_i S 1 1) rfl (by show some (zb_i S 21 2, _) = _; rw [ht.2.1, ht.2.2.1])
    · exact fin (zb_i S 3 0) rfl (by show some (zb_i S 21 4, _) = _; rw [hc.1.2.1, hc.2.1])
    · exact fin (zb_i S 3 1) rfl (by show some (zb_i S 21 5, _) = _; rw [hc.1.2.2.1, hc.2.2.1])
    · exact fin (zb_i S 3 3) rfl (by show some (zb_i S 21 6, _) = _; rw [hc.1.2.2.2.2, hc.2.2.2])
    · exact fin (zb_a S 4 51) rfl (by show some (zb_a S 24 73, _) = _; rw [g0 1 (by omega)])
    · exact fin (zb_a S 4 52) rfl (by show some (zb_a S 24 74, _) = _; rw [g0 2 (by omega)])
    · exact fin (zb_a S 4 50) rfl (by show some (zb_a S 24 72, _) = _; rw [g0 0 (by omega)])
    · exact fin (zb_a S 4 56) rfl (by show some (zb_a S 24 78, _) = _; rw [g0 6 (by omega)])
    · exact fin (zb_a S 4 54) rfl (by show some (zb_a S 24 76, _) = _; rw [g0 4 (by omega)])
    · exact fin (zb_a S 4 55) rfl (by show some (zb_a S 24 77, _) = _; rw [g0 5 (by omega)])
    · exact fin q0 (by rw [show fX5_count N S (nI 10) = zb_bind (fX1_loaded N 3 S) (fun r S => some (r, S)) from rfl, c0]; rfl) (by rw [show fX6_count N S (nI 10) = zb_bind (fX6_those N 24 (zb_pi S 21 0 0) (nI 0)) (fun r S => some (r, S)) from rfl, a0, f0]; rfl)
    · exact fin (zb_a S 4 48) rfl (by rw [show fX6_count N S (nI 11) = zb_bind (fX6_those N 24 (zb_pi S 21 0 0) (nI 2)) (fun r S => some (r, S)) from rfl, a2, f2]; rfl)
    · exact fin (zb_a S 4 49) rfl (by rw [show fX6_count N S (nI 12) = zb_bind (fX6_those N 24 (zb_pi S 21 0 0) (nI 3)) (fun r S => some (r, S)) from rfl, a3, f3]; rfl)
    · exact fin (zb_i S 7 2) rfl (by show some (zb_i S 21 14, _) = _; rw [ha.2.2.1, ha.2.2.2.2.1])
    · exact fin (zb_i S 14 3) rfl (by show some (zb_i S 21 17, _) = _; rw [hs.2.1, hs.2.2.1])
  · refine fin (-2) ?_ ?_
    · unfold fX5_count fX5_count_0
      rw [if_neg (show ¬ a = 0 from hne 0 (by omega)), if_neg (show ¬ a = 1 from hne 1 (by omega)), if_neg (show ¬ a = 2 from hne 2 (by omega)), if_neg (show ¬ a = 3 from hne 3 (by omega)), if_neg (show ¬ a = 4 from hne 4 (by omega)), if_neg (show ¬ a = 5 from hne 5 (by omega)), if_neg (show ¬ a = 6 from hne 6 (by omega)), if_neg (show ¬ a = 7 from hne 7 (by omega)), if_neg (show ¬ a = 8 from hne 8 (by omega)), if_neg (show ¬ a = 9 from hne 9 (by omega)), if_neg (show ¬ a = 10 from hne 10 (by omega)), if_neg (show ¬ a = 11 from hne 11 (by omega)), if_neg (show ¬ a = 12 from hne 12 (by omega)), if_neg (show ¬ a = 13 from hne 13 (by omega)), if_neg (show ¬ a = 14 from hne 14 (by omega))]
    · simp only [fX6_count, fX6_count_0, zb_let]
      rw [if_neg (show ¬ a = 0 from hne 0 (by omega)), if_neg (show ¬ a = 1 from hne 1 (by omega)), if_neg (show ¬ a = 2 from hne 2 (by omega)), if_neg (show ¬ a = 3 from hne 3 (by omega)), if_neg (show ¬ a = 4 from hne 4 (by omega)), if_neg (show ¬ a = 5 from hne 5 (by omega)), if_neg (show ¬ a = 6 from hne 6 (by omega)), if_neg (show ¬ a = 7 from hne 7 (by omega)), if_neg (show ¬ a = 8 from hne 8 (by omega)), if_neg (show ¬ a = 9 from hne 9 (by omega)), if_neg (show ¬ a = 10 from hne 10 (by omega)), if_neg (show ¬ a = 11 from hne 11 (by omega)), if_neg (show ¬ a = 12 from hne 12 (by omega)), if_neg (show ¬ a = 13 from hne 13 (by omega)), if_neg (show ¬ a = 14 from hne 14 (by omega))]
end ZN
