section AE
variable {M s J tl na nx ns N b r : Nat} {S T : zb_S} {f f' g g' : Nat → Int32}
theorem m_line {a : Int32} {s : Nat} (hs : s ≤ 4) : (∃ e : Nat, (a = 0 ∧ e = 0) ∨ (a = 1 ∧ 0 < s ∧ e = 1)) ∨ (a ≠ 0 ∧ ¬ (a = 1 ∧ 0 < s)) := by
  by_cases h0 : a = 0
  · exact Or.inl ⟨0, Or.inl ⟨h0, rfl⟩⟩
  · by_cases h1 : a = 1 ∧ 0 < s
    · exact Or.inl ⟨1, Or.inr ⟨h1.1, h1.2, rfl⟩⟩
    · exact Or.inr ⟨h0, h1⟩
theorem p_hasLine {a : Int32} (hok : zc_ok b M s J S) (hl : zc_lim M s J) : fX1_hasLine N b S a = some (if a = 0 ∨ (a = 1 ∧ 0 < s) then 1 else 0, S) := by
  obtain ⟨l1, l2, l3, l4, l5⟩ := hl
  unfold fX1_hasLine fX1_hasLine_0 fX1_hasLine_16
  rw [hok.2.2.1]
  by_cases h0 : a = 0
  · rw [if_pos h0, if_pos (Or.inl h0)]; simp [h0]
  · rw [if_neg h0]
    by_cases h1 : a = 1
    · rw [if_pos h1]
      by_cases h2 : 0 < s
      · rw [if_neg (by rw [zn_le0 (by omega)]; omega)]; simp [h1, h2]
      · rw [if_pos (by rw [zn_le0 (by omega)]; omega)]; simp [h1, h2]
    · rw [if_neg h1]; simp [h0, h1]
theorem m_noLine {a : Int32} (hok : zm_ok r M s J S) (hl : zc_lim M s J) : fX6_noLine N S a = some (if a = 0 ∨ (a = 1 ∧ 0 < s) then 0 else 1, S) := by
  obtain ⟨l1, l2, l3, l4, l5⟩ := hl
  unfold fX6_noLine fX6_noLine_0 fX6_noLine_16
  rw [hok.2.2.1]
  by_cases h0 : a = 0
  · rw [if_pos h0]; simp [h0]
  · rw [if_neg h0]
    by_cases h1 : a = 1
    · rw [if_pos h1]
      by_cases h2 : 0 < s
      · rw [if_pos (by rw [zn_0lt (by omega)]; omega)]; simp [h1, h2]
      · rw [if_neg (by rw [zn_0lt (by omega)]; omega)]; simp [h1, h2]
    · rw [if_neg h1]; simp [h0, h1]
def zs_en (M : Nat) (a : Int32) : Nat := if a = 0 then 0 else M
theorem p_entryOf {a : Int32} (hok : zc_ok b M s J S) : fX1_entryOf N b S a = some (nI (zs_en M a), S) := by
  unfold fX1_entryOf fX1_entryOf_0 zs_en
  by_cases h : a = 0
  · rw [if_pos h, if_pos h]; rfl
  · rw [if_neg h, if_neg h, hok.2.1]
theorem m_entry {a : Int32} (hok : zm_ok r M s J S) : fX6_entry N S a = some (nI (zs_en M a), S) := by
  unfold fX6_entry fX6_entry_0 zs_en
  by_cases h : a = 0
  · rw [if_pos h, if_pos h]; rfl
  · rw [if_neg h, if_neg h, hok.2.1]
theorem zs_en_lt {a : Int32} (hl : zc_lim M s J) (h : a = 0 ∨ (a = 1 ∧ 0 < s)) : zs_en M a < M + s := by
  obtain ⟨l1, l2, l3, l4, l5⟩ := hl
  unfold zs_en
  rcases h with h | ⟨h, h2⟩
  · rw [if_pos h]; omega
  · rw [if_neg (by rw [h]; decide)]; omega
theorem p_putNext {e : Nat} {q : Int32} (hok : zc_ok b M s J S) (he : e < 12) (hq : zb_a S (b + 1) 54 + 1 = q) : fX1_putNext N b S (nI e) = some (q, zs_a S (b + 1) (upd (upd (zb_a S (b + 1)) 54 q) e q)) := by
  have hs := (zk_X1_4 hok.1).2.2
  have c0 : Int32.toNatClampNeg (nI (0 + e)) = e := by rw [Nat.zero_add]; exact zn_cl (by omega)
  have i0 : zb_in (nI (0 + e)) 57 := (zn_in (by omega)).mpr (by omega)
  have i54 : zb_in 54 57 := by decide
  have c54 : Int32.toNatClampNeg 54 = 54 := by decide
  unfold fX1_putNext fX1_putNext_0
  simp only [hs, zb_let, zs_pa, zn_al, c0, c54, if_pos i0, if_pos i54, zs_same, zs_aa, hq, upd_s, upd_n (show 54 ≠ e by omega)]
theorem m_feedOn {a q : Int32} (hok : zm_ok r M s J S) (hl : zc_lim M s J) (h : a = 0 ∨ (a = 1 ∧ 0 < s)) (hq : zb_a S r 76 + 1 = q) : fX6_feedOn N r S a = some ((), zs_a S r (upd (upd (zb_a S r) 76 q) (6 * zs_en M a) q)) := by
  have he := zs_en_lt hl h
  obtain ⟨l1, l2, l3, l4, l5⟩ := hl
  have c0 : Int32.toNatClampNeg (nI (6 * zs_en M a + 0)) = 6 * zs_en M a := zn_cl (by omega)
  have i0 : zb_in (nI (6 * zs_en M a + 0)) 79 := (zn_in (by omega)).mpr (by omega)
  have i76 : zb_in 76 79 := by decide
  have c76 : Int32.toNatClampNeg 76 = 76 := by decide
  have he2 : ∀ f, fX6_entry N (zs_a S r f) a = some (nI (zs_en M a), zs_a S r f) := fun f => m_entry (r := r) (M := M) (s := s) (J := J) hok
  unfold fX6_feedOn fX6_feedOn_0
  simp only [hok.1, zb_let, zs_pa, c76, if_pos i76, he2, zb_bind_some, zn_ml, zn_ar, c0, if_pos i0, zs_same, zs_aa, hq, upd_s]
theorem e_feed {a : Int32} (hN : 5000 ≤ N) (h : zi_I S) : zi_E (fun S => fX5_feed N S a) (fun S => fX6_feed N S a) S := by
  obtain ⟨M, s, J, tl, na, nx, ns, hP⟩ := h
  obtain ⟨hl, hc, hn, ht, ha, hk, hs, ho⟩ := id hP
  obtain ⟨l1, l2, l3, l4, l5⟩ := id hl
  have hm0 : zm_ok 24 M s J (zb_pi S 21 0 0) := ⟨rfl, hc.2.1, hc.2.2.1, hc.2.2.2⟩
  by_cases hv : a = 0 ∨ (a = 1 ∧ 0 < s)
  · have he := zs_en_lt hl hv
    generalize hee : zs_en M a = e at he
    have r0 : zb_a S (3 + 1) e = zb_a S 24 (6 * e) := (hn.1.1 e he).1
    have c0 : Int32.toNatClampNeg (nI (6 * e + 0)) = 6 * e := zn_cl (by omega)
    have i0 : zb_in (nI (6 * e + 0)) (zb_sz 24) := (zn_in (by omega)).mpr (show 6 * e + 0 < 79 by omega)
    have i54 : zb_in 54 (zb_sz (3 + 1)) := by decide
    have c54 : Int32.toNatClampNeg 54 = 54 := by decide
    have i76 : zb_in 76 (zb_sz 24) := by decide
    have c76 : Int32.toNatClampNeg 76 = 76 := by decide
    have hpos := m_pos (hn.2.1 e he).1
    obtain ⟨q, hq, eq⟩ := hn.2.2.2.2.2
    have ef : zb_a S (3 + 1) 54 = nI q := by rw [← eq]; exact hn.1.2.2.2 4 (by omega)
    have hen : fX6_entry N (zb_pi S 21 0 0) a = some (nI e, zb_pi S 21 0 0) := by rw [← hee]; exact m_entry hm0
    have hen3 : fX1_entryOf N 3 S a = some (nI e, S) := by rw [← hee]; exact p_entryOf hc.1
    by_cases hb : zb_a S 24 (6 * e) = 0
    · have hcf : fX1_canFeed N 3 S a = some (if q = 99 then 0 else 1, S) := by
        unfold fX1_canFeed fX1_canFeed_0
        simp only [p_hasLine hc.1 hl, if_pos hv, zb_bind_some, hen3, p_hasCarton hc.1 (show e < 57 by omega), r0, if_pos hb, if_pos i54, c54, ef]
        by_cases h99 : q = 99
        · subst h99; rfl
        · have : ¬ (99 : Int32) ≤ nI q := by rw [show (99 : Int32) = nI 99 from rfl, zn_le (by omega) (by omega)]; omega
          simp [this, h99]
      by_cases h99 : q = 99
      · refine ⟨-4, S, zb_pi S 21 0 0, ?_, ?_, hP.thr.I⟩
        · simp only [fX5_feed, fX5_feed_0, p_hasLine hc.1 hl, if_pos hv, zb_bind_some, hen3, p_hasCarton hc.1 (show e < 57 by omega), r0, if_pos hb, hcf, if_pos h99]; rfl
        · simp only [fX6_feed, fX6_feed_0, zb_let, m_noLine hm0 hl, if_pos hv, zb_bind_some, hen, zn_ml, zn_ar, c0, if_pos i0, zs_pi_a, hb, if_pos i76, c76, eq, h99]; rfl
      · refine zi_fin1 (r := nI (q + 1)) (f' := upd (upd (zb_a S 4) 54 (nI (q + 1))) e (nI (q + 1))) (g' := upd (upd (zb_a S 24) 76 (nI (q + 1))) (6 * e) (nI (q + 1))) hP ?_ ?_ (zr_c (zr_g (j := 4) hn.1 (by omega) (by omega)) (by omega) he) (zr_wf_upd (zr_wf_76 hn.2 (by omega) (show q + 1 ≤ 99 by omega)) (by omega) (fun _ => by rw [zn_lt0 (by omega)]; exact fun h => h) (by omega) (by omega) (by omega) (by omega))
        · simp only [fX5_feed, fX5_feed_0, p_hasLine hc.1 hl, if_pos hv, zb_bind_some, hen3, p_hasCarton hc.1 (show e < 57 by omega), r0, if_pos hb, hcf, if_neg h99, p_remember ha]
          have hen4 : fX1_entryOf N 3 (zc_rem S na nx) a = some (nI e, zc_rem S na nx) := by rw [← hee]; exact p_entryOf (zc_okR hc.1)
          simp only [hen4, zb_bind_some]
          rw [p_putNext (q := nI (q + 1)) (zc_okR hc.1) (by omega) (by rw [show zb_a (zc_rem S na nx) (3 + 1) 54 = nI q from ef]; exact nI_1 q)]
          rfl
        · intro X C hC hm e0 e14
          have hen5 : fX6_entry N C a = some (nI e, C) := by rw [← hee]; exact m_entry hm
          simp only [fX6_feed, fX6_feed_0, zb_let, hC, m_noLine hm hl, if_pos hv, zb_bind_some, hen5, zn_ml, zn_ar, c0, if_pos i0, e0, if_pos i76, c76, eq]
          rw [if_pos trivial, if_pos (hpos.mpr hb), if_neg (show ¬ nI q = 99 by rw [show (99 : Int32) = nI 99 from rfl, zn_eq (by omega) (by omega)]; exact h99), m_note (na := na) hN e14 ha.1]
          simp only [zb_bind_some]
          rw [m_feedOn (S := zm_note C na) (r := 24) (q := nI (q + 1)) (M := M) (s := s) (J := J) hm hl hv (by rw [show zb_a (zm_note C na) 24 76 = zb_a C 24 76 from rfl, e0, eq]; exact nI_1 q)]
          simp only [zb_bind_some, zs_same, hee]
          rw [upd_n (show 76 ≠ 6 * e by omega), upd_s, show zb_a (zm_note C na) 24 = zb_a S 24 from e0]
    · refine ⟨-3, S, zb_pi S 21 0 0, ?_, ?_, hP.thr.I⟩
      · simp only [fX5_feed, fX5_feed_0, p_hasLine hc.1 hl, if_pos hv, zb_bind_some, hen3, p_hasCarton hc.1 (show e < 57 by omega), r0, if_neg hb]; rfl
      · simp only [fX6_feed, fX6_feed_0, zb_let, m_noLine hm0 hl, if_pos hv, zb_bind_some, hen, zn_ml, zn_ar, c0, if_pos i0, zs_pi_a, hpos, if_neg hb]; rfl
  · refine ⟨-1, S, zb_pi S 21 0 0, ?_, ?_, hP.thr.I⟩
    · simp only [fX5_feed, fX5_feed_0, p_hasLine hc.1 hl, if_neg hv, zb_bind_some]; rfl
    · simp only [fX6_feed, fX6_feed_0, zb_let, m_noLine hm0 hl, if_neg hv, zb_bind_some]; rfl
theorem e_make {a c : Int32} (hN : 5000 ≤ N) (h : zi_I S) : zi_E (fun S => fX5_make N S a c) (fun S => fX6_make N S a c) S := by
  obtain ⟨M, s, J, tl, na, nx, ns, hP⟩ := h
  obtain ⟨hl, hc, hn, ht, ha, hk, hs, ho⟩ := id hP
  obtain ⟨l1, l2, l3, l4, l5⟩ := id hl
  have hina : ∀ T : zb_S, fX6_in N T a.toInt64 0 1 = some (if 0 ≤ a ∧ a ≤ 1 then 1 else 0, T) := fun T => m_in32 0 1 rfl rfl
  have hin1 : ∀ T : zb_S, fX6_in N T c.toInt64 0 1 = some (if 0 ≤ c ∧ c ≤ 1 then 1 else 0, T) := fun T => m_in32 0 1 rfl rfl
  have hin9 : ∀ T : zb_S, fX6_in N T c.toInt64 0 9 = some (if 0 ≤ c ∧ c ≤ 9 then 1 else 0, T) := fun T => m_in32 0 9 rfl rfl
  by_cases hb : 0 ≤ a ∧ a ≤ 1
  · obtain ⟨k, k1, rfl⟩ := (zn_bet (n := 1) (by omega)).mp hb
    have h1 : ¬ nI k < 0 := Int32.not_lt.mpr hb.1
    have h2 : ¬ 1 < nI k := Int32.not_lt.mpr hb.2
    have : k = 0 ∨ k = 1 := by omega
    rcases this with rfl | rfl
    · by_cases hd : 0 ≤ c ∧ c ≤ 1
      · have hv : c = 0 ∨ c = 1 := by
          obtain ⟨q, q1, rfl⟩ := (zn_bet (n := 1) (by omega)).mp hd
          have : q = 0 ∨ q = 1 := by omega
          rcases this with r | r <;> subst r
          · exact Or.inl rfl
          · exact Or.inr rfl
        have e1 : zb_a S 4 51 = zb_a S 24 73 := hn.1.2.2.2 1 (by omega)
        refine zi_fin1 (r := zb_a S 24 73) (f' := upd (zb_a S 4) 51 c) (g' := upd (zb_a S 24) 73 c) hP ?_ ?_ (zr_g (j := 1) hn.1 (by omega) (by omega)) (zr_wf_73 hn.2 (by omega) hv)
        · simp only [fX5_make, fX5_make_0, fX5_make_24, fX5_make_56]
          rw [if_neg h1, if_neg h2, if_neg (Int32.not_lt.mpr hd.1), if_pos (by rfl), if_pos hd.2, p_remember ha, zb_bind_some, if_pos (by rfl), show (51 : Int32) = nI 51 from rfl, p_change (zc_okR hc.1) (by omega), zb_bind_some, show zb_a (zc_rem S na nx) (3 + 1) = zb_a S 4 from rfl, e1]
        · intro X C hC hm e0 e14
          simp only [fX6_make, fX6_make_0, fX6_make_29, zb_let, hC, hina, hin1, zb_bind_some, if_pos hb, if_pos hd]
          rw [if_neg (by decide), if_pos (by rfl), if_neg (by decide), m_note (na := na) hN e14 ha.1]
          simp only [zb_bind_some]
          rw [if_pos (by decide), if_pos (by decide), zs_pa, show zb_a (zm_note C na) 24 = zb_a S 24 from e0]
          rfl
      · refine ⟨-2, S, zb_pi S 21 0 0, ?_, ?_, hP.thr.I⟩
        · simp only [fX5_make, fX5_make_0, fX5_make_24]
          rw [if_neg h1, if_neg h2]
          by_cases h3 : c < 0
          · rw [if_pos h3]
          · rw [if_neg h3, if_pos (by rfl), if_neg (fun q => hd ⟨Int32.not_lt.mp h3, q⟩)]
        · simp only [fX6_make, fX6_make_0, fX6_make_29, zb_let, hina, hin1, zb_bind_some, if_pos hb, if_neg hd]; rfl
    · by_cases hd : 0 ≤ c ∧ c ≤ 9
      · obtain ⟨q, q1, rfl⟩ := (zn_bet (n := 9) (by omega)).mp hd
        have e1 : zb_a S 4 52 = zb_a S 24 74 := hn.1.2.2.2 2 (by omega)
        refine zi_fin1 (r := zb_a S 24 74) (f' := upd (zb_a S 4) 52 (nI q)) (g' := upd (zb_a S 24) 74 (nI q)) hP ?_ ?_ (zr_g (j := 2) hn.1 (by omega) (by omega)) (zr_wf_74 hn.2 (by omega) (by omega))
        · simp only [fX5_make, fX5_make_0, fX5_make_24, fX5_make_56]
          rw [if_neg h1, if_neg h2, if_neg (Int32.not_lt.mpr hd.1), if_neg (by decide), if_pos hd.2, p_remember ha, zb_bind_some, if_neg (by decide), show (52 : Int32) = nI 52 from rfl, p_change (zc_okR hc.1) (by omega), zb_bind_some, show zb_a (zc_rem S na nx) (3 + 1) = zb_a S 4 from rfl, e1]
        · intro X C hC hm e0 e14
          simp only [fX6_make, fX6_make_0, fX6_make_29, zb_let, hC, hina, hin9, zb_bind_some, if_pos hb, if_pos hd]
          rw [if_neg (by decide), if_neg (by decide), if_neg (by decide), m_note (na := na) hN e14 ha.1]
          simp only [zb_bind_some]
          rw [if_pos (by decide), if_pos (by decide), zs_pa, show zb_a (zm_note C na) 24 = zb_a S 24 from e0]
          rfl
      · refine ⟨-2, S, zb_pi S 21 0 0, ?_, ?_, hP.thr.I⟩
        · simp only [fX5_make, fX5_make_0, fX5_make_24]
          rw [if_neg h1, if_neg h2]
          by_cases h3 : c < 0
          · rw [if_pos h3]
          · rw [if_neg h3, if_neg (by decide), if_neg (fun q => hd ⟨Int32.not_lt.mp h3, q⟩)]
        · simp only [fX6_make, fX6_make_0, fX6_make_29, zb_let, hina, hin9, zb_bind_some, if_pos hb, if_neg hd]; rfl
  · refine ⟨-2, S, zb_pi S 21 0 0, ?_, ?_, hP.thr.I⟩
    · simp only [fX5_make, fX5_make_0]
      by_cases h1 : a < 0
      · rw [if_pos h1]
      · rw [if_neg h1, if_pos (Int32.not_le.mp (fun q => hb ⟨Int32.not_lt.mp h1, q⟩))]
    · simp only [fX6_make, fX6_make_0, zb_let, hina, zb_bind_some, if_neg hb]; rfl
theorem e_step {a : Int32} (hN : 5000 ≤ N) (h : zi_I S) : zi_E (fun S => fX5_step N S a) (fun S => fX6_step N S a) S := by
  obtain ⟨M, s, J, tl, na, nx, ns, hP⟩ := h
  obtain ⟨hl, hc, hn, ht, ha, hk, hs, ho⟩ := id hP
  obtain ⟨l1, l2, l3, l4, l5⟩ := id hl
  have hin : ∀ T : zb_S, fX6_in N T a.toInt64 1 99 = some (if 1 ≤ a ∧ a ≤ 99 then 1 else 0, T) := fun T => m_in32 1 99 rfl rfl
  by_cases hb : 1 ≤ a ∧ a ≤ 99
  · obtain ⟨k, k1, rfl⟩ := (zn_bet (n := 99) (by omega)).mp ⟨Int32.le_trans (by decide) hb.1, hb.2⟩
    have i55 : zb_in 55 (zb_sz 4) := by decide
    have c55 : Int32.toNatClampNeg 55 = 55 := by decide
    have i77 : zb_in 77 (zb_sz 24) := by decide
    have c77 : Int32.toNatClampNeg 77 = 77 := by decide
    have e55 : ∀ f g, zr_Rel (M + s) f g → f 55 = g 77 := fun f g h => h.2.2.2 5 (by omega)
    obtain ⟨f1, w1, q1, q2⟩ := p_advance (N := N) (b := 3) (S := zc_rem S na nx) (f := zb_a S 4) (g := zb_a S 24) (k := k) (w := zb_i S 3 5) (zc_okR hc.1) hl (by omega) (by omega) hn.1
    have eid : zs_a (zb_pi (zc_rem S na nx) 3 5 (zb_i S 3 5)) (3 + 1) (zb_a S 4) = zc_rem S na nx := by
      have e1 : zb_pi (zc_rem S na nx) 3 5 (zb_i S 3 5) = zc_rem S na nx := by
        generalize hR : zc_rem S na nx = R
        have : zb_i S 3 5 = R.1 3 5 := by rw [← hR]; rfl
        rw [this]
        show (va_up R.1 3 (va_up (R.1 3) 5 (R.1 3 5)), R.2.1, R.2.2) = R
        have a1 : va_up (R.1 3) 5 (R.1 3 5) = R.1 3 := by funext j; simp only [va_up]; split <;> simp_all
        have a2 : va_up R.1 3 (R.1 3) = R.1 := by funext j; simp only [va_up]; split <;> simp_all
        rw [a1, a2]
      rw [e1]
      exact zs_ids _ _ rfl
    rw [eid] at q1
    obtain ⟨se, wi, go, sl, we, p1⟩ := m_stepsOn (N := N) (r := 24) (M := M) (s := s) (J := J) (S := zm_note (zb_pi (zs_a (zb_pi (zc_rem S na nx) 3 5 w1) (3 + 1) f1) 21 0 0) na) (g := zb_a S 24) (k := k) (se := zb_i S 21 22) (wi := zb_i S 21 23) (go := zb_i S 21 24) (sl := zb_i S 21 25) (we := zb_i S 21 26) ⟨rfl, hc.2.1, hc.2.2.1, hc.2.2.2⟩ hl (by omega) (by omega) hn.2
    have eid2 : zm_st (zm_note (zb_pi (zs_a (zb_pi (zc_rem S na nx) 3 5 w1) (3 + 1) f1) 21 0 0) na) 24 (zb_i S 21 22) (zb_i S 21 23) (zb_i S 21 24) (zb_i S 21 25) (zb_i S 21 26) (zb_a S 24) = zm_note (zb_pi (zs_a (zb_pi (zc_rem S na nx) 3 5 w1) (3 + 1) f1) 21 0 0) na := (mz_id (r := 24)).symm
    rw [eid2] at p1
    refine ⟨zs_steps M s J k (zb_a S 24) 77 - zb_a S 24 77, zs_a (zb_pi (zc_rem S na nx) 3 5 w1) (3 + 1) f1, _, ?_, ?_, zi_actJ (w := w1) (se := se) (wi := wi) (go := go) (sl := sl) (we := we) (f' := f1) (g' := zs_steps M s J k (zb_a S 24)) hP q2 (zr_wf_steps hl k _ hn.2)⟩
    · simp only [fX5_step, fX5_step_0]
      rw [if_neg (Int32.not_lt.mpr hb.1), if_pos hb.2, p_remember ha]
      simp only [zb_bind_some, zb_let, if_pos i55, c55, q1]
      rw [show zb_a (zs_a (zb_pi (zc_rem S na nx) 3 5 w1) (3 + 1) f1) 4 = f1 from zs_same _ _ _, e55 _ _ q2, show zb_a (zc_rem S na nx) 4 55 = zb_a S 24 77 from e55 _ _ hn.1]
    · simp only [fX6_step, fX6_step_0, zb_let, hin, zb_bind_some, if_pos hb]
      rw [if_neg (by decide), m_note (S := zb_pi (zs_a (zb_pi (zc_rem S na nx) 3 5 w1) (3 + 1) f1) 21 0 0) (na := na) hN ha.2.2.2.2.1 ha.1]
      simp only [zb_bind_some, if_pos i77, c77, p1]
      rw [mz_a]
      rfl
  · refine ⟨-2, S, zb_pi S 21 0 0, ?_, ?_, hP.thr.I⟩
    · simp only [fX5_step, fX5_step_0]
      by_cases h1 : a < 1
      · rw [if_pos h1]
      · rw [if_neg h1, if_neg (fun q => hb ⟨Int32.not_lt.mp h1, q⟩)]
    · simp only [fX6_step, fX6_step_0, zb_let, hin, zb_bind_some, if_neg hb]; rfl
end AE
