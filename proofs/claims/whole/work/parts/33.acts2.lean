section AD
variable {M s J tl na nx ns N b r : Nat} {S T : zb_S} {f f' g g' : Nat → Int32}
theorem zi_actI (hP : zi_P M s J tl na nx ns S) (hr : zr_Rel (M + s) f' g') (hw : zr_wf (M + s) g') : zi_I (zs_a (zm_note (zb_pi (zs_a (zc_rem S na nx) 4 f') 21 0 0) na) 24 g') := by
  obtain ⟨hl, hc, hn, ht, ha, hk, hs, ho⟩ := hP
  exact ⟨M, s, J, tl, _, _, ns, hl, hc.tr rfl rfl rfl rfl rfl rfl rfl, ⟨hr, hw⟩, ht.tr rfl rfl rfl rfl, ha.push (J := J) hn hl rfl rfl rfl rfl rfl rfl, hk.tr rfl rfl rfl rfl rfl, hs.tr rfl rfl rfl rfl rfl rfl rfl rfl, ho.tr rfl rfl rfl⟩
theorem zi_fin1 {F G : zb_S → Option (Int32 × zb_S)} {r : Int32} (hP : zi_P M s J tl na nx ns S) (h1 : F S = some (r, zs_a (zc_rem S na nx) 4 f')) (h2 : ∀ X C : zb_S, zb_pi X 21 0 0 = C → zm_ok 24 M s J C → zb_a C 24 = zb_a S 24 → zb_i C 21 14 = nI na → G X = some (r, zs_a (zm_note C na) 24 g')) (hr : zr_Rel (M + s) f' g') (hw : zr_wf (M + s) g') : zi_E F G S :=
  ⟨r, _, _, h1, h2 _ _ rfl ⟨rfl, hP.2.1.2.1, hP.2.1.2.2.1, hP.2.1.2.2.2⟩ rfl hP.2.2.2.2.1.2.2.2.2.1, zi_actI hP hr hw⟩
theorem zi_actJ {w se wi go sl we : Int32} (hP : zi_P M s J tl na nx ns S) (hr : zr_Rel (M + s) f' g') (hw : zr_wf (M + s) g') : zi_I (zm_st (zm_note (zb_pi (zs_a (zb_pi (zc_rem S na nx) 3 5 w) 4 f') 21 0 0) na) 24 se wi go sl we g') := by
  obtain ⟨hl, hc, hn, ht, ha, hk, hs, ho⟩ := hP
  exact ⟨M, s, J, tl, _, _, ns, hl, hc.tr rfl rfl rfl rfl rfl rfl rfl, ⟨hr, hw⟩, ht.tr rfl rfl rfl rfl, ha.push (J := J) hn hl rfl rfl rfl rfl rfl rfl, hk.tr rfl rfl rfl rfl rfl, hs.tr rfl rfl rfl rfl rfl rfl rfl rfl, ho.tr rfl rfl rfl⟩
theorem zr_wf_72 {Z : Nat} {v : Int32} (h : zr_wf Z g) (hZ : Z ≤ 12) (hv : v = 0 ∨ v = 1) : zr_wf Z (upd g 72 v) := by
  obtain ⟨a, b, c, d, e⟩ := h
  refine ⟨fun z hz => ?_, by rw [upd_s]; exact hv, by rw [upd_n (by omega)]; exact c, by rw [upd_n (by omega)]; exact d, by rw [upd_n (by omega)]; exact e⟩
  rw [upd_n (by omega), upd_n (by omega), upd_n (by omega), upd_n (by omega)]; exact a z hz
theorem zr_wf_73 {Z : Nat} {v : Int32} (h : zr_wf Z g) (hZ : Z ≤ 12) (hv : v = 0 ∨ v = 1) : zr_wf Z (upd g 73 v) := by
  obtain ⟨a, b, c, d, e⟩ := h
  refine ⟨fun z hz => ?_, by rw [upd_n (by omega)]; exact b, by rw [upd_s]; exact hv, by rw [upd_n (by omega)]; exact d, by rw [upd_n (by omega)]; exact e⟩
  rw [upd_n (by omega), upd_n (by omega), upd_n (by omega), upd_n (by omega)]; exact a z hz
theorem zr_wf_74 {Z : Nat} {v : Nat} (h : zr_wf Z g) (hZ : Z ≤ 12) (hv : v ≤ 9) : zr_wf Z (upd g 74 (nI v)) := by
  obtain ⟨a, b, c, d, e⟩ := h
  refine ⟨fun z hz => ?_, by rw [upd_n (by omega)]; exact b, by rw [upd_n (by omega)]; exact c, ⟨v, hv, upd_s _ _ _⟩, by rw [upd_n (by omega)]; exact e⟩
  rw [upd_n (by omega), upd_n (by omega), upd_n (by omega), upd_n (by omega)]; exact a z hz
theorem zr_wf_76 {Z : Nat} {v : Nat} (h : zr_wf Z g) (hZ : Z ≤ 12) (hv : v ≤ 99) : zr_wf Z (upd g 76 (nI v)) := by
  obtain ⟨a, b, c, d, e⟩ := h
  refine ⟨fun z hz => ?_, by rw [upd_n (by omega)]; exact b, by rw [upd_n (by omega)]; exact c, by rw [upd_n (by omega)]; exact d, ⟨v, hv, upd_s _ _ _⟩⟩
  rw [upd_n (by omega), upd_n (by omega), upd_n (by omega), upd_n (by omega)]; exact a z hz
theorem zc_okR (h : zc_ok 3 M s J S) : zc_ok 3 M s J (zc_rem S na nx) := h
theorem zs_ids (S : zb_S) (o : Nat) {f : Nat → Int32} (h : zb_a S o = f) : zs_a S o f = S := by rw [← h, zs_id]
theorem e_turn (hN : 5000 ≤ N) (h : zi_I S) : zi_E (fun S => fX5_turn N S) (fun S => fX6_turn N S) S := by
  obtain ⟨M, s, J, tl, na, nx, ns, hP⟩ := h
  obtain ⟨hl, hc, hn, ht, ha, hk, hs, ho⟩ := id hP
  obtain ⟨l1, l2, l3, l4, l5⟩ := id hl
  have g0 : zb_a S 4 50 = zb_a S 24 72 := hn.1.2.2.2 0 (by omega)
  refine zi_fin1 (r := 1 - zb_a S 24 72) (f' := upd (zb_a S 4) 50 (1 - zb_a S 24 72)) (g' := upd (zb_a S 24) 72 (1 - zb_a S 24 72)) hP ?_ ?_ (zr_g (j := 0) hn.1 (by omega) (by omega)) (zr_wf_72 hn.2 (by omega) (by rcases hn.2.2.1 with h | h <;> rw [h] <;> decide))
  · simp only [fX5_turn, fX5_turn_0, p_remember ha, zb_bind_some, fX1_turnExit, fX1_turnExit_0, zb_let]
    have e1 : zb_a (zc_rem S na nx) (3 + 1) = zb_a S 4 := rfl
    simp only [zs_pa, e1, show Int32.toNatClampNeg 50 = 50 from by decide, g0]
    rfl
  · intro X C hC hm e0 e14
    simp only [fX6_turn, fX6_turn_0, zb_let, hC]
    rw [m_note (na := na) hN e14 ha.1]
    simp only [zb_bind_some]
    have e2 : zb_a (zm_note C na) 24 = zb_a S 24 := e0
    simp only [zs_pa, e2, show Int32.toNatClampNeg 72 = 72 from by decide]
    rw [if_pos (by decide), if_pos (by decide), if_pos (by decide), zs_same, upd_s]
theorem e_eye {a c : Int32} (hN : 5000 ≤ N) (h : zi_I S) : zi_E (fun S => fX5_eye N S a c) (fun S => fX6_eye N S a c) S := by
  obtain ⟨M, s, J, tl, na, nx, ns, hP⟩ := h
  obtain ⟨hl, hc, hn, ht, ha, hk, hs, ho⟩ := id hP
  obtain ⟨l1, l2, l3, l4, l5⟩ := id hl
  have hin : ∀ T : zb_S, fX6_in N T c.toInt64 0 2 = some (if 0 ≤ c ∧ c ≤ 2 then 1 else 0, T) := fun T => m_in32 0 2 rfl rfl
  have hm0 : zm_ok 24 M s J (zb_pi S 21 0 0) := ⟨rfl, hc.2.1, hc.2.2.1, hc.2.2.2⟩
  have heye : fX1_isEye N S c = some (if 0 ≤ c ∧ c ≤ 2 then 1 else 0, S) := by
    unfold fX1_isEye fX1_isEye_0
    by_cases h1 : c < 0
    · rw [if_pos h1, if_neg (show ¬ (0 ≤ c ∧ c ≤ 2) from fun q => absurd h1 (Int32.not_lt.mpr q.1))]; rfl
    · rw [if_neg h1]
      by_cases h2 : 2 < c
      · rw [if_pos h2, if_neg (show ¬ (0 ≤ c ∧ c ≤ 2) from fun q => absurd h2 (Int32.not_lt.mpr q.2))]; rfl
      · rw [if_neg h2, if_pos (show 0 ≤ c ∧ c ≤ 2 from ⟨Int32.not_lt.mp h1, Int32.not_lt.mp h2⟩)]; rfl
  rcases p_hasZone (N := N) (a := a) hc.1 hl with ⟨z, h1, rfl, h3⟩ | ⟨h2, h3⟩
  · by_cases hb : 0 ≤ c ∧ c ≤ 2
    · have hv : c = 0 ∨ c = 1 ∨ c = 2 := by
        obtain ⟨k, k1, rfl⟩ := (zn_bet (n := 2) (by omega)).mp hb
        have : k = 0 ∨ k = 1 ∨ k = 2 := by omega
        rcases this with r | r | r <;> subst r
        · exact Or.inl rfl
        · exact Or.inr (Or.inl rfl)
        · exact Or.inr (Or.inr rfl)
      have r1 := (hn.1.1 z h1).2.1
      refine zi_fin1 (r := zb_a S 24 (6 * z + 1)) (f' := upd (zb_a S 4) (12 + z) c) (g' := upd (zb_a S 24) (6 * z + 1) c) hP ?_ ?_ (zr_e hn.1 (by omega) h1) (zr_wf_upd hn.2 (by omega) (by omega) (fun _ => hv) (by omega) (by omega) (by omega))
      · simp only [fX5_eye, fX5_eye_0, h3, zb_bind_some, heye, if_pos hb, p_remember ha]
        rw [if_neg (by decide), if_neg (by decide), show (12 : Int32) + nI z = nI (12 + z) from nI_add 12 z, p_change (zc_okR hc.1) (by omega)]
        have e1 : zb_a (zc_rem S na nx) (3 + 1) = zb_a S 4 := rfl
        rw [e1, r1]
        rfl
      · intro X C hC hm e0 e14
        simp only [fX6_eye, fX6_eye_0, zb_let, hC]
        rw [(m_noZone (N := N) hm hl).1 ⟨z, h1, rfl⟩]
        simp only [zb_bind_some, hin, if_pos hb]
        rw [if_pos trivial, if_neg (by decide), m_note (na := na) hN e14 ha.1]
        simp only [zb_bind_some]
        have e2 : zb_a (zm_note C na) 24 = zb_a S 24 := e0
        have c1 : Int32.toNatClampNeg (nI (6 * z + 1)) = 6 * z + 1 := zn_cl (by omega)
        have i1 : zb_in (nI (6 * z + 1)) (zb_sz 24) := (zn_in (by omega)).mpr (show 6 * z + 1 < 79 by omega)
        simp only [zn_ml, zn_ar, c1, if_pos i1, zs_pa, e2]
    · refine ⟨-2, S, zb_pi S 21 0 0, ?_, ?_, hP.thr.I⟩
      · simp only [fX5_eye, fX5_eye_0, h3, zb_bind_some, heye, if_neg hb]; rfl
      · simp only [fX6_eye, fX6_eye_0, zb_let, (m_noZone (N := N) hm0 hl).1 ⟨z, h1, rfl⟩, zb_bind_some, hin, if_neg hb]; rfl
  · refine ⟨-1, S, zb_pi S 21 0 0, ?_, ?_, hP.thr.I⟩
    · simp only [fX5_eye, fX5_eye_0, h3, zb_bind_some]; rfl
    · simp only [fX6_eye, fX6_eye_0, zb_let, (m_noZone (N := N) hm0 hl).2 h2, zb_bind_some]; rfl
theorem e_lift {a : Int32} (hN : 5000 ≤ N) (h : zi_I S) : zi_E (fun S => fX5_lift N S a) (fun S => fX6_lift N S a) S := by
  obtain ⟨M, s, J, tl, na, nx, ns, hP⟩ := h
  obtain ⟨hl, hc, hn, ht, ha, hk, hs, ho⟩ := id hP
  obtain ⟨l1, l2, l3, l4, l5⟩ := id hl
  have hm0 : zm_ok 24 M s J (zb_pi S 21 0 0) := ⟨rfl, hc.2.1, hc.2.2.1, hc.2.2.2⟩
  rcases p_hasZone (N := N) (a := a) hc.1 hl with ⟨z, h1, rfl, h3⟩ | ⟨h2, h3⟩
  · have r0 : zb_a S (3 + 1) z = zb_a S 24 (6 * z) := (hn.1.1 z h1).1
    have c0 : Int32.toNatClampNeg (nI (6 * z + 0)) = 6 * z := zn_cl (by omega)
    have i0 : zb_in (nI (6 * z + 0)) (zb_sz 24) := (zn_in (by omega)).mpr (show 6 * z + 0 < 79 by omega)
    have c2 : Int32.toNatClampNeg (nI (6 * z + 2)) = 6 * z + 2 := zn_cl (by omega)
    have i2 : zb_in (nI (6 * z + 2)) (zb_sz 24) := (zn_in (by omega)).mpr (show 6 * z + 2 < 79 by omega)
    by_cases hb : zb_a S 24 (6 * z) = 0
    · refine ⟨-3, S, zb_pi S 21 0 0, ?_, ?_, hP.thr.I⟩
      · simp only [fX5_lift, fX5_lift_0, h3, zb_bind_some, p_hasCarton hc.1 (show z < 57 by omega), r0, if_pos hb]; rfl
      · simp only [fX6_lift, fX6_lift_0, zb_let, (m_noZone (N := N) hm0 hl).1 ⟨z, h1, rfl⟩, zb_bind_some, zn_ml, zn_ar, c0, if_pos i0, zs_pi_a, hb]; rfl
    · refine zi_fin1 (r := zb_a S 24 (6 * z)) (f' := upd (upd (zb_a S 4) 48 (zb_a S 4 48 &&& (((1 : Int32) <<< (nI z &&& 31)) ^^^ (-1)))) z 0) (g' := upd (upd (zb_a S 24) (6 * z + 2) 0) (6 * z) 0) hP ?_ ?_ (zr_c (zr_j (on := false) hn.1 (by omega) h1 (by decide) (zr_an1 (by omega))) (by omega) h1) (zr_wf_upd (zr_wf_upd hn.2 (by omega) (by omega) (by omega) (fun _ => Or.inl rfl) (by omega) (by omega)) (by omega) (fun _ => by decide) (by omega) (by omega) (by omega) (by omega))
      · simp only [fX5_lift, fX5_lift_0, h3, zb_bind_some, p_hasCarton hc.1 (show z < 57 by omega), r0, if_neg hb, p_remember ha]
        rw [if_neg (by decide), if_neg (by decide)]
        simp only [fX1_takeAway, fX1_takeAway_0, fX1_freeJam, fX1_freeJam_0, zb_let]
        rw [if_pos (show zb_in 48 (zb_sz (3 + 1)) by decide), if_pos (show zb_in 48 (zb_sz (3 + 1)) by decide), zb_bind_some, zs_pa]
        rw [show (0 : Int32) + nI z = nI z from by rw [zn_al, Nat.zero_add], p_change (S := zs_a (zc_rem S na nx) (3 + 1) _) hc.1 (by omega), zs_same, zs_aa, zb_bind_some]
        rw [upd_n (show z ≠ Int32.toNatClampNeg 48 by rw [show Int32.toNatClampNeg 48 = 48 from by decide]; omega)]
        have e1 : zb_a (zc_rem S na nx) (3 + 1) = zb_a S 4 := rfl
        rw [e1, show zb_a S 4 z = zb_a S 24 (6 * z) from r0]
        rfl
      · intro X C hC hm e0 e14
        simp only [fX6_lift, fX6_lift_0, zb_let, hC]
        rw [(m_noZone (N := N) hm hl).1 ⟨z, h1, rfl⟩]
        simp only [zb_bind_some, zn_ml, zn_ar, c0, if_pos i0]
        rw [if_pos trivial, if_neg (by rw [e0]; exact hb), m_note (na := na) hN e14 ha.1]
        simp only [zb_bind_some, fX6_liftOn, fX6_liftOn_0, zb_let, zn_ml, zn_ar, c0, c2, if_pos i0, if_pos i2]
        have e2 : zb_a (zm_note C na) 24 = zb_a S 24 := e0
        simp only [zs_pa, e2, zs_same, zs_aa]
        rw [upd_comm (show 6 * z ≠ 6 * z + 2 by omega)]
  · refine ⟨-1, S, zb_pi S 21 0 0, ?_, ?_, hP.thr.I⟩
    · simp only [fX5_lift, fX5_lift_0, h3, zb_bind_some]; rfl
    · simp only [fX6_lift, fX6_lift_0, zb_let, (m_noZone (N := N) hm0 hl).2 h2, zb_bind_some]; rfl
end AD
