/-! what class and reference have in common between two calls -/
def zi_cfg (M s J : Nat) (S : zb_S) : Prop := zc_ok 3 M s J S ∧ zb_i S 21 4 = nI M ∧ zb_i S 21 5 = nI s ∧ zb_i S 21 6 = nI J
def zi_now (M s : Nat) (S : zb_S) : Prop := zr_Rel (M + s) (zb_a S 4) (zb_a S 24) ∧ zr_wf (M + s) (zb_a S 24)
def zi_txt (tl : Nat) (S : zb_S) : Prop := tl ≤ 40 ∧ zb_i S 1 1 = nI tl ∧ zb_i S 21 2 = nI tl ∧ ∀ k, k < tl → zb_a S 2 k = zb_a S 22 k ∧ ∃ c, c ≤ 255 ∧ zb_a S 22 k = nI c
def zi_act (M s na nx : Nat) (S : zb_S) : Prop := na ≤ 14 ∧ nx < 14 ∧ zb_i S 7 2 = nI na ∧ zb_i S 7 1 = nI nx ∧ zb_i S 21 14 = nI na ∧ zb_i S 8 0 = nI 14 ∧ ∀ k, k < na → zr_Rel (M + s) (fun i => zb_a S 9 (57 * ((nx + 14 - na + k) % 14) + i)) (fun i => zb_a S 26 (79 * k + i)) ∧ zr_wf (M + s) (fun i => zb_a S 26 (79 * k + i))
def zi_kep (M s : Nat) (S : zb_S) : Prop := zb_i S 10 0 = nI 2 ∧ ∀ j, j < 2 → (bt (zb_i S 0 5) j = true ∧ zb_a S 28 j = 1 ∧ zr_Rel (M + s) (fun i => zb_a S 11 (57 * j + i)) (fun i => zb_a S 27 (79 * j + i)) ∧ zr_wf (M + s) (fun i => zb_a S 27 (79 * j + i))) ∨ (bt (zb_i S 0 5) j = false ∧ zb_a S 28 j = 0)
def zi_see (ns : Nat) (S : zb_S) : Prop := ns ≤ 6 ∧ zb_i S 14 3 = nI ns ∧ zb_i S 21 17 = nI ns ∧ ∀ k, k < ns → zb_a S 15 k = zb_a S 29 k ∧ zb_a S 16 k = zb_a S 30 k ∧ zb_a S 17 k = zb_a S 31 k ∧ (∃ c, c ≤ 30 ∧ zb_a S 29 k = nI c) ∧ (zb_a S 31 k = 0 ∨ zb_a S 31 k = 1)
def zi_oth (S : zb_S) : Prop := zb_i S 12 0 = nI 9 ∧ zb_l S 0 11 = zb_l S 21 21
def zi_P (M s J tl na nx ns : Nat) (S : zb_S) : Prop := zc_lim M s J ∧ zi_cfg M s J S ∧ zi_now M s S ∧ zi_txt tl S ∧ zi_act M s na nx S ∧ zi_kep M s S ∧ zi_see ns S ∧ zi_oth S
def zi_I (S : zb_S) : Prop := ∃ M s J tl na nx ns, zi_P M s J tl na nx ns S
/-- a call: both answer the same, and stay so -/
def zi_E {α : Type} (f g : zb_S → Option (α × zb_S)) (S : zb_S) : Prop := ∃ r S1 S2, f S = some (r, S1) ∧ g S1 = some (r, S2) ∧ zi_I S2
section IV
variable {M s J tl na nx ns N : Nat} {S S' : zb_S}
theorem zi_cfg.tr (h : zi_cfg M s J S) (h1 : zb_i S' 3 0 = zb_i S 3 0) (h2 : zb_i S' 3 1 = zb_i S 3 1) (h3 : zb_i S' 3 2 = zb_i S 3 2) (h4 : zb_i S' 3 3 = zb_i S 3 3) (h5 : zb_i S' 21 4 = zb_i S 21 4) (h6 : zb_i S' 21 5 = zb_i S 21 5) (h7 : zb_i S' 21 6 = zb_i S 21 6) : zi_cfg M s J S' := by
  obtain ⟨⟨a0, a1, a2, a3, a4⟩, a5, a6, a7⟩ := h
  exact ⟨⟨a0, by rw [h1]; exact a1, by rw [h2]; exact a2, by rw [h3]; exact a3, by rw [h4]; exact a4⟩, by rw [h5]; exact a5, by rw [h6]; exact a6, by rw [h7]; exact a7⟩
theorem zi_now.tr (h : zi_now M s S) (h1 : zb_a S' 4 = zb_a S 4) (h2 : zb_a S' 24 = zb_a S 24) : zi_now M s S' := by
  unfold zi_now; rw [h1, h2]; exact h
theorem zi_txt.tr (h : zi_txt tl S) (h1 : zb_i S' 1 1 = zb_i S 1 1) (h2 : zb_i S' 21 2 = zb_i S 21 2) (h3 : zb_a S' 2 = zb_a S 2) (h4 : zb_a S' 22 = zb_a S 22) : zi_txt tl S' := by
  unfold zi_txt; rw [h1, h2, h3, h4]; exact h
theorem zi_act.tr (h : zi_act M s na nx S) (h1 : zb_i S' 7 2 = zb_i S 7 2) (h2 : zb_i S' 7 1 = zb_i S 7 1) (h3 : zb_i S' 21 14 = zb_i S 21 14) (h4 : zb_i S' 8 0 = zb_i S 8 0) (h5 : zb_a S' 9 = zb_a S 9) (h6 : zb_a S' 26 = zb_a S 26) : zi_act M s na nx S' := by
  unfold zi_act; rw [h1, h2, h3, h4, h5, h6]; exact h
theorem zi_kep.tr (h : zi_kep M s S) (h1 : zb_i S' 10 0 = zb_i S 10 0) (h2 : zb_i S' 0 5 = zb_i S 0 5) (h3 : zb_a S' 28 = zb_a S 28) (h4 : zb_a S' 11 = zb_a S 11) (h5 : zb_a S' 27 = zb_a S 27) : zi_kep M s S' := by
  unfold zi_kep; rw [h1, h2, h3, h4, h5]; exact h
theorem zi_see.tr (h : zi_see ns S) (h1 : zb_i S' 14 3 = zb_i S 14 3) (h2 : zb_i S' 21 17 = zb_i S 21 17) (h3 : zb_a S' 15 = zb_a S 15) (h4 : zb_a S' 16 = zb_a S 16) (h5 : zb_a S' 17 = zb_a S 17) (h6 : zb_a S' 29 = zb_a S 29) (h7 : zb_a S' 30 = zb_a S 30) (h8 : zb_a S' 31 = zb_a S 31) : zi_see ns S' := by
  unfold zi_see; rw [h1, h2, h3, h4, h5, h6, h7, h8]; exact h
theorem zi_oth.tr (h : zi_oth S) (h1 : zb_i S' 12 0 = zb_i S 12 0) (h2 : zb_l S' 0 11 = zb_l S 0 11) (h3 : zb_l S' 21 21 = zb_l S 21 21) : zi_oth S' := by
  unfold zi_oth; rw [h1, h2, h3]; exact h
theorem zn_64 {a b : Int32} : a.toInt64 ≤ b.toInt64 ↔ a ≤ b := by
  rw [Int64.le_iff_toInt_le, Int32.le_iff_toInt_le, Int32.toInt_toInt64, Int32.toInt_toInt64]
theorem m_in {a lo hi : Int64} : fX6_in N S a lo hi = some (if lo ≤ a ∧ a ≤ hi then 1 else 0, S) := by
  unfold fX6_in fX6_in_0
  have h1 : (lg_cmp a lo < 0) ↔ ¬ lo ≤ a := by
    unfold lg_cmp
    by_cases c1 : lo < a
    · rw [if_pos c1]; simp [Int64.le_of_lt c1]
    · rw [if_neg c1]
      by_cases c2 : a = lo
      · subst c2; simp [Int64.le_refl]
      · rw [if_neg c2]
        have : ¬ lo ≤ a := by
          intro h
          rcases Int64.lt_or_eq_of_le h with q | q
          · exact c1 q
          · exact c2 q.symm
        simp [this]
  have h2 : (0 < lg_cmp a hi) ↔ ¬ a ≤ hi := by
    unfold lg_cmp
    by_cases c1 : hi < a
    · rw [if_pos c1]
      have : ¬ a ≤ hi := Int64.not_le.mpr c1
      simp [this]
    · rw [if_neg c1]
      have h3 : a ≤ hi := Int64.not_lt.mp c1
      by_cases c2 : a = hi
      · rw [if_pos c2]; simp [h3]
      · rw [if_neg c2]; simp [h3]
  by_cases c1 : lo ≤ a
  · rw [if_neg (by rw [h1]; exact fun h => h c1)]
    by_cases c2 : a ≤ hi
    · rw [if_neg (by rw [h2]; exact fun h => h c2)]; simp [c1, c2]
    · rw [if_pos (by rw [h2]; exact c2)]; simp [c2]
  · rw [if_pos (by rw [h1]; exact c1)]; simp [c1]
theorem m_in32 {a : Int32} {L H : Int64} (lo hi : Int32) (hL : lo.toInt64 = L) (hH : hi.toInt64 = H) : fX6_in N S a.toInt64 L H = some (if lo ≤ a ∧ a ≤ hi then 1 else 0, S) := by
  rw [m_in, ← hL, ← hH]
  simp only [zn_64]
theorem zi_P.thr (h : zi_P M s J tl na nx ns S) : zi_P M s J tl na nx ns (zb_pi S 21 0 0) := by
  obtain ⟨hl, hc, hn, ht, ha, hk, hs, ho⟩ := h
  exact ⟨hl, hc.tr rfl rfl rfl rfl rfl rfl rfl, hn.tr rfl rfl, ht.tr rfl rfl rfl rfl, ha.tr rfl rfl rfl rfl rfl rfl, hk.tr rfl rfl rfl rfl rfl, hs.tr rfl rfl rfl rfl rfl rfl rfl rfl, ho.tr rfl rfl rfl⟩
theorem zi_P.I (h : zi_P M s J tl na nx ns S) : zi_I S := ⟨M, s, J, tl, na, nx, ns, h⟩
/-- an int is in a row of numbers, or not -/
theorem zn_cases (a : Int32) (n : Nat) (hn : n < 2147483648) : (∃ k, k < n ∧ a = nI k) ∨ ((a < 0 ∨ nI n ≤ a) ∧ ∀ k, k < n → a ≠ nI k) := by
  rcases pk_ix a hn with h | h | h
  · exact Or.inr ⟨Or.inl h, fun k hk e => by rw [e, zn_lt0 (by omega)] at h; exact h⟩
  · exact Or.inr ⟨Or.inr h, fun k hk e => by rw [e, zn_le (by omega) (by omega)] at h; omega⟩
  · exact Or.inl h
theorem zn_bet {a : Int32} {n : Nat} (hn : n < 2147483647) : (0 ≤ a ∧ a ≤ nI n) ↔ ∃ k, k < n + 1 ∧ a = nI k := by
  constructor
  · rintro ⟨h1, h2⟩
    rcases zn_cases a (n + 1) (by omega) with h | ⟨h | h, -⟩
    · exact h
    · exact absurd h (Int32.not_lt.mpr h1)
    · exfalso
      have := Int32.le_trans h h2
      rw [zn_le (by omega) (by omega)] at this
      omega
  · rintro ⟨k, h1, rfl⟩
    exact ⟨(zn_0le (by omega)).mpr trivial, (zn_le (by omega) (by omega)).mpr (by omega)⟩
theorem e_wipe (h : zi_I S) : zi_E (fun S => fX5_wipe N S) (fun S => fX6_wipe N S) S := by
  obtain ⟨M, s, J, tl, na, nx, ns, hl, hc, hn, ht, ha, hk, hs, ho⟩ := h
  refine ⟨zb_i S 1 1, zb_pi S 1 1 0, zb_pi (zb_pi (zb_pi S 1 1 0) 21 0 0) 21 2 0, rfl, ?_, M, s, J, 0, na, nx, ns, hl, hc.tr rfl rfl rfl rfl rfl rfl rfl, hn.tr rfl rfl, ?_, ha.tr rfl rfl rfl rfl rfl rfl, hk.tr rfl rfl rfl rfl rfl, hs.tr rfl rfl rfl rfl rfl rfl rfl rfl, ho.tr rfl rfl rfl⟩
  · show some (zb_i S 21 2, _) = _
    rw [ht.2.1, ht.2.2.1]
  · exact ⟨by omega, rfl, rfl, fun k hk => by omega⟩
theorem e_write {a : Int32} (h : zi_I S) : zi_E (fun S => fX5_write N S a) (fun S => fX6_write N S a) S := by
  obtain ⟨M, s, J, tl, na, nx, ns, hP⟩ := h
  obtain ⟨hl, hc, hn, ht, ha, hk, hs, ho⟩ := id hP
  obtain ⟨t1, t2, t3, t4⟩ := id ht
  have hin : ∀ T : zb_S, fX6_in N T a.toInt64 0 255 = some (if 0 ≤ a ∧ a ≤ 255 then 1 else 0, T) := fun T => m_in32 0 255 rfl rfl
  by_cases hb : 0 ≤ a ∧ a ≤ 255
  · obtain ⟨c, hc1, rfl⟩ := (zn_bet (n := 255) (by omega)).mp hb
    have e1 : ¬ nI c < 0 := Int32.not_lt.mpr hb.1
    by_cases h4 : tl = 40
    · refine ⟨-4, S, zb_pi S 21 0 0, ?_, ?_, hP.thr.I⟩
      · simp only [fX5_write, fX5_write_0, fX4_append, fX4_append_0]
        rw [if_neg e1, if_pos hb.2, t2, h4]
        rfl
      · simp only [fX6_write, fX6_write_0, zb_let, hin, zb_bind_some, if_pos hb]
        rw [if_neg (by decide), if_pos]
        rw [zs_pi_i, if_neg (by omega), t3, h4]
        rfl
    · have ci : Int32.toNatClampNeg (nI tl) = tl := zn_cl (by omega)
      have ii : zb_in (nI tl) 40 := (zn_in (by omega)).mpr (by omega)
      refine ⟨nI (tl + 1), zb_pi (zb_pa S 2 tl (nI c)) 1 1 (nI (tl + 1)), zb_pi (zb_pa (zb_pi (zb_pi (zb_pa S 2 tl (nI c)) 1 1 (nI (tl + 1))) 21 0 0) 22 tl (nI c)) 21 2 (nI (tl + 1)), ?_, ?_, M, s, J, tl + 1, na, nx, ns, hl, hc.tr rfl rfl rfl rfl rfl rfl rfl, hn.tr rfl rfl, ?_, ha.tr rfl rfl rfl rfl rfl rfl, hk.tr rfl rfl rfl rfl rfl, hs.tr rfl rfl rfl rfl rfl rfl rfl rfl, ho.tr rfl rfl rfl⟩
      · simp only [fX5_write, fX5_write_0, fX4_append, fX4_append_0, zb_let, t2, ci]
        rw [if_neg e1, if_pos hb.2, if_pos (show nI tl < 40 by rw [show (40 : Int32) = nI 40 from rfl, zn_lt (by omega) (by omega)]; omega), if_pos (show zb_in (nI tl) (zb_sz 2) from ii)]
        rw [show zb_i (zb_pa S 2 tl (nI c)) 1 1 = nI tl from t2, zn_ar]
        rfl
      · simp only [fX6_write, fX6_write_0, zb_let, hin, zb_bind_some, if_pos hb]
        have q0 : zb_i (zb_pi (zb_pi (zb_pa S 2 tl (nI c)) 1 1 (nI (tl + 1))) 21 0 0) 21 2 = nI tl := t3
        rw [if_neg (by decide), q0, if_neg (show ¬ nI tl = 40 by rw [show (40 : Int32) = nI 40 from rfl, zn_eq (by omega) (by omega)]; exact h4), if_pos (show zb_in (nI tl) (zb_sz 22) from ii), ci]
        have q1 : zb_i (zb_pa (zb_pi (zb_pi (zb_pa S 2 tl (nI c)) 1 1 (nI (tl + 1))) 21 0 0) 22 tl (nI c)) 21 2 = nI tl := t3
        rw [q1, zn_ar]
        rfl
      · refine ⟨by omega, rfl, rfl, fun k hk2 => ?_⟩
        show upd (zb_a S 2) tl (nI c) k = upd (zb_a S 22) tl (nI c) k ∧ ∃ c', c' ≤ 255 ∧ upd (zb_a S 22) tl (nI c) k = nI c'
        by_cases e : k = tl
        · subst e; rw [upd_s, upd_s]; exact ⟨rfl, c, by omega, rfl⟩
        · rw [upd_n e, upd_n e]; exact t4 k (by omega)
  · refine ⟨-2, S, zb_pi S 21 0 0, ?_, ?_, hP.thr.I⟩
    · simp only [fX5_write, fX5_write_0]
      by_cases h1 : a < 0
      · rw [if_pos h1]
      · rw [if_neg h1, if_neg (fun q => hb ⟨Int32.not_lt.mp h1, q⟩)]
    · simp only [fX6_write, fX6_write_0, zb_let, hin, zb_bind_some, if_neg hb]
      rfl
theorem e_unsee (h : zi_I S) : zi_E (fun S => fX5_unsee N S) (fun S => fX6_unsee N S) S := by
  obtain ⟨M, s, J, tl, na, nx, ns, hl, hc, hn, ht, ha, hk, hs, ho⟩ := h
  refine ⟨zb_i S 14 3, zb_pi S 14 3 0, zb_pi (zb_pi (zb_pi S 14 3 0) 21 0 0) 21 17 0, rfl, ?_, M, s, J, tl, na, nx, 0, hl, hc.tr rfl rfl rfl rfl rfl rfl rfl, hn.tr rfl rfl, ht.tr rfl rfl rfl rfl, ha.tr rfl rfl rfl rfl rfl rfl, hk.tr rfl rfl rfl rfl rfl, ?_, ho.tr rfl rfl rfl⟩
  · show some (zb_i S 21 17, _) = _
    rw [hs.2.1, hs.2.2.1]
  · exact ⟨by omega, rfl, rfl, fun k hk => by omega⟩
theorem e_seed {a : Int64} (h : zi_I S) : zi_E (fun S => fX5_seed N S a) (fun S => fX6_seed N S a) S := by
  obtain ⟨M, s, J, tl, na, nx, ns, hl, hc, hn, ht, ha, hk, hs, ho⟩ := h
  refine ⟨zb_l S 0 11, zb_pl S 0 11 a, zb_pl (zb_pi (zb_pl S 0 11 a) 21 0 0) 21 21 a, rfl, ?_, M, s, J, tl, na, nx, ns, hl, hc.tr rfl rfl rfl rfl rfl rfl rfl, hn.tr rfl rfl, ht.tr rfl rfl rfl rfl, ha.tr rfl rfl rfl rfl rfl rfl, hk.tr rfl rfl rfl rfl rfl, hs.tr rfl rfl rfl rfl rfl rfl rfl rfl, ho.1, rfl⟩
  show some (zb_l S 21 21, _) = _
  rw [ho.2]
theorem e_see {a b c : Int32} (h : zi_I S) : zi_E (fun S => fX5_see N S a b c) (fun S => fX6_see N S a b c) S := by
  obtain ⟨M, s, J, tl, na, nx, ns, hP⟩ := h
  obtain ⟨hl, hc, hn, ht, ha, hk, hs, ho⟩ := id hP
  obtain ⟨s1, s2, s3, s4⟩ := id hs
  have hina : ∀ T : zb_S, fX6_in N T a.toInt64 0 30 = some (if 0 ≤ a ∧ a ≤ 30 then 1 else 0, T) := fun T => m_in32 0 30 rfl rfl
  have hinb : ∀ T : zb_S, fX6_in N T b.toInt64 0 99 = some (if 0 ≤ b ∧ b ≤ 99 then 1 else 0, T) := fun T => m_in32 0 99 rfl rfl
  have hinc : ∀ T : zb_S, fX6_in N T c.toInt64 0 1 = some (if 0 ≤ c ∧ c ≤ 1 then 1 else 0, T) := fun T => m_in32 0 1 rfl rfl
  by_cases hb : (0 ≤ a ∧ a ≤ 30) ∧ (0 ≤ b ∧ b ≤ 99) ∧ (0 ≤ c ∧ c ≤ 1)
  · obtain ⟨b1, b2, b3⟩ := hb
    have n1 : ¬ a < 0 := Int32.not_lt.mpr b1.1
    have n2 : ¬ 30 < a := Int32.not_lt.mpr b1.2
    have n3 : ¬ b < 0 := Int32.not_lt.mpr b2.1
    have n4 : ¬ 99 < b := Int32.not_lt.mpr b2.2
    have n5 : ¬ c < 0 := Int32.not_lt.mpr b3.1
    by_cases h4 : ns = 6
    · refine ⟨-4, S, zb_pi S 21 0 0, ?_, ?_, hP.thr.I⟩
      · simp only [fX5_see, fX5_see_0, fX2_append, fX2_append_0]
        rw [if_neg n1, if_neg n2, if_neg n3, if_neg n4, if_neg n5, if_pos b3.2, s2, h4]
        rfl
      · simp only [fX6_see, fX6_see_0, zb_let, hina, hinb, hinc, zb_bind_some, if_pos b1, if_pos b2, if_pos b3]
        rw [if_neg (by decide), if_neg (by decide), if_neg (by decide), if_pos]
        rw [zs_pi_i, if_neg (by omega), s3, h4]
        rfl
    · have ci : Int32.toNatClampNeg (nI ns) = ns := zn_cl (by omega)
      have ii : zb_in (nI ns) 6 := (zn_in (by omega)).mpr (by omega)
      refine ⟨nI (ns + 1), zb_pi (zb_pa (zb_pa (zb_pa S 15 ns a) 16 ns b) 17 ns c) 14 3 (nI (ns + 1)), zb_pi (zb_pa (zb_pa (zb_pa (zb_pi (zb_pi (zb_pa (zb_pa (zb_pa S 15 ns a) 16 ns b) 17 ns c) 14 3 (nI (ns + 1))) 21 0 0) 29 ns a) 30 ns b) 31 ns c) 21 17 (nI (ns + 1)), ?_, ?_, M, s, J, tl, na, nx, ns + 1, hl, hc.tr rfl rfl rfl rfl rfl rfl rfl, hn.tr rfl rfl, ht.tr rfl rfl rfl rfl, ha.tr rfl rfl rfl rfl rfl rfl, hk.tr rfl rfl rfl rfl rfl, ?_, ho.tr rfl rfl rfl⟩
      · simp only [fX5_see, fX5_see_0, fX2_append, fX2_append_0, zb_let]
        rw [if_neg n1, if_neg n2, if_neg n3, if_neg n4, if_neg n5, if_pos b3.2]
        have q1 : ∀ f, zb_i (zs_a S 15 f) 14 3 = nI ns := fun _ => s2
        have q2 : ∀ f g, zb_i (zs_a (zs_a S 15 f) 16 g) 14 3 = nI ns := fun _ _ => s2
        have q3 : ∀ f g h, zb_i (zs_a (zs_a (zs_a S 15 f) 16 g) 17 h) 14 3 = nI ns := fun _ _ _ => s2
        simp only [zs_pa, q1, q2, q3, s2, ci]
        rw [if_pos (show nI ns < 6 by rw [show (6 : Int32) = nI 6 from rfl, zn_lt (by omega) (by omega)]; omega), if_pos (show zb_in (nI ns) (zb_sz 15) from ii), if_pos (show zb_in (nI ns) (zb_sz 16) from ii), if_pos (show zb_in (nI ns) (zb_sz 17) from ii), zn_ar]
        rfl
      · simp only [fX6_see, fX6_see_0, zb_let, hina, hinb, hinc, zb_bind_some, if_pos b1, if_pos b2, if_pos b3]
        rw [if_neg (by decide), if_neg (by decide), if_neg (by decide)]
        generalize hT : zb_pi (zb_pi (zb_pa (zb_pa (zb_pa S 15 ns a) 16 ns b) 17 ns c) 14 3 (nI (ns + 1))) 21 0 0 = T
        have q0 : zb_i T 21 17 = nI ns := by rw [← hT]; exact s3
        have q1 : ∀ f, zb_i (zs_a T 29 f) 21 17 = nI ns := fun _ => q0
        have q2 : ∀ f g, zb_i (zs_a (zs_a T 29 f) 30 g) 21 17 = nI ns := fun _ _ => q0
        have q3 : ∀ f g h, zb_i (zs_a (zs_a (zs_a T 29 f) 30 g) 31 h) 21 17 = nI ns := fun _ _ _ => q0
        simp only [zs_pa, q1, q2, q3, q0, ci]
        rw [if_neg (show ¬ nI ns = 6 by rw [show (6 : Int32) = nI 6 from rfl, zn_eq (by omega) (by omega)]; exact h4), if_pos (show zb_in (nI ns) (zb_sz 29) from ii), if_pos (show zb_in (nI ns) (zb_sz 30) from ii), if_pos (show zb_in (nI ns) (zb_sz 31) from ii), zn_ar]
        rw [zs_pi_i, if_pos ⟨rfl, rfl⟩]
      · refine ⟨by omega, rfl, rfl, fun k hk2 => ?_⟩
        show upd (zb_a S 15) ns a k = upd (zb_a S 29) ns a k ∧ upd (zb_a S 16) ns b k = upd (zb_a S 30) ns b k ∧ upd (zb_a S 17) ns c k = upd (zb_a S 31) ns c k ∧ (∃ c', c' ≤ 30 ∧ upd (zb_a S 29) ns a k = nI c') ∧ (upd (zb_a S 31) ns c k = 0 ∨ upd (zb_a S 31) ns c k = 1)
        by_cases e : k = ns
        · subst e
          simp only [upd_s]
          refine ⟨trivial, trivial, trivial, ?_, ?_⟩
          · obtain ⟨c', h1, h2⟩ := (zn_bet (n := 30) (by omega)).mp b1
            exact ⟨c', by omega, h2⟩
          · obtain ⟨c', h1, h2⟩ := (zn_bet (n := 1) (by omega)).mp b3
            have : c' = 0 ∨ c' = 1 := by omega
            rcases this with r | r <;> subst r
            · exact Or.inl h2
            · exact Or.inr h2
        · simp only [upd_n e]; exact s4 k (by omega)
  · refine ⟨-2, S, zb_pi S 21 0 0, ?_, ?_, hP.thr.I⟩
    · simp only [fX5_see, fX5_see_0]
      by_cases h1 : a < 0
      · rw [if_pos h1]
      · rw [if_neg h1]
        by_cases h2 : 30 < a
        · rw [if_pos h2]
        · rw [if_neg h2]
          by_cases h3 : b < 0
          · rw [if_pos h3]
          · rw [if_neg h3]
            by_cases h4 : 99 < b
            · rw [if_pos h4]
            · rw [if_neg h4]
              by_cases h5 : c < 0
              · rw [if_pos h5]
              · rw [if_neg h5, if_neg (fun q => hb ⟨⟨Int32.not_lt.mp h1, Int32.not_lt.mp h2⟩, ⟨Int32.not_lt.mp h3, Int32.not_lt.mp h4⟩, ⟨Int32.not_lt.mp h5, q⟩⟩)]
    · simp only [fX6_see, fX6_see_0, zb_let, hina, hinb, hinc, zb_bind_some]
      by_cases b1 : 0 ≤ a ∧ a ≤ 30
      · rw [if_neg (by rw [if_pos b1]; decide)]
        by_cases b2 : 0 ≤ b ∧ b ≤ 99
        · rw [if_neg (by rw [if_pos b2]; decide), if_pos (by rw [if_neg (fun q => hb ⟨b1, b2, q⟩)])]
        · rw [if_pos (by rw [if_neg b2])]
      · rw [if_pos (by rw [if_neg b1])]
end IV
