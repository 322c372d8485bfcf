section RW
variable {M s J tl na nx ns N b r : Nat} {S T S' S'' : zb_S} {f f' g g' : Nat → Int32}
theorem zs_mv1_oth {go : Nat → Bool} {z : Nat} {x : zs_X} (hl : zc_lim M s J) (hz : z < M + s) (hz2 : z ≠ M - 1) : (zs_mv1 M s J go z x).1 77 = x.1 77 ∧ (zs_mv1 M s J go z x).2 = x.2 := by
  obtain ⟨l1, l2, l3, l4, l5⟩ := id hl
  have hb := zs_bh_lt hl hz hz2
  unfold zs_mv1
  split
  · unfold zs_ho
    split
    · exact ⟨upd_n (by omega), rfl⟩
    · split
      · exact ⟨(upd_n (show 77 ≠ 6 * z by omega)).trans ((upd_n (show 77 ≠ 6 * zs_bh M s J z by omega)).trans (upd_n (show 77 ≠ 6 * z + 5 by omega))), rfl⟩
      · exact ⟨(upd_n (show 77 ≠ 6 * z + 2 by omega)).trans (upd_n (show 77 ≠ 6 * z + 5 by omega)), rfl⟩
  · exact ⟨rfl, rfl⟩
theorem zs_mv_oth {go : Nat → Bool} {lo : Nat} (hl : zc_lim M s J) : ∀ (n : Nat) (x : zs_X), lo + n ≤ M + s → (∀ k, lo ≤ k → k < lo + n → k ≠ M - 1) → (zs_mv M s J go lo n x).1 77 = x.1 77 ∧ (zs_mv M s J go lo n x).2 = x.2 := by
  intro n
  induction n with
  | zero => intro x _ _; exact ⟨rfl, rfl⟩
  | succ n ih =>
    intro x hn hk
    obtain ⟨a1, a2⟩ := ih (zs_mv1 M s J go (lo + n) x) (by omega) (fun k h1 h2 => hk k h1 (by omega))
    obtain ⟨b1, b2⟩ := zs_mv1_oth (go := go) (x := x) hl (show lo + n < M + s by omega) (hk _ (by omega) (by omega))
    exact ⟨a1.trans b1, a2.trans b2⟩
theorem zs_idl_77 {any : Nat → Bool} : ∀ n, zs_idl any n g 77 = g 77 := by
  intro n
  induction n with
  | zero => rfl
  | succ n ih =>
    simp only [zs_idl]
    unfold zs_id1
    split
    · rw [upd_n (by omega)]; exact ih
    · split
      · rw [upd_n (by omega), upd_n (by omega)]; exact ih
      · rw [upd_n (by omega)]; exact ih
/-- how many are out behind a step -/
theorem zs_out (hl : zc_lim M s J) : (zs_step M s J g).1 77 = g 77 + (if (zs_step M s J g).2 = 0 then 0 else 1) := by
  obtain ⟨l1, l2, l3, l4, l5⟩ := id hl
  show upd (zs_g4 M s J g) 78 (zs_g4 M s J g 78 + 1) 77 = g 77 + (if (zs_g3 M s J g).2 = 0 then 0 else 1)
  rw [upd_n (by omega)]
  unfold zs_g4
  rw [zs_idl_77]
  unfold zs_g3
  obtain ⟨a1, a2⟩ := zs_mv_oth (go := zs_gos M s J g) (lo := M) hl s (zs_mv M s J (zs_gos M s J g) 0 M (zs_g2 M s J g, 0)) (by omega) (fun k h1 h2 => by omega)
  rw [a1, a2]
  obtain ⟨m, hm⟩ : ∃ m, M = m + 1 := ⟨M - 1, by omega⟩
  have e0 : zs_mv M s J (zs_gos M s J g) 0 M (zs_g2 M s J g, 0) = zs_mv M s J (zs_gos M s J g) 0 m (zs_mv1 M s J (zs_gos M s J g) (M - 1) (zs_g2 M s J g, 0)) := by
    rw [show zs_mv M s J (zs_gos M s J g) 0 M (zs_g2 M s J g, 0) = zs_mv M s J (zs_gos M s J g) 0 (m + 1) (zs_g2 M s J g, 0) by rw [← hm]]
    simp only [zs_mv, Nat.zero_add]
    rw [show m = M - 1 by omega]
  rw [e0]
  obtain ⟨b1, b2⟩ := zs_mv_oth (go := zs_gos M s J g) (lo := 0) hl m (zs_mv1 M s J (zs_gos M s J g) (M - 1) (zs_g2 M s J g, 0)) (by omega) (fun k h1 h2 => by omega)
  rw [b1, b2]
  have g77 : zs_g2 M s J g 77 = g 77 := by
    unfold zs_g2 zs_tks
    split
    · rw [zs_tk_n (by omega) (by omega), zs_tk_n (by omega) (by omega), zs_wk_n (by omega)]
    · rw [zs_tk_n (by omega) (by omega), zs_wk_n (by omega)]
  unfold zs_mv1
  split
  · unfold zs_ho
    split
    · rw [if_pos rfl]
      show upd (zs_g2 M s J g) (6 * (M - 1) + 5) 0 77 = _
      rw [upd_n (by omega), g77]; simp
    · rename_i h1 h2
      rw [if_pos rfl, if_neg h2]
      show upd (upd (upd (zs_g2 M s J g) (6 * (M - 1) + 5) 0) (6 * (M - 1)) 0) 77 (upd (zs_g2 M s J g) (6 * (M - 1) + 5) 0 77 + 1) 77 = _
      rw [upd_s, upd_n (by omega), g77]
  · rw [if_pos rfl]
    show zs_g2 M s J g 77 = _
    rw [g77]; simp
/-- the carton that goes out is none, or has a number -/
theorem zs_went (hl : zc_lim M s J) (hw : zr_wf (M + s) g) : (zs_step M s J g).2 ≤ 0 ↔ (zs_step M s J g).2 = 0 := by
  obtain ⟨l1, l2, l3, l4, l5⟩ := id hl
  apply m_pos
  show ¬ (zs_g3 M s J g).2 < 0
  unfold zs_g3
  rw [(zs_mv_oth (go := zs_gos M s J g) (lo := M) hl s _ (by omega) (fun k h1 h2 => by omega)).2]
  obtain ⟨m, hm⟩ : ∃ m, M = m + 1 := ⟨M - 1, by omega⟩
  have e0 : zs_mv M s J (zs_gos M s J g) 0 M (zs_g2 M s J g, 0) = zs_mv M s J (zs_gos M s J g) 0 m (zs_mv1 M s J (zs_gos M s J g) (M - 1) (zs_g2 M s J g, 0)) := by
    rw [show zs_mv M s J (zs_gos M s J g) 0 M (zs_g2 M s J g, 0) = zs_mv M s J (zs_gos M s J g) 0 (m + 1) (zs_g2 M s J g, 0) by rw [← hm]]
    simp only [zs_mv, Nat.zero_add]
    rw [show m = M - 1 by omega]
  rw [e0, (zs_mv_oth (go := zs_gos M s J g) (lo := 0) hl m _ (by omega) (fun k h1 h2 => by omega)).2]
  have hw2 := zr_wf_g2 hl hw
  unfold zs_mv1
  split
  · unfold zs_ho
    split
    · show ¬ (0 : Int32) < 0
      decide
    · rw [if_pos rfl]
      show ¬ upd (zs_g2 M s J g) (6 * (M - 1) + 5) 0 (6 * (M - 1)) < 0
      rw [upd_n (by omega)]
      exact (hw2.1 (M - 1) (by omega)).1
  · show ¬ (0 : Int32) < 0
    decide
def zs_c (M s J : Nat) (g : Nat → Int32) (c : Nat) : Nat := if (zs_step M s J g).2 = 0 then c else c + 1
def zs_ct (M s J : Nat) : Nat → Nat → (Nat → Int32) → Nat
  | 0, c, _ => c
  | j + 1, c, g => zs_ct M s J j (zs_c M s J g c) (zs_step M s J g).1
def zs_row (M s J p : Nat) : Nat → Nat → (Nat → Int32) → Int32
  | 0, _, _ => -9
  | j + 1, c, g => if zs_c M s J g c = p + 1 then (zs_step M s J g).2 else zs_row M s J p j (zs_c M s J g c) (zs_step M s J g).1
theorem zs_c_out (hl : zc_lim M s J) {o : Int32} {c : Nat} (h : g 77 = o + nI c) : (zs_step M s J g).1 77 = o + nI (zs_c M s J g c) := by
  rw [zs_out hl, h]
  unfold zs_c
  split
  · simp
  · rw [Int32.add_assoc, show nI c + 1 = nI (c + 1) from nI_1 c]
theorem zs_ct_out (hl : zc_lim M s J) {o : Int32} : ∀ (j c : Nat) (g : Nat → Int32), g 77 = o + nI c → zs_steps M s J j g 77 = o + nI (zs_ct M s J j c g) := by
  intro j
  induction j with
  | zero => intro c g h; exact h
  | succ j ih => intro c g h; exact ih _ _ (zs_c_out hl h)
theorem zs_c_le {c : Nat} : c ≤ zs_c M s J g c ∧ zs_c M s J g c ≤ c + 1 := by unfold zs_c; split <;> omega
theorem zs_ct_le : ∀ (j c : Nat) (g : Nat → Int32), c ≤ zs_ct M s J j c g ∧ zs_ct M s J j c g ≤ c + j := by
  intro j
  induction j with
  | zero => intro c g; exact ⟨Nat.le_refl _, Nat.le_refl _⟩
  | succ j ih =>
    intro c g
    have h1 := ih (zs_c M s J g c) (zs_step M s J g).1
    have h2 := zs_c_le (M := M) (s := s) (J := J) (g := g) (c := c)
    simp only [zs_ct]
    omega
theorem zs_row_none {p : Nat} : ∀ (j c : Nat) (g : Nat → Int32), zs_ct M s J j c g ≤ p → zs_row M s J p j c g = -9 := by
  intro j
  induction j with
  | zero => intro c g _; rfl
  | succ j ih =>
    intro c g h
    simp only [zs_ct] at h
    simp only [zs_row]
    have := (zs_ct_le (M := M) (s := s) (J := J) j (zs_c M s J g c) (zs_step M s J g).1).1
    rw [if_neg (by omega)]
    exact ih _ _ h
theorem p_row {p : Nat} {o : Int32} (hl : zc_lim M s J) (hN : 5000 ≤ N) (hp : p < 60) : ∀ (j n i c : Nat) (S : zb_S) (g : Nat → Int32), i + j = 60 → j < n → c ≤ i → zc_ok 5 M s J S → zr_Rel (M + s) (zb_a S 6) g → g 77 = o + nI c → ∃ S1, fX5_row_41 N n S (o + nI (p + 1)) (nI i) = some (zs_row M s J p j c g, S1) ∧ zt S S1 := by
  intro j
  induction j with
  | zero =>
    intro n i c S g hi hn hci hok hr ho
    obtain ⟨n, rfl⟩ : ∃ q, n = q + 1 := ⟨n - 1, by omega⟩
    have e : i = 60 := by omega
    subst e
    refine ⟨S, ?_, zt.rf⟩
    simp only [fX5_row_41, fX5_row_41b, zs_row]
    rw [if_pos (by decide)]
  | succ j ih =>
    intro n i c S g hi hn hci hok hr ho
    obtain ⟨n, rfl⟩ : ∃ q, n = q + 1 := ⟨n - 1, by omega⟩
    obtain ⟨S1, q1, q2, q3, q4, q5⟩ := p_tstep (N := N) hok hl hN hr
    have ho' := zs_c_out hl ho
    have hcc := zs_c_le (M := M) (s := s) (J := J) (g := g) (c := c)
    simp only [fX5_row_41, fX5_row_41b, zs_row, zb_let, zn_ar]
    rw [if_neg (show ¬ (60 : Int32) ≤ nI i by rw [show (60 : Int32) = nI 60 from rfl, zn_le (by omega) (by omega)]; omega), q1]
    simp only [zb_bind_some]
    rw [if_pos (by decide), show Int32.toNatClampNeg 55 = 55 from by decide, show zb_a S1 6 55 = (zs_step M s J g).1 77 from q4.2.2.2 5 (by omega), ho', q5]
    have hiff : (o + nI (zs_c M s J g c) = o + nI (p + 1)) ↔ zs_c M s J g c = p + 1 := by
      rw [Int32.add_right_inj, zn_eq (by omega) (by omega)]
    by_cases h : zs_c M s J g c = p + 1
    · rw [if_pos (hiff.mpr h), if_pos h]; exact ⟨S1, rfl, q2⟩
    · rw [if_neg (fun q => h (hiff.mp q)), if_neg h]
      obtain ⟨S2, u1, u2⟩ := ih n (i + 1) _ S1 _ (by omega) (by omega) (by omega) q3 q4 ho'
      exact ⟨S2, u1, q2.tr u2⟩
theorem m_row {p : Nat} (hl : zc_lim M s J) (hN : 5000 ≤ N) (hp : p < 60) : ∀ (j n i c : Nat) (S : zb_S) (g : Nat → Int32), i + j = 60 → j < n → c ≤ i → c ≤ p → p < zs_ct M s J j c g → zm_ok 25 M s J S → zb_a S 25 = g → zr_wf (M + s) g → ∃ S1, fX6_rowAt_8 N n S (nI p) (nI c) (nI i) = some (zs_row M s J p j c g, S1) ∧ zt S S1 := by
  intro j
  induction j with
  | zero => intro n i c S g hi hn hci hcp hct; simp only [zs_ct] at hct; omega
  | succ j ih =>
    intro n i c S g hi hn hci hcp hct hok hg hw
    obtain ⟨n, rfl⟩ : ∃ q, n = q + 1 := ⟨n - 1, by omega⟩
    obtain ⟨S1, q1, q2, q3, q4, q5⟩ := m_tstep (N := N) hok hl hN hg hw
    have hwent := zs_went hl hw
    have hcc := zs_c_le (M := M) (s := s) (J := J) (g := g) (c := c)
    simp only [zs_ct] at hct
    simp only [fX6_rowAt_8, fX6_rowAt_8b, fX6_rowAt_42, zs_row, zb_let, zn_ar]
    rw [if_neg (show ¬ (60 : Int32) ≤ nI i by rw [show (60 : Int32) = nI 60 from rfl, zn_le (by omega) (by omega)]; omega), q1]
    simp only [zb_bind_some, q5]
    by_cases h0 : (zs_step M s J g).2 = 0
    · have ec : zs_c M s J g c = c := by unfold zs_c; rw [if_pos h0]
      rw [ec] at hct ⊢
      rw [if_pos (hwent.mpr h0), if_neg (by omega)]
      obtain ⟨S2, u1, u2⟩ := ih n (i + 1) c S1 _ (by omega) (by omega) (by omega) hcp hct q3 q4 (zr_wf_step hl hw)
      exact ⟨S2, u1, q2.tr u2⟩
    · have ec : zs_c M s J g c = c + 1 := by unfold zs_c; rw [if_neg h0]
      rw [ec] at hct ⊢
      rw [if_neg (fun q => h0 (hwent.mp q))]
      by_cases h1 : c = p
      · rw [if_pos (by rw [h1]), if_pos (by omega)]
        exact ⟨S1, rfl, q2⟩
      · rw [if_neg (by rw [zn_eq (by omega) (by omega)]; exact h1), if_neg (by omega)]
        obtain ⟨S2, u1, u2⟩ := ih n (i + 1) (c + 1) S1 _ (by omega) (by omega) (by omega) (by omega) hct q3 q4 (zr_wf_step hl hw)
        exact ⟨S2, u1, q2.tr u2⟩
theorem e_row {a : Int32} (hN : 5000 ≤ N) (h : zi_I S) : zi_E (fun S => fX5_row N S a) (fun S => fX6_row N S a) S := by
  obtain ⟨M, s, J, tl, na, nx, ns, hP⟩ := h
  obtain ⟨hl, hc, hn, ht, ha, hk, hs, ho⟩ := id hP
  have hw := (hn.rel hl).2
  have h55 : zb_a S 4 55 = zt_g S 77 := (hn.rel hl).1.2.2.2 5 (by omega)
  -- how many there are
  have hct := zs_ct_out (o := zt_g S 77) hl 60 0 (zt_g S) (by rw [show nI 0 = 0 from rfl]; simp)
  generalize hc60 : zs_ct M s J 60 0 (zt_g S) = tot at hct
  have htot : tot ≤ 60 := by have := (zs_ct_le (M := M) (s := s) (J := J) 60 0 (zt_g S)).2; omega
  have hman : ∀ S', zt S S' → ∃ S1, fX6_manyOut N S' = some (nI tot, S1) ∧ zt S S1 := by
    intro S' hq
    obtain ⟨S1, e1, e2⟩ := m_manyOut (N := N) hP hN hq
    refine ⟨S1, ?_, e2⟩
    rw [e1, hct]
    congr 2
    rw [Int32.add_comm, Int32.add_sub_cancel]
  have hin : ∀ T : zb_S, fX6_in N T a.toInt64 0 (Int32.toInt64 (nI tot - 1)) = some (if ∃ k, k < tot ∧ a = nI k then 1 else 0, T) := by
    intro T
    rw [m_in32 (L := 0) 0 (nI tot - 1) rfl rfl]
    congr 2
    have : (0 ≤ a ∧ a ≤ nI tot - 1) ↔ ∃ k, k < tot ∧ a = nI k := by
      by_cases t0 : tot = 0
      · subst t0
        constructor
        · rintro ⟨q1, q2⟩
          exact absurd (Int32.le_trans q1 q2) (by decide)
        · rintro ⟨k, k1, -⟩; omega
      · rw [zn_sub1 (by omega), zn_bet (by omega), show tot - 1 + 1 = tot by omega]
    simp only [this]
  by_cases hb : ∃ k, k < 60 ∧ a = nI k
  · obtain ⟨p, hp, rfl⟩ := hb
    obtain ⟨S1, x1, x2, x3, x4⟩ := p_tcopy (N := N) hP zq.rf
    obtain ⟨S2, y1, y2⟩ := p_row (N := N) (p := p) (o := zt_g S 77) hl hN hp 60 N 0 0 S1 (zt_g S) (by omega) (by omega) (by omega) x3 x4 (by rw [show nI 0 = 0 from rfl]; simp)
    have hcl : fX5_row N S (nI p) = some (zs_row M s J p 60 0 (zt_g S), S2) := by
      simp only [fX5_row, fX5_row_0, zb_let]
      rw [if_neg (by rw [zn_lt0 (by omega)]; exact fun h => h), if_pos (show nI p < 60 by rw [show (60 : Int32) = nI 60 from rfl, zn_lt (by omega) (by omega)]; exact hp), if_pos (by decide), x1]
      simp only [zb_bind_some]
      rw [show Int32.toNatClampNeg 55 = 55 from by decide, h55, Int32.add_assoc, show nI p + 1 = nI (p + 1) from nI_1 p]
      exact y1
    obtain ⟨S3, u1, u2⟩ := hman (zb_pi S2 21 0 0) ((x2.tr y2).tr zt_thr)
    by_cases hpt : p < tot
    · obtain ⟨S4, v1, v2, v3, v4⟩ := m_tlay (N := N) hP hN u2.1
      obtain ⟨S5, w1, w2⟩ := m_row (N := N) (p := p) hl hN hp 60 N 0 0 S4 (zt_g S) (by omega) (by omega) (by omega) (by omega) (by rw [hc60]; exact hpt) v3 v4 hw
      refine ⟨_, S2, S5, hcl, ?_, (hP.t ((u2.tr v2).tr w2)).I⟩
      simp only [fX6_row, fX6_row_0, zb_let, u1, zb_bind_some, hin]
      rw [if_neg (by rw [if_pos ⟨p, hpt, rfl⟩]; decide)]
      simp only [fX6_rowAt, fX6_rowAt_0, v1, zb_bind_some]
      rw [show fX6_rowAt_8 N N S4 (nI p) 0 0 = _ from w1]
      rfl
    · refine ⟨_, S2, S3, hcl, ?_, (hP.t u2).I⟩
      rw [zs_row_none 60 0 (zt_g S) (by omega)]
      simp only [fX6_row, fX6_row_0, zb_let, u1, zb_bind_some, hin]
      rw [if_pos (by rw [if_neg]; rintro ⟨k, k1, k2⟩; rw [zn_eq (by omega) (by omega)] at k2; omega)]
  · obtain ⟨S3, u1, u2⟩ := hman (zb_pi S 21 0 0) zt_thr
    refine ⟨-9, S, S3, ?_, ?_, (hP.t u2).I⟩
    · simp only [fX5_row, fX5_row_0]
      rcases zn_cases a 60 (by omega) with h | ⟨h | h, -⟩
      · exact absurd h hb
      · rw [if_pos h]
      · by_cases h1 : a < 0
        · rw [if_pos h1]
        · rw [if_neg h1, if_neg (show ¬ a < 60 from Int32.not_lt.mpr h)]
    · simp only [fX6_row, fX6_row_0, zb_let, u1, zb_bind_some, hin]
      rw [if_pos (by rw [if_neg]; rintro ⟨k, k1, k2⟩; exact hb ⟨k, by omega, k2⟩)]
end RW
