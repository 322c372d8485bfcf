section AK
variable {M s J tl na nx ns N b r : Nat} {S T S' S'' : zb_S} {f f' g g' : Nat → Int32}
abbrev zs_E (Z : Nat) (g : Nat → Int32) : Prop := ∀ z, z < Z → g (6 * z) = 0
theorem p_tload (hok : zc_ok b M s J S) (hl : zc_lim M s J) (hN : 5000 ≤ N) (hr : zr_Rel (M + s) (zb_a S (b + 1)) g) : ∃ m, fX1_loaded N b S = some (m, S) ∧ (m = 0 ↔ zs_E (M + s) g) := by
  obtain ⟨l1, l2, l3, l4, l5⟩ := id hl
  obtain ⟨m, e1, e2⟩ := p_loaded (N := N) hok hl (by omega)
  refine ⟨m, e1, ⟨fun h z hz => ?_, fun h => b_ext (fun i hi => ?_)⟩⟩
  · have := e2 z (by omega)
    rw [h, b_0] at this
    rw [← (hr.1 z hz).1]
    simpa [hz] using this
  · rw [e2 i hi, b_0]
    by_cases c : i < M + s
    · rw [(hr.1 i c).1, h i c]; simp
    · simp [c]
theorem m_tload (hok : zm_ok r M s J S) (hl : zc_lim M s J) (hN : 5000 ≤ N) (hw : zr_wf (M + s) (zb_a S r)) : ∃ m, fX6_those N r S 0 = some (m, S) ∧ (m = 0 ↔ zs_E (M + s) (zb_a S r)) := by
  obtain ⟨l1, l2, l3, l4, l5⟩ := id hl
  obtain ⟨m, e1, e2⟩ := m_those (N := N) (w := 0) hok hl (by omega) (by omega)
  refine ⟨m, e1, ⟨fun h z hz => ?_, fun h => b_ext (fun i hi => ?_)⟩⟩
  · have := e2 z (by omega)
    rw [h, b_0, Nat.add_zero] at this
    have e := m_pos (hw.1 z hz).1
    rw [← e]
    simpa [hz] using this
  · rw [e2 i hi, b_0, Nat.add_zero]
    by_cases c : i < M + s
    · have e := m_pos (hw.1 i c).1
      simp [c, e, h i c]
    · simp [c]
def zs_emp (M s J : Nat) : Nat → Nat → (Nat → Int32) → Int32
  | 0, n, g => if zs_E (M + s) g then nI n else -9
  | j + 1, n, g => if zs_E (M + s) g then nI n else zs_emp M s J j (n + 1) (zs_step M s J g).1
theorem p_emp (hl : zc_lim M s J) (hN : 5000 ≤ N) (hok : zc_ok 5 M s J S) (hr : zr_Rel (M + s) (zb_a S 6) g) : ∃ S1, fX5_stepsTillEmpty N S = some (zs_emp M s J 60 0 g, S1) ∧ zt S S1 := by
  have loop : ∀ (j n i : Nat) (S : zb_S) (g : Nat → Int32), i + j = 60 → j < n → zc_ok 5 M s J S → zr_Rel (M + s) (zb_a S 6) g → ∃ S1, fX5_stepsTillEmpty_2 N n S (nI i) = some (zs_emp M s J j i g, S1) ∧ zt S S1 := by
    intro j
    induction j with
    | zero =>
      intro n i S g hi hn hok hr
      obtain ⟨n, rfl⟩ : ∃ q, n = q + 1 := ⟨n - 1, by omega⟩
      have e : i = 60 := by omega
      subst e
      obtain ⟨m, e1, e2⟩ := p_tload (N := N) (b := 5) hok hl hN hr
      refine ⟨S, ?_, zt.rf⟩
      simp only [fX5_stepsTillEmpty_2, fX5_stepsTillEmpty_2b, e1, zb_bind_some, zs_emp]
      rw [if_pos (by decide)]
      by_cases h : m = 0
      · rw [if_pos h, if_pos (e2.mp h)]; rfl
      · rw [if_neg h, if_neg (fun q => h (e2.mpr q))]
    | succ j ih =>
      intro n i S g hi hn hok hr
      obtain ⟨n, rfl⟩ : ∃ q, n = q + 1 := ⟨n - 1, by omega⟩
      obtain ⟨m, e1, e2⟩ := p_tload (N := N) (b := 5) hok hl hN hr
      simp only [fX5_stepsTillEmpty_2, fX5_stepsTillEmpty_2b, e1, zb_bind_some, zs_emp, zb_let, zn_ar]
      rw [if_neg (show ¬ (60 : Int32) ≤ nI i by rw [show (60 : Int32) = nI 60 from rfl, zn_le (by omega) (by omega)]; omega)]
      by_cases h : m = 0
      · rw [if_pos h, if_pos (e2.mp h)]; exact ⟨S, rfl, zt.rf⟩
      · rw [if_neg h, if_neg (fun q => h (e2.mpr q))]
        obtain ⟨S1, q1, q2, q3, q4, -⟩ := p_tstep (N := N) hok hl hN hr
        rw [q1]
        simp only [zb_bind_some]
        obtain ⟨S2, u1, u2⟩ := ih n (i + 1) S1 _ (by omega) (by omega) q3 q4
        exact ⟨S2, u1, q2.tr u2⟩
  exact loop 60 N 0 S g (by omega) (by omega) hok hr
theorem m_emp (hl : zc_lim M s J) (hN : 5000 ≤ N) (hok : zm_ok 25 M s J S) (hg : zb_a S 25 = g) (hw : zr_wf (M + s) g) : ∃ S1, fX6_emptyOf N S = some (zs_emp M s J 60 0 g, S1) ∧ zt S S1 := by
  have loop : ∀ (j n i : Nat) (S : zb_S) (g : Nat → Int32), i + j = 60 → j + 1 < n → zm_ok 25 M s J S → zb_a S 25 = g → zr_wf (M + s) g → ∃ S1, fX6_emptyOf_2 N n S (nI i) = some (zs_emp M s J j i g, S1) ∧ zt S S1 := by
    intro j
    induction j with
    | zero =>
      intro n i S g hi hn hok hg hw
      obtain ⟨n, rfl⟩ : ∃ q, n = q + 1 := ⟨n - 1, by omega⟩
      obtain ⟨n, rfl⟩ : ∃ q, n = q + 1 := ⟨n - 1, by omega⟩
      have e : i = 60 := by omega
      subst e
      obtain ⟨m, e1, e2⟩ := m_tload (N := N) hok hl hN (by rw [hg]; exact hw)
      rw [hg] at e2
      simp only [fX6_emptyOf_2, fX6_emptyOf_2b, e1, zb_bind_some, zs_emp, zb_let]
      rw [if_neg (by decide)]
      by_cases h : m = 0
      · rw [if_pos h, if_pos (e2.mp h)]; exact ⟨S, rfl, zt.rf⟩
      · rw [if_neg h, if_neg (fun q => h (e2.mpr q))]
        obtain ⟨S1, q1, q2, -⟩ := m_tstep (N := N) hok hl hN hg hw
        rw [q1]
        simp only [zb_bind_some]
        exact ⟨S1, by rw [if_pos (by decide)], q2⟩
    | succ j ih =>
      intro n i S g hi hn hok hg hw
      obtain ⟨n, rfl⟩ : ∃ q, n = q + 1 := ⟨n - 1, by omega⟩
      obtain ⟨m, e1, e2⟩ := m_tload (N := N) hok hl hN (by rw [hg]; exact hw)
      rw [hg] at e2
      simp only [fX6_emptyOf_2, fX6_emptyOf_2b, e1, zb_bind_some, zs_emp, zb_let, zn_ar]
      rw [if_neg (show ¬ (60 : Int32) < nI i by rw [show (60 : Int32) = nI 60 from rfl, zn_lt (by omega) (by omega)]; omega)]
      by_cases h : m = 0
      · rw [if_pos h, if_pos (e2.mp h)]; exact ⟨S, rfl, zt.rf⟩
      · rw [if_neg h, if_neg (fun q => h (e2.mpr q))]
        obtain ⟨S1, q1, q2, q3, q4, -⟩ := m_tstep (N := N) hok hl hN hg hw
        rw [q1]
        simp only [zb_bind_some]
        obtain ⟨S2, u1, u2⟩ := ih n (i + 1) S1 _ (by omega) (by omega) q3 q4 (zr_wf_step hl hw)
        exact ⟨S2, u1, q2.tr u2⟩
  exact loop 60 N 0 S g (by omega) (by omega) hok hg hw
def zs_bst (M s J : Nat) (g : Nat → Int32) : Nat → Nat → Int32 → Int32 → Int32
  | 0, _, fd, _ => fd
  | j + 1, q, fd, le => if zs_emp M s J 60 0 (upd g 74 (nI q)) = -9 then zs_bst M s J g j (q + 1) fd le else if le ≤ zs_emp M s J 60 0 (upd g 74 (nI q)) then zs_bst M s J g j (q + 1) fd le else zs_bst M s J g j (q + 1) (nI q) (zs_emp M s J 60 0 (upd g 74 (nI q)))
theorem p_best (hP : zi_P M s J tl na nx ns S) (hN : 5000 ≤ N) (hq : zt S S') : ∃ S1, fX5_bestRest N S' = some (zs_bst M s J (zt_g S) 10 0 0 61, S1) ∧ zt S S1 := by
  have hl := hP.1
  obtain ⟨l1, l2, l3, l4, l5⟩ := id hl
  have loop : ∀ (j n i : Nat) (S' : zb_S) (fd le : Int32), i + j = 10 → j < n → zt S S' → ∃ S1, fX5_bestRest_7 N n S' fd le (nI i) = some (zs_bst M s J (zt_g S) j i fd le, S1) ∧ zt S S1 := by
    intro j
    induction j with
    | zero =>
      intro n i S' fd le hi hn hq
      obtain ⟨n, rfl⟩ : ∃ q, n = q + 1 := ⟨n - 1, by omega⟩
      have e : i = 10 := by omega
      subst e
      refine ⟨S', ?_, hq⟩
      simp only [fX5_bestRest_7, fX5_bestRest_7b, zs_bst]
      rw [if_pos (by decide)]
    | succ j ih =>
      intro n i S' fd le hi hn hq
      obtain ⟨n, rfl⟩ : ∃ q, n = q + 1 := ⟨n - 1, by omega⟩
      obtain ⟨S1, x1, x2, x3, x4⟩ := p_tcopy (N := N) hP hq.1
      simp only [fX5_bestRest_7, fX5_bestRest_7b, fX5_bestRest_59, zs_bst, zb_let, zn_ar]
      rw [if_neg (show ¬ (9 : Int32) < nI i by rw [show (9 : Int32) = nI 9 from rfl, zn_lt (by omega) (by omega)]; omega), x1]
      simp only [zb_bind_some]
      rw [if_pos (by decide), zs_pa, show Int32.toNatClampNeg 52 = 52 from by decide]
      obtain ⟨S2, y1, y2⟩ := p_emp (N := N) (S := zs_a S1 6 (upd (zb_a S1 6) 52 (nI i))) (g := upd (zt_g S) 74 (nI i)) hl hN x3 (by rw [zs_same]; exact zr_g (j := 2) x4 (by omega) (by omega))
      rw [y1]
      simp only [zb_bind_some]
      have hq2 : zt S S2 := ((hq.tr x2).tr zt_a6).tr y2
      by_cases h1 : zs_emp M s J 60 0 (upd (zt_g S) 74 (nI i)) = -9
      · rw [if_pos h1, if_pos h1]; exact ih n (i + 1) S2 fd le (by omega) (by omega) hq2
      · rw [if_neg h1, if_neg h1]
        by_cases h2 : le ≤ zs_emp M s J 60 0 (upd (zt_g S) 74 (nI i))
        · rw [if_pos h2, if_pos h2]; exact ih n (i + 1) S2 fd le (by omega) (by omega) hq2
        · rw [if_neg h2, if_neg h2]; exact ih n (i + 1) S2 _ _ (by omega) (by omega) hq2
  exact loop 10 N 0 S' 0 61 (by omega) (by omega) hq
theorem m_best (hP : zi_P M s J tl na nx ns S) (hN : 5000 ≤ N) (hq : zt S S') : ∃ S1, fX6_bestRest N S' = some (zs_bst M s J (zt_g S) 10 0 0 61, S1) ∧ zt S S1 := by
  have hl := hP.1
  obtain ⟨l1, l2, l3, l4, l5⟩ := id hl
  have loop : ∀ (j n i : Nat) (S' : zb_S) (fd le : Int32), i + j = 10 → j < n → zt S S' → ∃ S1, fX6_bestRest_7 N n S' fd le (nI i) = some (zs_bst M s J (zt_g S) j i fd le, S1) ∧ zt S S1 := by
    intro j
    induction j with
    | zero =>
      intro n i S' fd le hi hn hq
      obtain ⟨n, rfl⟩ : ∃ q, n = q + 1 := ⟨n - 1, by omega⟩
      have e : i = 10 := by omega
      subst e
      refine ⟨S', ?_, hq⟩
      simp only [fX6_bestRest_7, fX6_bestRest_7b, zs_bst]
      rw [if_pos (by decide)]
    | succ j ih =>
      intro n i S' fd le hi hn hq
      obtain ⟨n, rfl⟩ : ∃ q, n = q + 1 := ⟨n - 1, by omega⟩
      obtain ⟨S1, x1, x2, x3, x4⟩ := m_tlay (N := N) hP hN hq.1
      simp only [fX6_bestRest_7, fX6_bestRest_7b, fX6_bestRest_49, zs_bst, zb_let, zn_ar]
      rw [if_neg (show ¬ (10 : Int32) ≤ nI i by rw [show (10 : Int32) = nI 10 from rfl, zn_le (by omega) (by omega)]; omega), x1]
      simp only [zb_bind_some]
      rw [if_pos (by decide), zs_pa, show Int32.toNatClampNeg 74 = 74 from by decide, x4]
      obtain ⟨S2, y1, y2⟩ := m_emp (N := N) (S := zs_a S1 25 (upd (zt_g S) 74 (nI i))) (g := upd (zt_g S) 74 (nI i)) hl hN x3 (zs_same _ _ _) (zr_wf_74 (hP.2.2.1.rel hl).2 (by omega) (by omega))
      rw [y1]
      simp only [zb_bind_some]
      have hq2 : zt S S2 := ((hq.tr x2).tr (zt_a25 (fun i hi => by rw [upd_n (by omega), x4]))).tr y2
      by_cases h1 : zs_emp M s J 60 0 (upd (zt_g S) 74 (nI i)) = -9
      · rw [if_pos h1, if_pos h1]; exact ih n (i + 1) S2 fd le (by omega) (by omega) hq2
      · rw [if_neg h1, if_neg h1]
        by_cases h2 : le ≤ zs_emp M s J 60 0 (upd (zt_g S) 74 (nI i))
        · rw [if_pos h2, if_pos h2]; exact ih n (i + 1) S2 fd le (by omega) (by omega) hq2
        · rw [if_neg h2, if_neg h2]; exact ih n (i + 1) S2 _ _ (by omega) (by omega) hq2
  exact loop 10 N 0 S' 0 61 (by omega) (by omega) hq
theorem m_manyOut (hP : zi_P M s J tl na nx ns S) (hN : 5000 ≤ N) (hq : zt S S') : ∃ S1, fX6_manyOut N S' = some (zs_steps M s J 60 (zt_g S) 77 - zt_g S 77, S1) ∧ zt S S1 := by
  obtain ⟨S1, x1, x2, x3, x4⟩ := m_tlay (N := N) hP hN hq.1
  obtain ⟨S2, y1, y2, y3, y4⟩ := m_tsteps (N := N) (k := 60) x3 hP.1 hN (by omega) x4 (hP.2.2.1.rel hP.1).2
  have hq2 := (hq.tr x2).tr y2
  refine ⟨S2, ?_, hq2⟩
  unfold fX6_manyOut fX6_manyOut_0
  simp only [x1, zb_bind_some, show (60 : Int32) = nI 60 from rfl, y1]
  rw [if_pos (by decide), if_pos (by decide), y4, hq2.1.2.1 24 (by omega) (by omega) (by omega) (by omega) (by omega) (by omega), show Int32.toNatClampNeg 77 = 77 from by decide, zt_g_lt (by omega)]
theorem e_ask {a : Int32} (hN : 5000 ≤ N) (h : zi_I S) : zi_E (fun S => fX5_ask N S a) (fun S => fX6_ask N S a) S := by
  obtain ⟨M, s, J, tl, na, nx, ns, hP⟩ := h
  obtain ⟨hl, hc, hn, ht, ha, hk, hs, ho⟩ := id hP
  have hw := (hn.rel hl).2
  by_cases h0 : a = 0
  · obtain ⟨S1, x1, x2, x3, x4⟩ := p_tcopy (N := N) hP zq.rf
    obtain ⟨S2, y1, y2⟩ := p_emp (N := N) hl hN x3 x4
    have hq1 : zt S (zb_pi S2 21 0 0) := (x2.tr y2).tr zt_thr
    obtain ⟨S3, u1, u2, u3, u4⟩ := m_tlay (N := N) hP hN hq1.1
    obtain ⟨S4, v1, v2⟩ := m_emp (N := N) hl hN u3 u4 hw
    refine ⟨zs_emp M s J 60 0 (zt_g S), S2, S4, ?_, ?_, (hP.t ((hq1.tr u2).tr v2)).I⟩
    · simp only [fX5_ask, fX5_ask_0]
      rw [if_pos h0, x1]
      simp only [zb_bind_some, y1]
    · simp only [fX6_ask, fX6_ask_0, zb_let]
      rw [if_pos h0, u1]
      simp only [zb_bind_some, v1]
  · by_cases h1 : a = 1
    · obtain ⟨S1, x1, x2⟩ := p_best (N := N) hP hN zt.rf
      obtain ⟨S2, y1, y2⟩ := m_best (N := N) (S' := zb_pi S1 21 0 0) hP hN (x2.tr zt_thr)
      refine ⟨zs_bst M s J (zt_g S) 10 0 0 61, S1, S2, ?_, ?_, (hP.t y2).I⟩
      · simp only [fX5_ask, fX5_ask_0]
        rw [if_neg h0, if_pos h1, x1]
        rfl
      · simp only [fX6_ask, fX6_ask_0, zb_let]
        rw [if_neg h0, if_pos h1, y1]
        rfl
    · by_cases h2 : a = 2
      · obtain ⟨S1, x1, x2, x3, x4⟩ := p_tcopy (N := N) hP zq.rf
        obtain ⟨S2, y1, y2, y3, y4⟩ := p_tsteps (N := N) (k := 60) x3 hl hN (by omega) x4
        obtain ⟨S3, u1, u2⟩ := m_manyOut (N := N) (S' := zb_pi S2 21 0 0) hP hN ((x2.tr y2).tr zt_thr)
        refine ⟨zs_steps M s J 60 (zt_g S) 77 - zt_g S 77, S2, S3, ?_, ?_, (hP.t u2).I⟩
        · simp only [fX5_ask, fX5_ask_0]
          rw [if_neg h0, if_neg h1, if_pos h2, x1]
          simp only [zb_bind_some, show (60 : Int32) = nI 60 from rfl, y1]
          rw [if_pos (by decide), if_pos (by decide), show Int32.toNatClampNeg 55 = 55 from by decide, show zb_a S2 6 55 = zs_steps M s J 60 (zt_g S) 77 from y4.2.2.2 5 (by omega), (x2.tr y2).1.2.1 4 (by omega) (by omega) (by omega) (by omega) (by omega) (by omega), show zb_a S 4 55 = zb_a S 24 77 from hn.1.2.2.2 5 (by omega), ← zt_g_lt (S := S) (by omega)]
        · simp only [fX6_ask, fX6_ask_0, zb_let]
          rw [if_neg h0, if_neg h1, if_pos h2, u1]
          rfl
      · refine ⟨-2, S, zb_pi S 21 0 0, ?_, ?_, hP.thr.I⟩
        · simp only [fX5_ask, fX5_ask_0]
          rw [if_neg h0, if_neg h1, if_neg h2]
        · simp only [fX6_ask, fX6_ask_0, zb_let]
          rw [if_neg h0, if_neg h1, if_neg h2]
end AK
