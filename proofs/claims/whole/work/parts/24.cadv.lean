section CA
variable {N b M s J : Nat} {S : zb_S}
theorem zs_fd_congr {p q : Nat → Bool} {z : Nat} (hl : zc_lim M s J) (hz : z < M + s) (h : ∀ k, k < M + s → p k = q k) : zs_fd M s J p z = zs_fd M s J q z := by
  obtain ⟨l1, l2, l3, l4, l5⟩ := hl
  unfold zs_fd
  rw [h (z - 1) (by omega), h (M + s - 1) (by omega)]
theorem zs_tks_congr {p q : Nat → Bool} {g : Nat → Int32} (hl : zc_lim M s J) (h : ∀ k, k < M + s → p k = q k) : zs_tks M s J p g = zs_tks M s J q g := by
  obtain ⟨l1, l2, l3, l4, l5⟩ := hl
  unfold zs_tks
  rw [h (J - 1) (by omega), h (M + s - 1) (by omega)]
theorem zs_wd_congr {p q : Nat → Bool} {fst : Bool} {z : Nat} (hl : zc_lim M s J) (hz : z < M + s) (h : ∀ k, k < M + s → p k = q k) : zs_wd M s J p fst z = zs_wd M s J q fst z := by
  obtain ⟨l1, l2, l3, l4, l5⟩ := hl
  unfold zs_wd
  rw [h (J - 1) (by omega), h (M + s - 1) (by omega), h z hz]
theorem zs_goM_congr {wd wd' cl cl' : Nat → Bool} {op tr : Bool} (hl : zc_lim M s J) (h1 : ∀ k, k < M + s → wd k = wd' k) (h2 : ∀ k, k < M + s → cl k = cl' k) : ∀ n, n < M → zs_goM M wd cl op tr n = zs_goM M wd' cl' op tr n := by
  obtain ⟨l1, l2, l3, l4, l5⟩ := hl
  intro n
  induction n with
  | zero => intro _; simp only [zs_goM]; rw [h1 (M - 1) (by omega)]
  | succ n ih => intro hn; simp only [zs_goM]; rw [h1 (M - 2 - n) (by omega), h2 (M - 1 - n) (by omega), ih (by omega)]
theorem zs_goS_congr {wd wd' cl cl' : Nat → Bool} {op tr : Bool} (hl : zc_lim M s J) (h1 : ∀ k, k < M + s → wd k = wd' k) (h2 : ∀ k, k < M + s → cl k = cl' k) : ∀ n, n < s → zs_goS M s J wd cl op tr n = zs_goS M s J wd' cl' op tr n := by
  have hl' := hl
  obtain ⟨l1, l2, l3, l4, l5⟩ := hl
  intro n
  induction n with
  | zero => intro _; simp only [zs_goS]; rw [h1 (M + s - 1) (by omega), h2 J (by omega), zs_goM_congr hl' h1 h2 _ (by omega)]
  | succ n ih => intro hn; simp only [zs_goS]; rw [h1 (M + s - 2 - n) (by omega), h2 (M + s - 1 - n) (by omega), ih (by omega)]
theorem zs_go_congr {wd wd' cl cl' : Nat → Bool} {op tr : Bool} {z : Nat} (hl : zc_lim M s J) (hz : z < M + s) (h1 : ∀ k, k < M + s → wd k = wd' k) (h2 : ∀ k, k < M + s → cl k = cl' k) : zs_go M s J wd cl op tr z = zs_go M s J wd' cl' op tr z := by
  unfold zs_go
  have l1 := hl.1
  by_cases h : z < M
  · rw [if_pos h, if_pos h, zs_goM_congr hl h1 h2 _ (by omega)]
  · rw [if_neg h, if_neg h, zs_goS_congr hl h1 h2 _ (by omega)]
theorem zs_wk_3 {g : Nat → Int32} {z : Nat} (hz : z < M + s) : zs_wk M s J g (6 * z + 3) = if zs_see g z = true ∨ zs_fd M s J (zs_wish g) z = true then 0 else g (6 * z + 3) := by
  unfold zs_wk
  rw [show (6 * z + 3) / 6 = z by omega]
  have a1 : (6 * z + 3) % 6 = 3 := by omega
  have a2 : 6 * z + 3 < 6 * (M + s) := by omega
  simp [a1, a2]
theorem zs_wk_n {g : Nat → Int32} {i : Nat} (h : ¬ (i % 6 = 3 ∧ i < 6 * (M + s))) : zs_wk M s J g i = g i := by
  unfold zs_wk
  rw [if_neg (fun q => h ⟨q.1, q.2.1⟩)]
theorem zr_wk {m : Int32} {f g : Nat → Int32} (hl : zc_lim M s J) (h : zr_Rel (M + s) f g) (hm : ∀ z, z < 32 → bt m z = (decide (z < M + s) && decide (g (6 * z + 3) = 1) && !zs_see g z && !zs_fd M s J (zs_wish g) z)) : zr_Rel (M + s) (upd f 49 m) (zs_wk M s J g) := by
  obtain ⟨l1, l2, l3, l4, l5⟩ := hl
  obtain ⟨h1, h2, h3, h4⟩ := h
  refine ⟨fun q hq => ?_, fun q hq => ?_, fun q hq => ?_, fun i hi => ?_⟩
  · obtain ⟨a1, a2, a3, a4⟩ := h1 q hq
    simp (disch := omega) only [upd_n, a1, a2, a3, a4, zs_wk_n, and_self]
  · rw [upd_n (by omega), h2 q hq, zs_wk_n (by omega)]
  · rw [upd_s, hm q hq]
    by_cases e : q < M + s
    · rw [zs_wk_3 e]
      by_cases c1 : zs_see g q = true
      · simp [c1]
      · by_cases c2 : zs_fd M s J (zs_wish g) q = true
        · simp [c2]
        · simp [c1, c2]
    · simp [e]
  · rw [upd_n (by omega), h4 i hi, zs_wk_n (by omega)]
theorem zs_tk_n {w : Bool} {z i : Nat} {g : Nat → Int32} (h1 : i ≠ 75) (h2 : i ≠ 6 * z + 5) : zs_tk w z g i = g i := by
  unfold zs_tk
  split
  · rw [upd_n h2, upd_n h1]
  · rfl
theorem zs_g2_n {g : Nat → Int32} {i : Nat} (hl : zc_lim M s J) (h : i = 72 ∨ i = 73) : zs_g2 M s J g i = g i := by
  obtain ⟨l1, l2, l3, l4, l5⟩ := hl
  unfold zs_g2 zs_tks
  split
  · rw [zs_tk_n (by omega) (by omega), zs_tk_n (by omega) (by omega), zs_wk_n (by omega)]
  · rw [zs_tk_n (by omega) (by omega), zs_wk_n (by omega)]
theorem p_advanceOnce {g : Nat → Int32} (hok : zc_ok b M s J S) (hl : zc_lim M s J) (hN : 20 ≤ N) (hr : zr_Rel (M + s) (zb_a S (b + 1)) g) : ∃ f', fX1_advanceOnce N b S = some ((), zs_a (zb_pi S b 5 (zs_step M s J g).2) (b + 1) f') ∧ zr_Rel (M + s) f' (zs_step M s J g).1 := by
  have hs := (zk_X1_4 hok.1).2.2
  obtain ⟨l1, l2, l3, l4, l5⟩ := id hl
  obtain ⟨m, e1, e2⟩ := p_seeing (N := N) hok hl hN
  have hm : ∀ k, k < 32 → bt m k = (decide (k < M + s) && zs_see g k) := by
    intro k hk
    rw [e2 k hk]
    by_cases h : k < M + s
    · rw [zf_see_rel hr h]
    · simp [h]
  generalize hf : zb_a S (b + 1) = f at hr
  generalize hx4 : (m &&& (f 48 ^^^ (-1 : Int32))) &&& (f 49 ^^^ (-1 : Int32)) = x4
  have bx4 : ∀ k, k < 32 → bt x4 k = (decide (k < M + s) && zs_wish g k) := by
    intro k hk
    rw [← hx4, b_and, b_and, zb_not _ hk, zb_not _ hk, hm k hk, hr.2.1 k hk, hr.2.2.1 k hk]
    unfold zs_wish zs_slp
    by_cases h : k < M + s
    · simp only [h, decide_true, Bool.true_and]
      cases zs_see g k <;> cases decide (g (6 * k + 2) = 1) <;> cases decide (g (6 * k + 3) = 1) <;> rfl
    · simp [h]
  have bxw : ∀ k, k < M + s → bt x4 k = zs_wish g k := by
    intro k hk
    rw [bx4 k (by omega)]; simp [hk]
  obtain ⟨r6, q1, q2⟩ := p_behindThose (N := N) (w := x4) hok hl hN
  have hr7 : zr_Rel (M + s) (upd f 49 ((f 49 &&& (m ^^^ (-1 : Int32))) &&& (r6 ^^^ (-1 : Int32)))) (zs_wk M s J g) := by
    refine zr_wk hl hr (fun z hz => ?_)
    rw [b_and, b_and, zb_not _ hz, zb_not _ hz, hm z hz, hr.2.2.1 z hz]
    by_cases h : z < M + s
    · rw [q2 z h, zs_fd_congr hl h bxw]
      simp [h]
    · simp [h]
  obtain ⟨f8, t1, t2⟩ := p_giveTickets (N := N) (w := x4) (S := zs_a S (b + 1) (upd f 49 ((f 49 &&& (m ^^^ (-1 : Int32))) &&& (r6 ^^^ (-1 : Int32))))) hok hl (by rw [zs_same]; exact hr7)
  rw [zs_tks_congr hl bxw] at t2
  rw [zs_aa] at t1
  have hg2 : zs_tks M s J (zs_wish g) (zs_wk M s J g) = zs_g2 M s J g := rfl
  rw [hg2] at t2
  obtain ⟨r11, y1, y2⟩ := p_yielding (N := N) (w := x4) (S := zs_a S (b + 1) f8) (g := zs_g2 M s J g) hok hl (by rw [zs_same]; exact t2)
  obtain ⟨r13, g1, g2⟩ := p_settle (N := N) (wd := x4 &&& (r11 ^^^ (-1 : Int32))) (cl := (m ^^^ (-1 : Int32)) &&& (f 49 ^^^ (-1 : Int32))) (S := zs_a S (b + 1) f8) hok hl hN
  rw [zs_same] at g2
  have o1 : f8 50 = g 72 := by rw [← zs_g2_n (M := M) (s := s) (J := J) (g := g) hl (Or.inl rfl)]; exact t2.2.2.2 0 (by omega)
  have o2 : f8 51 = g 73 := by rw [← zs_g2_n (M := M) (s := s) (J := J) (g := g) hl (Or.inr rfl)]; exact t2.2.2.2 1 (by omega)
  have hgo : ∀ k, k < M + s → bt r13 k = zs_gos M s J g k := by
    intro k hk
    rw [g2 k hk, o1, o2]
    unfold zs_gos
    refine zs_go_congr hl hk (fun q hq => ?_) (fun q hq => ?_)
    · rw [b_and, zb_not _ (by omega), y2 q (by omega), zs_wd_congr hl hq bxw]
    · rw [b_and, zb_not _ (by omega), zb_not _ (by omega), hm q (by omega), hr.2.2.1 q (by omega)]
      simp [hq, zs_slp]
  obtain ⟨f14, v1, v2⟩ := p_moveThose (N := N) (go := r13) (S := zs_a S (b + 1) f8) (g := zs_g2 M s J g) hok hl hN (zs_same _ _ _) t2
  have hmv : zs_mv M s J (bt r13) M s (zs_mv M s J (bt r13) 0 M (zs_g2 M s J g, 0)) = zs_g3 M s J g := by
    unfold zs_g3
    rw [zs_mv_congr (go := bt r13) (go' := zs_gos M s J g) M _ (fun k _ h2 => hgo k (by omega)), zs_mv_congr (go := bt r13) (go' := zs_gos M s J g) s _ (fun k _ h2 => hgo k (by omega))]
  rw [hmv] at v1 v2
  rw [zs_api, zs_aa] at v1
  obtain ⟨f16, i1, i2⟩ := p_tellIdle (N := N) (S := zs_a (zb_pi S b 5 (zs_g3 M s J g).2) (b + 1) f14) (g := (zs_g3 M s J g).1) (zc_ok_st hok) hl hN (by rw [zs_same]; exact v2)
  rw [zs_aa] at i1
  unfold fX1_advanceOnce fX1_advanceOnce_0
  rw [e1]
  simp only [zb_bind_some, hs, zb_let, hf]
  rw [if_pos (show zb_in 49 57 by decide), if_pos (show zb_in 48 57 by decide)]
  simp only [show Int32.toNatClampNeg 49 = 49 from by decide, show Int32.toNatClampNeg 48 = 48 from by decide, show Int32.toNatClampNeg 56 = 56 from by decide, hx4]
  rw [q1]
  simp only [zb_bind_some]
  rw [if_pos (show zb_in 49 57 by decide), zs_pa, hf, t1]
  simp only [zb_bind_some, y1, g1, v1, i1]
  rw [if_pos (show zb_in 56 57 by decide), if_pos (show zb_in 56 57 by decide), zs_pa, zs_same, zs_aa]
  refine ⟨_, rfl, ?_⟩
  have e56 : f16 56 = zs_g4 M s J g 78 := i2.2.2.2 6 (by omega)
  rw [e56]
  exact zr_g (j := 6) i2 (by omega) (by omega)
theorem zs_steps_s (n : Nat) (g : Nat → Int32) : zs_steps M s J (n + 1) g = (zs_step M s J (zs_steps M s J n g)).1 := by
  induction n generalizing g with
  | zero => rfl
  | succ n ih => rw [zs_steps, ih]; rfl
/-- n steps of the class's belt -/
theorem p_advance {g f : Nat → Int32} {k : Nat} {w : Int32} (hok : zc_ok b M s J S) (hl : zc_lim M s J) (hN : 120 ≤ N) (hk : k ≤ 99) (hr : zr_Rel (M + s) f g) : ∃ f' w', fX1_advance N b (zs_a (zb_pi S b 5 w) (b + 1) f) (nI k) = some ((), zs_a (zb_pi S b 5 w') (b + 1) f') ∧ zr_Rel (M + s) f' (zs_steps M s J k g) := by
  have loop : ∀ (j n i : Nat) (f : Nat → Int32) (w : Int32), i + j = k → j < n → zr_Rel (M + s) f (zs_steps M s J i g) → ∃ f' w', fX1_advance_2 N b n (zs_a (zb_pi S b 5 w) (b + 1) f) (nI k) (nI i) = some ((), zs_a (zb_pi S b 5 w') (b + 1) f') ∧ zr_Rel (M + s) f' (zs_steps M s J k g) := by
    intro j
    induction j with
    | zero =>
      intro n i f w hi hn hrel
      obtain ⟨n, rfl⟩ : ∃ q, n = q + 1 := ⟨n - 1, by omega⟩
      have e : i = k := by omega
      subst e
      refine ⟨f, w, ?_, hrel⟩
      simp only [fX1_advance_2, fX1_advance_2b]
      rw [if_pos (Int32.le_refl _)]
    | succ j ih =>
      intro n i f w hi hn hrel
      obtain ⟨n, rfl⟩ : ∃ q, n = q + 1 := ⟨n - 1, by omega⟩
      simp only [fX1_advance_2, fX1_advance_2b, zb_let]
      rw [if_neg (by rw [zn_le (by omega) (by omega)]; omega), if_neg (show ¬ (99 : Int32) ≤ nI i by rw [show (99 : Int32) = nI 99 from rfl, zn_le (by omega) (by omega)]; omega)]
      obtain ⟨f1, q1, q2⟩ := p_advanceOnce (N := N) (S := zs_a (zb_pi S b 5 w) (b + 1) f) (g := zs_steps M s J i g) (zc_ok_st hok) hl (by omega) (by rw [zs_same]; exact hrel)
      rw [q1]
      simp only [zb_bind_some, zn_ar, zs_st5, zs_aa]
      exact ih n (i + 1) f1 _ (by omega) (by omega) (by rw [zs_steps_s]; exact q2)
  exact loop k N 0 f w (by omega) (by omega) hr
end CA
