section TR
variable {M s J tl na nx ns N b r : Nat} {S T S' S'' : zb_S} {f f' g g' : Nat → Int32}
/-- but for what is only tried out -/
def zq (S S' : zb_S) : Prop := (∀ o k, o ≠ 5 → ¬ (o = 21 ∧ (k = 0 ∨ 22 ≤ k)) → zb_i S' o k = zb_i S o k) ∧ (∀ o, o ≠ 6 → o ≠ 13 → o ≠ 18 → o ≠ 19 → o ≠ 20 → o ≠ 25 → zb_a S' o = zb_a S o) ∧ ∀ i, 79 ≤ i → zb_a S' 25 i = zb_a S 25 i
def zt (S S' : zb_S) : Prop := zq S S' ∧ ∀ o k, zb_l S' o k = zb_l S o k
theorem zq.rf : zq S S := ⟨fun _ _ _ _ => rfl, fun _ _ _ _ _ _ _ => rfl, fun _ _ => rfl⟩
theorem zt.rf : zt S S := ⟨zq.rf, fun _ _ => rfl⟩
theorem zq.tr (h : zq S S') (h2 : zq S' S'') : zq S S'' := ⟨fun o k a b => (h2.1 o k a b).trans (h.1 o k a b), fun o a b c d e p => (h2.2.1 o a b c d e p).trans (h.2.1 o a b c d e p), fun i hi => (h2.2.2 i hi).trans (h.2.2 i hi)⟩
theorem zt.tr (h : zt S S') (h2 : zt S' S'') : zt S S'' := ⟨h.1.tr h2.1, fun o k => (h2.2 o k).trans (h.2 o k)⟩
theorem zi_P.q (h : zi_P M s J tl na nx ns S) (hq : zq S S') (hs : zb_l S' 0 11 = zb_l S' 21 21) : zi_P M s J tl na nx ns S' := by
  obtain ⟨hl, hc, hn, ht, ha, hk, hs2, ho⟩ := h
  have I : ∀ o k, o ≠ 5 → ¬ (o = 21 ∧ (k = 0 ∨ 22 ≤ k)) → zb_i S' o k = zb_i S o k := hq.1
  have A : ∀ o, o ≠ 6 → o ≠ 13 → o ≠ 18 → o ≠ 19 → o ≠ 20 → o ≠ 25 → zb_a S' o = zb_a S o := hq.2.1
  exact ⟨hl, hc.tr (I _ _ (by omega) (by omega)) (I _ _ (by omega) (by omega)) (I _ _ (by omega) (by omega)) (I _ _ (by omega) (by omega)) (I _ _ (by omega) (by omega)) (I _ _ (by omega) (by omega)) (I _ _ (by omega) (by omega)),
    hn.tr (A _ (by omega) (by omega) (by omega) (by omega) (by omega) (by omega)) (A _ (by omega) (by omega) (by omega) (by omega) (by omega) (by omega)),
    ht.tr (I _ _ (by omega) (by omega)) (I _ _ (by omega) (by omega)) (A _ (by omega) (by omega) (by omega) (by omega) (by omega) (by omega)) (A _ (by omega) (by omega) (by omega) (by omega) (by omega) (by omega)),
    ha.tr (I _ _ (by omega) (by omega)) (I _ _ (by omega) (by omega)) (I _ _ (by omega) (by omega)) (I _ _ (by omega) (by omega)) (A _ (by omega) (by omega) (by omega) (by omega) (by omega) (by omega)) (A _ (by omega) (by omega) (by omega) (by omega) (by omega) (by omega)),
    hk.tr (I _ _ (by omega) (by omega)) (I _ _ (by omega) (by omega)) (A _ (by omega) (by omega) (by omega) (by omega) (by omega) (by omega)) (A _ (by omega) (by omega) (by omega) (by omega) (by omega) (by omega)) (A _ (by omega) (by omega) (by omega) (by omega) (by omega) (by omega)),
    hs2.tr (I _ _ (by omega) (by omega)) (I _ _ (by omega) (by omega)) (A _ (by omega) (by omega) (by omega) (by omega) (by omega) (by omega)) (A _ (by omega) (by omega) (by omega) (by omega) (by omega) (by omega)) (A _ (by omega) (by omega) (by omega) (by omega) (by omega) (by omega)) (A _ (by omega) (by omega) (by omega) (by omega) (by omega) (by omega)) (A _ (by omega) (by omega) (by omega) (by omega) (by omega) (by omega)) (A _ (by omega) (by omega) (by omega) (by omega) (by omega) (by omega)),
    ⟨by rw [I _ _ (by omega) (by omega)]; exact ho.1, hs⟩⟩
theorem zi_P.t (h : zi_P M s J tl na nx ns S) (hq : zt S S') : zi_P M s J tl na nx ns S' := h.q hq.1 (by rw [hq.2, hq.2]; exact h.2.2.2.2.2.2.2.2)
/-- the row that is tried out at first -/
def zt_g (S : zb_S) : Nat → Int32 := va_cpy (zb_a S 24) (zb_a S 25) 0 0 79
theorem zt_g_lt {i : Nat} (h : i < 79) : zt_g S i = zb_a S 24 i := by
  unfold zt_g va_cpy; rw [if_pos (by omega), show 0 + (i - 0) = i by omega]
theorem zt_g_eq (h : zq S S') : zt_g S' = zt_g S := by
  funext i
  by_cases c : i < 79
  · rw [zt_g_lt c, zt_g_lt c, h.2.1 24 (by omega) (by omega) (by omega) (by omega) (by omega) (by omega)]
  · unfold zt_g va_cpy; rw [if_neg (by omega), if_neg (by omega)]; exact h.2.2 i (by omega)
theorem zt_pi5 {k : Nat} {v : Int32} : zt S (zb_pi S 5 k v) := ⟨⟨fun o q h _ => by rw [zs_pi_i, if_neg (fun c => h c.1)], fun _ _ _ _ _ _ _ => rfl, fun _ _ => rfl⟩, fun _ _ => rfl⟩
theorem zt_thr {v : Int32} : zt S (zb_pi S 21 0 v) := ⟨⟨fun o q _ h => by rw [zs_pi_i, if_neg (fun c => h ⟨c.1, Or.inl c.2⟩)], fun _ _ _ _ _ _ _ => rfl, fun _ _ => rfl⟩, fun _ _ => rfl⟩
theorem zt_a6 : zt S (zs_a S 6 f) := ⟨⟨fun _ _ _ _ => rfl, fun o h _ _ _ _ _ => zs_ne h, fun _ _ => rfl⟩, fun _ _ => rfl⟩
theorem zt_a25 (h : ∀ i, 79 ≤ i → f i = zb_a S 25 i) : zt S (zs_a S 25 f) := ⟨⟨fun _ _ _ _ => rfl, fun o _ _ _ _ _ h => zs_ne h, fun i hi => by rw [zs_same]; exact h i hi⟩, fun _ _ => rfl⟩
theorem zt_st {se wi go sl we : Int32} (h : ∀ i, 79 ≤ i → g i = zb_a S 25 i) : zt S (zm_st S 25 se wi go sl we g) := by
  refine ⟨⟨fun o k h1 h2 => ?_, fun o _ _ _ _ _ h => mz_ao h, fun i hi => by rw [mz_a]; exact h i hi⟩, fun _ _ => rfl⟩
  by_cases e : o = 21
  · subst e; exact mz_i (by omega)
  · exact mz_io e
theorem zi_now.rel (hn : zi_now M s S) (hl : zc_lim M s J) : zr_Rel (M + s) (zb_a S 4) (zt_g S) ∧ zr_wf (M + s) (zt_g S) := by
  obtain ⟨l1, l2, l3, l4, l5⟩ := hl
  exact ⟨hn.1.ext (by omega) (fun _ _ => rfl) (fun i hi => zt_g_lt hi), hn.2.ext (by omega) (fun i hi => zt_g_lt hi)⟩
theorem p_copy (hl : zc_lim M s J) (hok : zc_ok 3 M s J S) (hr : zr_Rel (M + s) (zb_a S 4) g) : ∃ S1, fX1_copy N 5 3 S = some ((), S1) ∧ zt S S1 ∧ zc_ok 5 M s J S1 ∧ zr_Rel (M + s) (zb_a S1 6) g := by
  obtain ⟨l1, l2, l3, l4, l5⟩ := hl
  obtain ⟨-, h1, h2, h3, h4⟩ := hok
  refine ⟨zs_a (zb_pi (zb_pi (zb_pi (zb_pi S 5 0 (nI M)) 5 1 (nI s)) 5 2 (nI (M + s))) 5 3 (nI J)) 6 (va_cpy (zb_a S 4) (zb_a S 6) 0 0 57), ?_, ((((zt_pi5).tr zt_pi5).tr zt_pi5).tr zt_pi5).tr zt_a6, ⟨rfl, rfl, rfl, rfl, rfl⟩, ?_⟩
  · unfold fX1_copy fX1_copy_0
    simp only [zb_let]
    rw [if_pos (by decide), h1, show zb_i (zb_pi S 5 0 (nI M)) 3 1 = nI s from h2, show zb_i (zb_pi (zb_pi S 5 0 (nI M)) 5 1 (nI s)) 3 2 = nI (M + s) from h3, show zb_i (zb_pi (zb_pi (zb_pi S 5 0 (nI M)) 5 1 (nI s)) 5 2 (nI (M + s))) 3 3 = nI J from h4, zs_cp]
    rfl
  · rw [zs_same]
    exact hr.ext (by omega) (fun i hi => by unfold va_cpy; rw [if_pos (by omega), show 0 + (i - 0) = i by omega]) (fun _ _ => rfl)
theorem m_layTrial (hN : 5000 ≤ N) : fX6_layTrial N S = some ((), zs_a S 25 (zt_g S)) := by
  have loop : ∀ (j n i : Nat), i + j = 79 → j < n → fX6_layTrial_2 N n (zs_a S 25 (va_cpy (zb_a S 24) (zb_a S 25) 0 0 i)) (nI i) = some ((), zs_a S 25 (va_cpy (zb_a S 24) (zb_a S 25) 0 0 79)) := by
    intro j
    induction j with
    | zero =>
      intro n i hi hn
      obtain ⟨n, rfl⟩ : ∃ q, n = q + 1 := ⟨n - 1, by omega⟩
      have e : i = 79 := by omega
      subst e
      simp only [fX6_layTrial_2, fX6_layTrial_2b]
      rw [if_pos (by decide)]
    | succ j ih =>
      intro n i hi hn
      obtain ⟨n, rfl⟩ : ∃ q, n = q + 1 := ⟨n - 1, by omega⟩
      simp only [fX6_layTrial_2, fX6_layTrial_2b, zb_let, zn_ar]
      rw [if_neg (show ¬ (79 : Int32) ≤ nI i by rw [show (79 : Int32) = nI 79 from rfl, zn_le (by omega) (by omega)]; omega), if_pos (show zb_in (nI i) (zb_sz 24) from (zn_in (by omega)).mpr (show i < 79 by omega)), if_pos (show zb_in (nI i) (zb_sz 25) from (zn_in (by omega)).mpr (show i < 79 by omega)), zn_cl (by omega), zs_pa, zs_same, zs_aa, zs_ne (by omega)]
      have := zc_cpy (f := zb_a S 24) (g := zb_a S 25) (sp := 0) (dp := 0) (i := i)
      rw [Nat.zero_add] at this
      rw [this]
      exact ih n (i + 1) (by omega) (by omega)
  have := loop 79 N 0 (by omega) (by omega)
  rw [zc_cpy0, zs_id] at this
  exact this
theorem zt_lay : zt S (zs_a S 25 (zt_g S)) := zt_a25 (fun i hi => by unfold zt_g va_cpy; rw [if_neg (by omega)])
/-- nothing beyond the row is told -/
theorem zs_mv1_big {go : Nat → Bool} {z i : Nat} {x : zs_X} (hl : zc_lim M s J) (hz : z < M + s) (hi : 79 ≤ i) : (zs_mv1 M s J go z x).1 i = x.1 i := by
  obtain ⟨l1, l2, l3, l4, l5⟩ := id hl
  unfold zs_mv1
  split
  · unfold zs_ho
    split
    · exact upd_n (by omega)
    · split
      · exact (upd_n (show i ≠ 77 by omega)).trans ((upd_n (show i ≠ 6 * z by omega)).trans (upd_n (show i ≠ 6 * z + 5 by omega)))
      · rename_i h2 h3
        have hb := zs_bh_lt hl hz h3
        split
        · exact (upd_n (show i ≠ 6 * z by omega)).trans ((upd_n (show i ≠ 6 * zs_bh M s J z by omega)).trans (upd_n (show i ≠ 6 * z + 5 by omega)))
        · exact (upd_n (show i ≠ 6 * z + 2 by omega)).trans (upd_n (show i ≠ 6 * z + 5 by omega))
  · rfl
theorem zs_mv_big {go : Nat → Bool} {lo i : Nat} (hl : zc_lim M s J) (hi : 79 ≤ i) : ∀ (n : Nat) (x : zs_X), lo + n ≤ M + s → (zs_mv M s J go lo n x).1 i = x.1 i := by
  intro n
  induction n with
  | zero => intro x _; rfl
  | succ n ih => intro x hn; exact (ih _ (by omega)).trans (zs_mv1_big hl (by omega) hi)
theorem zs_idl_big {any : Nat → Bool} {i Z : Nat} (hZ : Z ≤ 12) (hi : 79 ≤ i) : ∀ n, n ≤ Z → zs_idl any n g i = g i := by
  intro n
  induction n with
  | zero => intro _; rfl
  | succ n ih =>
    intro hn
    have h1 := ih (by omega)
    simp only [zs_idl]
    unfold zs_id1
    split
    · rw [upd_n (by omega)]; exact h1
    · split
      · rw [upd_n (by omega), upd_n (by omega)]; exact h1
      · rw [upd_n (by omega)]; exact h1
theorem zs_step_big {i : Nat} (hl : zc_lim M s J) (hi : 79 ≤ i) : (zs_step M s J g).1 i = g i := by
  obtain ⟨l1, l2, l3, l4, l5⟩ := id hl
  show upd (zs_g4 M s J g) 78 _ i = _
  rw [upd_n (by omega)]
  unfold zs_g4
  rw [zs_idl_big (Z := M + s) (by omega) hi _ (Nat.le_refl _)]
  unfold zs_g3
  rw [zs_mv_big hl hi _ _ (by omega), zs_mv_big hl hi _ _ (by omega)]
  show zs_g2 M s J g i = _
  unfold zs_g2 zs_tks
  split
  · rw [zs_tk_n (by omega) (by omega), zs_tk_n (by omega) (by omega), zs_wk_n (by omega)]
  · rw [zs_tk_n (by omega) (by omega), zs_wk_n (by omega)]
theorem zs_steps_big {i : Nat} (hl : zc_lim M s J) (hi : 79 ≤ i) : ∀ (n : Nat) (g : Nat → Int32), zs_steps M s J n g i = g i := by
  intro n
  induction n with
  | zero => intro g; rfl
  | succ n ih => intro g; exact (ih _).trans (zs_step_big hl hi)
/-- a step of the class's trial -/
theorem p_tstep (hok : zc_ok 5 M s J S) (hl : zc_lim M s J) (hN : 5000 ≤ N) (hr : zr_Rel (M + s) (zb_a S 6) g) : ∃ S1, fX1_advanceOnce N 5 S = some ((), S1) ∧ zt S S1 ∧ zc_ok 5 M s J S1 ∧ zr_Rel (M + s) (zb_a S1 6) (zs_step M s J g).1 ∧ zb_i S1 5 5 = (zs_step M s J g).2 := by
  obtain ⟨f1, e1, e2⟩ := p_advanceOnce (N := N) (b := 5) hok hl (by omega) hr
  exact ⟨_, e1, zt_pi5.tr zt_a6, zc_ok_st hok, by rw [show zb_a (zs_a (zb_pi S 5 5 (zs_step M s J g).2) (5 + 1) f1) 6 = f1 from zs_same _ _ _]; exact e2, rfl⟩
theorem zs_pid (S : zb_S) (b k : Nat) : zb_pi S b k (zb_i S b k) = S := by
  show (va_up S.1 b (va_up (S.1 b) k (S.1 b k)), S.2.1, S.2.2) = S
  have a1 : va_up (S.1 b) k (S.1 b k) = S.1 b := by funext j; simp only [va_up]; split <;> simp_all
  have a2 : va_up S.1 b (S.1 b) = S.1 := by funext j; simp only [va_up]; split <;> simp_all
  rw [a1, a2]
theorem p_tsteps {k : Nat} (hok : zc_ok 5 M s J S) (hl : zc_lim M s J) (hN : 5000 ≤ N) (hk : k ≤ 99) (hr : zr_Rel (M + s) (zb_a S 6) g) : ∃ S1, fX1_advance N 5 S (nI k) = some ((), S1) ∧ zt S S1 ∧ zc_ok 5 M s J S1 ∧ zr_Rel (M + s) (zb_a S1 6) (zs_steps M s J k g) := by
  obtain ⟨f1, w1, e1, e2⟩ := p_advance (N := N) (b := 5) (f := zb_a S 6) (w := zb_i S 5 5) hok hl (by omega) hk hr
  rw [zs_pid, show zs_a S (5 + 1) (zb_a S 6) = S from zs_id S 6] at e1
  exact ⟨_, e1, zt_pi5.tr zt_a6, zc_ok_st hok, by rw [show zb_a (zs_a (zb_pi S 5 5 w1) (5 + 1) f1) 6 = f1 from zs_same _ _ _]; exact e2⟩
/-- a step of the reference's trial -/
theorem m_tstep (hok : zm_ok 25 M s J S) (hl : zc_lim M s J) (hN : 5000 ≤ N) (hg : zb_a S 25 = g) (hw : zr_wf (M + s) g) : ∃ S1, fX6_stepOn N 25 S = some ((), S1) ∧ zt S S1 ∧ zm_ok 25 M s J S1 ∧ zb_a S1 25 = (zs_step M s J g).1 ∧ zb_i S1 21 26 = (zs_step M s J g).2 := by
  obtain ⟨se, wi, go, sl, e⟩ := m_stepOn (N := N) (r := 25) (se := zb_i S 21 22) (wi := zb_i S 21 23) (go := zb_i S 21 24) (sl := zb_i S 21 25) (we := zb_i S 21 26) hok hl (by omega) hw
  rw [← hg, ← mz_id (S := S) (r := 25)] at e
  exact ⟨_, e, zt_st (fun i hi => zs_step_big hl hi), zm_okst hok, by rw [mz_a, hg], by rw [mz_i26, hg]⟩
theorem m_tsteps {k : Nat} (hok : zm_ok 25 M s J S) (hl : zc_lim M s J) (hN : 5000 ≤ N) (hk : k ≤ 99) (hg : zb_a S 25 = g) (hw : zr_wf (M + s) g) : ∃ S1, fX6_stepsOn N 25 S (nI k) = some ((), S1) ∧ zt S S1 ∧ zm_ok 25 M s J S1 ∧ zb_a S1 25 = zs_steps M s J k g := by
  obtain ⟨se, wi, go, sl, we, e⟩ := m_stepsOn (N := N) (r := 25) (k := k) (se := zb_i S 21 22) (wi := zb_i S 21 23) (go := zb_i S 21 24) (sl := zb_i S 21 25) (we := zb_i S 21 26) hok hl (by omega) hk hw
  rw [← hg, ← mz_id (S := S) (r := 25)] at e
  exact ⟨_, e, zt_st (fun i hi => zs_steps_big hl hi k _), zm_okst hok, by rw [mz_a, hg]⟩
theorem zi_cfg.m (hc : zi_cfg M s J S) (h : zq S S') : zm_ok 25 M s J S' := ⟨rfl, (h.1 21 4 (by omega) (by omega)).trans hc.2.1, (h.1 21 5 (by omega) (by omega)).trans hc.2.2.1, (h.1 21 6 (by omega) (by omega)).trans hc.2.2.2⟩
theorem zi_cfg.c (hc : zi_cfg M s J S) (h : zq S S') : zc_ok 3 M s J S' := ⟨rfl, (h.1 3 0 (by omega) (by omega)).trans hc.1.2.1, (h.1 3 1 (by omega) (by omega)).trans hc.1.2.2.1, (h.1 3 2 (by omega) (by omega)).trans hc.1.2.2.2.1, (h.1 3 3 (by omega) (by omega)).trans hc.1.2.2.2.2⟩
/-- both lay out what is tried -/
theorem p_tcopy (hP : zi_P M s J tl na nx ns S) (hq : zq S S') : ∃ S1, fX1_copy N 5 3 S' = some ((), S1) ∧ zt S' S1 ∧ zc_ok 5 M s J S1 ∧ zr_Rel (M + s) (zb_a S1 6) (zt_g S) := by
  refine p_copy hP.1 (hP.2.1.c hq) ?_
  rw [hq.2.1 4 (by omega) (by omega) (by omega) (by omega) (by omega) (by omega)]
  exact (hP.2.2.1.rel hP.1).1
theorem m_tlay (hP : zi_P M s J tl na nx ns S) (hN : 5000 ≤ N) (hq : zq S S') : ∃ S1, fX6_layTrial N S' = some ((), S1) ∧ zt S' S1 ∧ zm_ok 25 M s J S1 ∧ zb_a S1 25 = zt_g S := by
  refine ⟨_, m_layTrial hN, zt_lay, hP.2.1.m (hq.tr zt_lay.1), ?_⟩
  rw [zs_same, zt_g_eq hq]
theorem e_ahead {a c d : Int32} (hN : 5000 ≤ N) (h : zi_I S) : zi_E (fun S => fX5_ahead N S a c d) (fun S => fX6_ahead N S a c d) S := by
  obtain ⟨M, s, J, tl, na, nx, ns, hP⟩ := h
  obtain ⟨hl, hc, hn, ht, ha, hk, hs, ho⟩ := id hP
  obtain ⟨l1, l2, l3, l4, l5⟩ := id hl
  have hm0 : zm_ok 24 M s J (zb_pi S 21 0 0) := ⟨rfl, hc.2.1, hc.2.2.1, hc.2.2.2⟩
  have hina : ∀ T : zb_S, fX6_in N T a.toInt64 0 99 = some (if 0 ≤ a ∧ a ≤ 99 then 1 else 0, T) := fun T => m_in32 0 99 rfl rfl
  have hind : ∀ T : zb_S, fX6_in N T d.toInt64 0 6 = some (if 0 ≤ d ∧ d ≤ 6 then 1 else 0, T) := fun T => m_in32 0 6 rfl rfl
  rcases p_hasZone (N := N) (a := c) hc.1 hl with ⟨z, h1, rfl, h3⟩ | ⟨h2, h3⟩
  · by_cases hb : (0 ≤ a ∧ a ≤ 99) ∧ (0 ≤ d ∧ d ≤ 6)
    · obtain ⟨b1, b2⟩ := hb
      obtain ⟨k, k1, rfl⟩ := (zn_bet (n := 99) (by omega)).mp b1
      obtain ⟨q, q1, rfl⟩ := (zn_bet (n := 6) (by omega)).mp b2
      obtain ⟨S1, x1, x2, x3, x4⟩ := p_tcopy (N := N) hP zq.rf
      obtain ⟨S2, y1, y2, y3, y4⟩ := p_tsteps (N := N) (k := k) x3 hl hN (by omega) x4
      have hw := (hn.rel hl).2
      have hq1 : zt S (zb_pi S2 21 0 0) := (x2.tr y2).tr zt_thr
      obtain ⟨S3, u1, u2, u3, u4⟩ := m_tlay (N := N) hP hN hq1.1
      obtain ⟨S4, v1, v2, v3, v4⟩ := m_tsteps (N := N) (k := k) u3 hl hN (by omega) u4 hw
      refine ⟨zs_fact (zs_steps M s J k (zt_g S)) z q, S2, S4, ?_, ?_, (hP.t ((hq1.tr u2).tr v2)).I⟩
      · simp only [fX5_ahead, fX5_ahead_0, h3, zb_bind_some]
        rw [if_neg (by decide), if_neg (Int32.not_lt.mpr b1.1), if_neg (Int32.not_lt.mpr b1.2), if_neg (Int32.not_lt.mpr b2.1), if_pos (show nI q < 7 by rw [show (7 : Int32) = nI 7 from rfl, zn_lt (by omega) (by omega)]; omega), x1]
        simp only [zb_bind_some, y1]
        rw [p_factOf (N := N) (b := 5) y3 hl (by omega) h1 (by omega) y4 (zr_wf_steps hl k _ hw)]
        rfl
      · simp only [fX6_ahead, fX6_ahead_0, zb_let]
        rw [(m_noZone (N := N) (r := 24) (M := M) (s := s) (J := J) (S := zb_pi S2 21 0 0) ⟨rfl, (hP.2.1.m hq1.1).2⟩ hl).1 ⟨z, h1, rfl⟩]
        simp only [zb_bind_some, hina, hind, if_pos b1, if_pos b2, u1, v1]
        rw [if_pos trivial, if_neg (by decide), if_neg (by decide), m_tellOf v3 hl h1 (by omega) (by rw [v4]; exact zr_wf_steps hl k _ hw), v4]
        rfl
    · refine ⟨-2, S, zb_pi S 21 0 0, ?_, ?_, hP.thr.I⟩
      · simp only [fX5_ahead, fX5_ahead_0, h3, zb_bind_some]
        rw [if_neg (by decide)]
        by_cases e1 : a < 0
        · rw [if_pos e1]
        · rw [if_neg e1]
          by_cases e2 : 99 < a
          · rw [if_pos e2]
          · rw [if_neg e2]
            by_cases e3 : d < 0
            · rw [if_pos e3]
            · rw [if_neg e3, if_neg (fun q => hb ⟨⟨Int32.not_lt.mp e1, Int32.not_lt.mp e2⟩, Int32.not_lt.mp e3, ?_⟩)]
              rcases zn_cases d 7 (by omega) with ⟨k, k1, rfl⟩ | ⟨c | c, -⟩
              · exact ((zn_bet (n := 6) (by omega)).mpr ⟨k, k1, rfl⟩).2
              · exact absurd c e3
              · exact absurd q (Int32.not_lt.mpr c)
      · simp only [fX6_ahead, fX6_ahead_0, zb_let, (m_noZone (N := N) hm0 hl).1 ⟨z, h1, rfl⟩, zb_bind_some, hina, hind]
        rw [if_pos trivial]
        by_cases b1 : 0 ≤ a ∧ a ≤ 99
        · rw [if_neg (by rw [if_pos b1]; decide), if_pos (by rw [if_neg (fun q => hb ⟨b1, q⟩)])]
        · rw [if_pos (by rw [if_neg b1])]
  · refine ⟨-1, S, zb_pi S 21 0 0, ?_, ?_, hP.thr.I⟩
    · simp only [fX5_ahead, fX5_ahead_0, h3, zb_bind_some]; rfl
    · simp only [fX6_ahead, fX6_ahead_0, zb_let, (m_noZone (N := N) hm0 hl).2 h2, zb_bind_some]; rfl
end TR
