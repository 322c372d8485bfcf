/-! the class's belt -/
def zf_see (f : Nat → Int32) (k : Nat) : Bool := decide (f (12 + k) = 2) || (decide (f (12 + k) = 0) && !decide (f k = 0))
theorem zf_see_rel {Z z : Nat} {f g : Nat → Int32} (h : zr_Rel Z f g) (hz : z < Z) : zf_see f z = zs_see g z := by
  obtain ⟨a1, a2, -, -⟩ := h.1 z hz
  simp only [zf_see, zs_see, a1, a2]
theorem p_in {N k : Nat} {S : zb_S} {a : Int32} (hk : k < 32) : fX1_in N S a (nI k) = some (if bt a k then 1 else 0, S) := by
  unfold fX1_in fX1_in_0
  by_cases h : bt a k = true
  · rw [if_pos ((zb_1 hk).mpr h)]; simp [h]
  · rw [if_neg (fun q => h ((zb_1 hk).mp q))]; simp [h]
section CB
variable {N b M s J : Nat} {S : zb_S}
abbrev zc_ok (b M s J : Nat) (S : zb_S) : Prop := zb_kd b = 1 ∧ zb_i S b 0 = nI M ∧ zb_i S b 1 = nI s ∧ zb_i S b 2 = nI (M + s) ∧ zb_i S b 3 = nI J
theorem p_hasCarton {k : Nat} (hok : zc_ok b M s J S) (hk : k < 57) : fX1_hasCarton N b S (nI k) = some (if zb_a S (b + 1) k = 0 then 0 else 1, S) := by
  have hs := (zk_X1_4 hok.1).2.2
  unfold fX1_hasCarton fX1_hasCarton_0
  simp (disch := omega) only [zn_al, zn_in, zn_cl, hs, Nat.zero_add]
  rw [if_pos hk]
  by_cases h : zb_a S (b + 1) k = 0 <;> simp [h]
theorem p_seeing (hok : zc_ok b M s J S) (hl : zc_lim M s J) (hN : 20 ≤ N) : ∃ m', fX1_seeing N b S = some (m', S) ∧ ∀ k, k < 32 → bt m' k = (decide (k < M + s) && zf_see (zb_a S (b + 1)) k) := by
  have hs := (zk_X1_4 hok.1).2.2
  obtain ⟨l1, l2, l3, l4, l5⟩ := hl
  refine zm_loop (F := fun n m i => fX1_seeing_4 N b n S m i) (Z := M + s) (by omega) ?_ ?_ N (by omega)
  · intro n i m hi
    simp only [fX1_seeing_4, fX1_seeing_4b, fX1_seeing_39, fX1_seeing_45, zb_let, hok.2.2.2.1]
    rw [if_neg (by rw [zn_le (by omega) (by omega)]; omega)]
    simp (disch := omega) only [zn_al, zn_ar, zn_in, zn_cl, hs, p_hasCarton hok (show i < 57 by omega), zb_bind_some]
    rw [if_pos (by omega)]
    unfold zf_see
    by_cases h1 : zb_a S (b + 1) (12 + i) = 2
    · simp [h1]
    · by_cases h2 : zb_a S (b + 1) (12 + i) = 0
      · by_cases h3 : zb_a S (b + 1) i = 0 <;> simp [h2, h3]
      · simp [h1, h2]
  · intro n m
    simp only [fX1_seeing_4, fX1_seeing_4b, hok.2.2.2.1]
    rw [if_pos (by rw [zn_le (by omega) (by omega)]; omega)]
theorem p_loaded (hok : zc_ok b M s J S) (hl : zc_lim M s J) (hN : 20 ≤ N) : ∃ m', fX1_loaded N b S = some (m', S) ∧ ∀ k, k < 32 → bt m' k = (decide (k < M + s) && !decide (zb_a S (b + 1) k = 0)) := by
  obtain ⟨l1, l2, l3, l4, l5⟩ := hl
  refine zm_loop (F := fun n m i => fX1_loaded_4 N b n S m i) (Z := M + s) (by omega) ?_ ?_ N (by omega)
  · intro n i m hi
    simp only [fX1_loaded_4, fX1_loaded_4b, fX1_loaded_26, zb_let, hok.2.2.2.1]
    rw [if_neg (by rw [zn_le (by omega) (by omega)]; omega)]
    simp (disch := omega) only [zn_ar, p_hasCarton hok (show i < 57 by omega), zb_bind_some]
    by_cases h3 : zb_a S (b + 1) i = 0 <;> simp [h3]
  · intro n m
    simp only [fX1_loaded_4, fX1_loaded_4b, hok.2.2.2.1]
    rw [if_pos (by rw [zn_le (by omega) (by omega)]; omega)]
theorem p_behind {z : Nat} (hok : zc_ok b M s J S) (hl : zc_lim M s J) (hz : z < M + s) : fX1_behind N b S (nI z) = some (nI (zs_bh M s J z), S) := by
  obtain ⟨l1, l2, l3, l4, l5⟩ := hl
  unfold fX1_behind fX1_behind_0 zs_bh
  rw [hok.2.2.2.1, hok.2.2.2.2, zn_sub1 (by omega)]
  by_cases h : z = M + s - 1
  · rw [if_pos (by rw [h]), if_pos h]
  · rw [if_neg (by rw [zn_eq (by omega) (by omega)]; exact h), if_neg h, zn_ar]
theorem zs_bh_lt {z : Nat} (hl : zc_lim M s J) (hz : z < M + s) (h1 : z ≠ M - 1) : zs_bh M s J z < M + s := by
  obtain ⟨l1, l2, l3, l4, l5⟩ := hl
  unfold zs_bh; split <;> omega
theorem zs_fd_iff {p : Nat → Bool} {k : Nat} (hl : zc_lim M s J) (hk : k < M + s) : zs_fd M s J p k = true ↔ ∃ i, i < M + s ∧ i ≠ M - 1 ∧ p i = true ∧ zs_bh M s J i = k := by
  obtain ⟨l1, l2, l3, l4, l5⟩ := hl
  unfold zs_fd zs_bh
  simp only [Bool.or_eq_true, Bool.and_eq_true, Bool.not_eq_true', decide_eq_false_iff_not, decide_eq_true_eq]
  constructor
  · rintro (⟨⟨h1, h2⟩, h3⟩ | ⟨⟨h1, h2⟩, h3⟩)
    · exact ⟨k - 1, by omega, by omega, h3, by rw [if_neg (by omega)]; omega⟩
    · exact ⟨M + s - 1, by omega, by omega, h3, by rw [if_pos rfl, h1]⟩
  · rintro ⟨i, h1, h2, h3, h4⟩
    by_cases h : i = M + s - 1
    · rw [if_pos h] at h4
      exact Or.inr ⟨⟨h4.symm, by omega⟩, by rw [← h]; exact h3⟩
    · rw [if_neg h] at h4
      refine Or.inl ⟨⟨by omega, by omega⟩, ?_⟩
      have : k - 1 = i := by omega
      rw [this]; exact h3
theorem p_behindThose {w : Int32} (hok : zc_ok b M s J S) (hl : zc_lim M s J) (hN : 20 ≤ N) : ∃ m', fX1_behindThose N b S w = some (m', S) ∧ ∀ k, k < M + s → bt m' k = zs_fd M s J (bt w) k := by
  have key : ∀ (j n i : Nat) (m : Int32), i + j = M + s → j < n → ∃ m', fX1_behindThose_4 N b n S w m (nI i) = some (m', S) ∧ ∀ k, k < M + s → (bt m' k = true ↔ bt m k = true ∨ ∃ q, i ≤ q ∧ q < M + s ∧ q ≠ M - 1 ∧ bt w q = true ∧ zs_bh M s J q = k) := by
    have hl' := hl
    obtain ⟨l1, l2, l3, l4, l5⟩ := hl
    intro j
    induction j with
    | zero =>
      intro n i m hi hn
      obtain ⟨n, rfl⟩ : ∃ q, n = q + 1 := ⟨n - 1, by omega⟩
      refine ⟨m, ?_, fun k hk => ⟨Or.inl, ?_⟩⟩
      · simp only [fX1_behindThose_4, fX1_behindThose_4b, hok.2.2.2.1]
        rw [if_pos (by rw [zn_le (by omega) (by omega)]; omega)]
      · rintro (h | ⟨q, h1, h2, -⟩)
        · exact h
        · omega
    | succ j ih =>
      intro n i m hi hn
      obtain ⟨n, rfl⟩ : ∃ q, n = q + 1 := ⟨n - 1, by omega⟩
      have e0 : fX1_behindThose_4 N b (n + 1) S w m (nI i) = fX1_behindThose_4 N b n S w (if bt w i = true ∧ i ≠ M - 1 then m ||| ((1 : Int32) <<< (nI (zs_bh M s J i) &&& 31)) else m) (nI (i + 1)) := by
        simp only [fX1_behindThose_4, fX1_behindThose_4b, fX1_behindThose_40, zb_let, hok.2.2.2.1, hok.2.1]
        rw [if_neg (by rw [zn_le (by omega) (by omega)]; omega), p_in (by omega)]
        simp only [zb_bind_some, zn_ar, hok.2.1, p_behind hok hl' (show i < M + s by omega)]
        rw [zn_sub1 (by omega)]
        by_cases h1 : bt w i = true
        · by_cases h2 : i = M - 1
          · simp [h1, h2]
          · have h3 : ¬ nI i = nI (M - 1) := by rw [zn_eq (by omega) (by omega)]; exact h2
            simp [h1, h2, h3]
        · simp [h1]
      rw [e0]
      obtain ⟨m', e1, e2⟩ := ih n (i + 1) _ (by omega) (by omega)
      refine ⟨m', e1, fun k hk => ?_⟩
      rw [e2 k hk]
      by_cases hc : bt w i = true ∧ i ≠ M - 1
      · have hb := zs_bh_lt hl' (show i < M + s by omega) hc.2
        rw [if_pos hc, zr_or1 (by omega) k (by omega)]
        constructor
        · rintro (h | ⟨q, h1, h2, h3⟩)
          · by_cases e : k = zs_bh M s J i
            · exact Or.inr ⟨i, by omega, by omega, hc.2, hc.1, e.symm⟩
            · rw [if_neg e] at h; exact Or.inl h
          · exact Or.inr ⟨q, by omega, h2, h3⟩
        · rintro (h | ⟨q, h1, h2, h3, h4, h5⟩)
          · exact Or.inl (by by_cases e : k = zs_bh M s J i <;> simp [e, h])
          · by_cases e : q = i
            · subst e; exact Or.inl (by rw [if_pos h5.symm])
            · exact Or.inr ⟨q, by omega, h2, h3, h4, h5⟩
      · rw [if_neg hc]
        constructor
        · rintro (h | ⟨q, h1, h2, h3⟩)
          · exact Or.inl h
          · exact Or.inr ⟨q, by omega, h2, h3⟩
        · rintro (h | ⟨q, h1, h2, h3, h4, h5⟩)
          · exact Or.inl h
          · by_cases e : q = i
            · subst e; exact absurd ⟨h4, h3⟩ hc
            · exact Or.inr ⟨q, by omega, h2, h3, h4, h5⟩
  obtain ⟨m', e1, e2⟩ := key (M + s) N 0 0 (by omega) (by obtain ⟨l1, l2, l3, l4, l5⟩ := hl; omega)
  refine ⟨m', e1, fun k hk => ?_⟩
  rw [Bool.eq_iff_iff, e2 k hk, zs_fd_iff hl hk, b_0]
  simp

theorem p_giveTicket {z : Nat} {w : Int32} {g : Nat → Int32} (hok : zc_ok b M s J S) (hl : zc_lim M s J) (hz : z < M + s) (hr : zr_Rel (M + s) (zb_a S (b + 1)) g) : ∃ f', fX1_giveTicket N b S w (nI z) = some ((), zs_a S (b + 1) f') ∧ zr_Rel (M + s) f' (zs_tk (bt w z) z g) := by
  have hs := (zk_X1_4 hok.1).2.2
  obtain ⟨l1, l2, l3, l4, l5⟩ := hl
  unfold fX1_giveTicket fX1_giveTicket_0
  rw [p_in (by omega)]
  simp (disch := omega) only [zb_bind_some, zn_al, zn_in, zn_cl, hs, zb_let, zs_pa, zs_same, zs_aa, Int32.reduceToNatClampNeg]
  have e5 : zb_a S (b + 1) (36 + z) = g (6 * z + 5) := (hr.1 z hz).2.2.2
  have e53 : zb_a S (b + 1) 53 = g 75 := hr.2.2.2 3 (by omega)
  unfold zs_tk
  by_cases h1 : bt w z = true
  · rw [if_neg (by simp [h1]), if_pos (by omega)]
    by_cases h2 : g (6 * z + 5) = 0
    · rw [if_pos (by rw [e5]; exact h2), if_pos (show bt w z = true ∧ g (6 * z + 5) = 0 from ⟨h1, h2⟩)]
      refine ⟨upd (upd (zb_a S (b + 1)) 53 (zb_a S (b + 1) 53 + 1)) (36 + z) (zb_a S (b + 1) 53 + 1), ?_, ?_⟩
      · simp [zb_in, show 36 + z < 57 by omega, upd_s]
      · rw [e53]
        exact zr_t (zr_g (j := 3) hr (by omega) (by omega)) (by omega) hz
    · rw [if_neg (by rw [e5]; exact h2), if_neg (fun q => h2 q.2)]
      exact ⟨zb_a S (b + 1), by rw [zs_id], hr⟩
  · rw [if_pos (by simp [h1]), if_neg (fun q => h1 q.1)]
    exact ⟨zb_a S (b + 1), by rw [zs_id], hr⟩
theorem p_giveTickets {w : Int32} {g : Nat → Int32} (hok : zc_ok b M s J S) (hl : zc_lim M s J) (hr : zr_Rel (M + s) (zb_a S (b + 1)) g) : ∃ f', fX1_giveTickets N b S w = some ((), zs_a S (b + 1) f') ∧ zr_Rel (M + s) f' (zs_tks M s J (bt w) g) := by
  obtain ⟨l1, l2, l3, l4, l5⟩ := id hl
  unfold fX1_giveTickets fX1_giveTickets_0
  rw [hok.2.2.2.2, zn_sub1 (by omega)]
  obtain ⟨f1, e1, r1⟩ := p_giveTicket (N := N) (w := w) hok hl (show J - 1 < M + s by omega) hr
  rw [e1]
  simp only [zb_bind_some, zs_i, hok.2.2.1, hok.2.2.2.1]
  unfold zs_tks
  by_cases h : 0 < s
  · rw [if_neg (show ¬ nI s ≤ 0 by rw [zn_le0 (by omega)]; omega), if_pos h, zn_sub1 (by omega)]
    obtain ⟨f2, e2, r2⟩ := p_giveTicket (N := N) (w := w) (S := zs_a S (b + 1) f1) hok hl (show M + s - 1 < M + s by omega) (by rw [zs_same]; exact r1)
    rw [e2]
    exact ⟨f2, by rw [zb_bind_some, zs_aa], r2⟩
  · rw [if_pos (show nI s ≤ 0 by rw [zn_le0 (by omega)]; omega), if_neg h]
    exact ⟨f1, rfl, r1⟩
theorem p_yielding {w : Int32} {g : Nat → Int32} (hok : zc_ok b M s J S) (hl : zc_lim M s J) (hr : zr_Rel (M + s) (zb_a S (b + 1)) g) : ∃ m, fX1_yielding N b S w = some (m, S) ∧ ∀ k, k < 32 → (bt w k && !bt m k) = zs_wd M s J (bt w) (zs_first M s J g) k := by
  have hs := (zk_X1_4 hok.1).2.2
  obtain ⟨l1, l2, l3, l4, l5⟩ := id hl
  unfold fX1_yielding fX1_yielding_0
  simp only [zb_let, hok.2.2.1, hok.2.2.2.1, hok.2.2.2.2]
  rw [zn_sub1 (by omega), zn_sub1 (by omega)]
  unfold zs_wd
  by_cases h : 0 < s
  · rw [if_neg (show ¬ nI s = 0 by rw [zn_eq0 (by omega)]; omega), p_in (by omega)]
    simp only [zb_bind_some]
    by_cases h1 : bt w (J - 1) = true
    · rw [if_neg (by simp [h1]), p_in (by omega)]
      simp only [zb_bind_some]
      by_cases h2 : bt w (M + s - 1) = true
      · rw [if_neg (by simp [h2])]
        simp (disch := omega) only [zn_al, zn_in, zn_cl, hs]
        rw [if_pos (by omega), if_pos (by omega)]
        have t1 := (hr.1 (J - 1) (by omega)).2.2.2
        have t2 := (hr.1 (M + s - 1) (by omega)).2.2.2
        rw [t1, t2]
        by_cases h3 : g (6 * (M + s - 1) + 5) ≤ g (6 * (J - 1) + 5)
        · rw [if_pos h3]
          refine ⟨_, rfl, fun k hk => ?_⟩
          rw [zb_one (by omega) hk]
          have h4 : zs_first M s J g = false := by unfold zs_first; rw [decide_eq_false_iff_not, Int32.not_lt]; exact h3
          simp [h, h1, h2, h4]
        · rw [if_neg h3]
          refine ⟨_, rfl, fun k hk => ?_⟩
          rw [zb_one (by omega) hk]
          have h4 : zs_first M s J g = true := by unfold zs_first; rw [decide_eq_true_eq, ← Int32.not_le]; exact h3
          simp [h, h1, h2, h4]
      · rw [if_pos (by simp [h2])]
        exact ⟨0, rfl, fun k hk => by simp [b_0, h2]⟩
    · rw [if_pos (by simp [h1])]
      exact ⟨0, rfl, fun k hk => by simp [b_0, h1]⟩
  · rw [if_pos (show nI s = 0 by rw [zn_eq0 (by omega)]; omega)]
    exact ⟨0, rfl, fun k hk => by simp [b_0, h]⟩
theorem p_roomWith {go cl : Int32} (hok : zc_ok b M s J S) : ∃ m, fX1_roomWith N b S go cl = some (m, S) ∧ ∀ k, bt m k = (bt cl k || (decide (zb_a S (b + 1) 51 = 1) && bt go k)) := by
  have hs := (zk_X1_4 hok.1).2.2
  unfold fX1_roomWith fX1_roomWith_0
  rw [hs, if_pos (by decide)]
  by_cases h : zb_a S (b + 1) 51 = 1
  · rw [if_pos (by exact h)]
    exact ⟨_, rfl, fun k => by rw [b_or]; simp [h]⟩
  · rw [if_neg (by exact h)]
    exact ⟨_, rfl, fun k => by simp [h]⟩
theorem p_goer {z : Nat} {wd rm : Int32} (hok : zc_ok b M s J S) (hl : zc_lim M s J) (hz : z < M + s) (hz2 : z ≠ M - 1) : fX1_goer N b S (nI z) wd rm = some (if bt wd z && bt rm (zs_bh M s J z) then (1 : Int32) <<< (nI z &&& 31) else 0, S) := by
  have hb := zs_bh_lt hl hz hz2
  obtain ⟨l1, l2, l3, l4, l5⟩ := id hl
  unfold fX1_goer fX1_goer_0
  rw [p_in (by omega)]
  simp only [zb_bind_some, p_behind hok hl hz]
  rw [p_in (by omega)]
  simp only [zb_bind_some]
  by_cases h1 : bt wd z = true <;> by_cases h2 : bt rm (zs_bh M s J z) = true <;> simp [h1, h2]
theorem p_settle {wd cl : Int32} (hok : zc_ok b M s J S) (hl : zc_lim M s J) (hN : 20 ≤ N) : ∃ m, fX1_settle N b S wd cl = some (m, S) ∧ ∀ k, k < M + s → bt m k = zs_go M s J (bt wd) (bt cl) (decide (zb_a S (b + 1) 50 = 1)) (decide (zb_a S (b + 1) 51 = 1)) k := by
  have hs := (zk_X1_4 hok.1).2.2
  obtain ⟨l1, l2, l3, l4, l5⟩ := id hl
  generalize ho : decide (zb_a S (b + 1) 50 = 1) = op
  generalize ht : decide (zb_a S (b + 1) 51 = 1) = tr
  -- the side line
  have side : ∀ (r n : Nat) (m : Int32), r ≤ s → r < n → (∀ k, k < M + s → bt m k = (if k < M then zs_goM M (bt wd) (bt cl) op tr (M - 1 - k) else decide (M + r ≤ k) && zs_goS M s J (bt wd) (bt cl) op tr (M + s - 1 - k))) → ∃ m', fX1_settle_72 N b n S wd cl m (nI (M + r) - 1) = some (m', S) ∧ ∀ k, k < M + s → bt m' k = zs_go M s J (bt wd) (bt cl) op tr k := by
    intro r
    induction r with
    | zero =>
      intro n m hr hn hm
      obtain ⟨n, rfl⟩ : ∃ q, n = q + 1 := ⟨n - 1, by omega⟩
      refine ⟨m, ?_, fun k hk => ?_⟩
      · simp only [fX1_settle_72, fX1_settle_72b, hok.2.1]
        rw [zn_sub1 (by omega), if_pos (by rw [zn_lt (by omega) (by omega)]; omega)]
      · rw [hm k hk]; unfold zs_go
        by_cases h : k < M
        · simp [h]
        · simp [h]; intro; omega
    | succ r ih =>
      intro n m hr hn hm
      obtain ⟨n, rfl⟩ : ∃ q, n = q + 1 := ⟨n - 1, by omega⟩
      have e1 : nI (M + (r + 1)) - 1 = nI (M + r) := zn_s1 (M + r)
      obtain ⟨rm, q1, q2⟩ := p_roomWith (N := N) (go := m) (cl := cl) hok
      have e0 : fX1_settle_72 N b (n + 1) S wd cl m (nI (M + (r + 1)) - 1) = fX1_settle_72 N b n S wd cl (m ||| (if bt wd (M + r) && bt rm (zs_bh M s J (M + r)) then (1 : Int32) <<< (nI (M + r) &&& 31) else 0)) (nI (M + r) - 1) := by
        simp only [fX1_settle_72, fX1_settle_72b, hok.2.1, e1]
        rw [if_neg (by rw [zn_lt (by omega) (by omega)]; omega), q1]
        simp only [zb_bind_some, p_goer hok hl (show M + r < M + s by omega) (show M + r ≠ M - 1 by omega), zb_let, zn_am1]
      rw [e0]
      refine ih n _ (by omega) (by omega) (fun k hk => ?_)
      rw [b_or, hm k hk, q2]
      by_cases h : k < M
      · have e3 : bt (if bt wd (M + r) && (bt cl (zs_bh M s J (M + r)) || (decide (zb_a S (b + 1) 51 = 1) && bt m (zs_bh M s J (M + r)))) then (1 : Int32) <<< (nI (M + r) &&& 31) else 0) k = false := by
          split
          · rw [zb_one (by omega) (by omega)]; simp; omega
          · rw [b_0]
        rw [e3]; simp [h]
      · by_cases e : k = M + r
        · subst e
          have e4 : ¬ (M + (r + 1) ≤ M + r) := by omega
          have e5 : bt m (zs_bh M s J (M + r)) = if r = s - 1 then zs_goM M (bt wd) (bt cl) op tr (M - 1 - J) else zs_goS M s J (bt wd) (bt cl) op tr (M + s - 1 - (M + r + 1)) := by
            unfold zs_bh
            by_cases c : M + r = M + s - 1
            · rw [if_pos c, if_pos (by omega), hm J (by omega)]; simp [l5]
            · rw [if_neg c, if_neg (by omega), hm (M + r + 1) (by omega)]
              simp [show ¬ (M + r + 1 < M) by omega, show M + (r + 1) ≤ M + r + 1 by omega]
          rw [e5, ht]
          have e6 : zs_goS M s J (bt wd) (bt cl) op tr (M + s - 1 - (M + r)) = (bt wd (M + r) && (bt cl (zs_bh M s J (M + r)) || (tr && if r = s - 1 then zs_goM M (bt wd) (bt cl) op tr (M - 1 - J) else zs_goS M s J (bt wd) (bt cl) op tr (M + s - 1 - (M + r + 1))))) := by
            by_cases c : r = s - 1
            · have : M + s - 1 - (M + r) = 0 := by omega
              rw [this]
              have c2 : M + s - 1 = M + r := by omega
              simp [zs_goS, c, zs_bh, c2]
            · obtain ⟨t, ht2⟩ : ∃ t, M + s - 1 - (M + r) = t + 1 := ⟨M + s - 1 - (M + r) - 1, by omega⟩
              have a1 : M + s - 2 - t = M + r := by omega
              have a2 : M + s - 1 - t = M + r + 1 := by omega
              have a3 : M + s - 1 - (M + r + 1) = t := by omega
              rw [ht2, a3]
              simp only [zs_goS, a1, a2]
              rw [if_neg c]
              unfold zs_bh
              rw [if_neg (by omega)]
          rw [e6]
          have hh : ¬ (M + r < M) := by omega
          simp only [hh, if_false, e4, decide_false, Bool.false_and, Bool.false_or, Nat.le_refl, decide_true, Bool.true_and]
          rw [zb_bitc (by omega) (by omega)]; simp
        · have e3 : bt (if bt wd (M + r) && (bt cl (zs_bh M s J (M + r)) || (decide (zb_a S (b + 1) 51 = 1) && bt m (zs_bh M s J (M + r)))) then (1 : Int32) <<< (nI (M + r) &&& 31) else 0) k = false := by
            split
            · rw [zb_one (by omega) (by omega)]; simp [e]
            · rw [b_0]
          rw [e3]
          have c1 : (M + (r + 1) ≤ k) ↔ (M + r ≤ k) := by omega
          simp [h, c1]
  -- the main line
  have main : ∀ (r n : Nat) (m : Int32), r < M → r < n → (∀ k, k < 32 → bt m k = (decide (r ≤ k ∧ k < M) && zs_goM M (bt wd) (bt cl) op tr (M - 1 - k))) → ∃ m', fX1_settle_34 N b n S wd cl m (nI r - 1) = some (m', S) ∧ ∀ k, k < M + s → bt m' k = zs_go M s J (bt wd) (bt cl) op tr k := by
    intro r
    induction r with
    | zero =>
      intro n m hr hn hm
      obtain ⟨n, rfl⟩ : ∃ q, n = q + 1 := ⟨n - 1, by omega⟩
      have e0 : fX1_settle_34 N b (n + 1) S wd cl m (nI 0 - 1) = fX1_settle_72 N b N S wd cl m (nI (M + s) - 1) := by
        simp only [fX1_settle_34, fX1_settle_34b, hok.2.2.2.1, zb_let]
        rw [if_pos zn_neg1]
      rw [e0]
      refine side s N m (Nat.le_refl _) (by omega) (fun k hk => ?_)
      rw [hm k (by omega)]
      by_cases h : k < M
      · simp [h]
      · simp [h, show ¬ (M + s ≤ k) by omega]
    | succ r ih =>
      intro n m hr hn hm
      obtain ⟨n, rfl⟩ : ∃ q, n = q + 1 := ⟨n - 1, by omega⟩
      obtain ⟨rm, q1, q2⟩ := p_roomWith (N := N) (go := m) (cl := cl) hok
      have e0 : fX1_settle_34 N b (n + 1) S wd cl m (nI (r + 1) - 1) = fX1_settle_34 N b n S wd cl (m ||| (if bt wd r && bt rm (zs_bh M s J r) then (1 : Int32) <<< (nI r &&& 31) else 0)) (nI r - 1) := by
        simp only [fX1_settle_34, fX1_settle_34b, zn_s1]
        rw [if_neg (by rw [zn_lt0 (by omega)]; exact fun h => h), q1]
        simp only [zb_bind_some, p_goer hok hl (show r < M + s by omega) (show r ≠ M - 1 by omega), zb_let, zn_am1]
      rw [e0]
      refine ih n _ (by omega) (by omega) (fun k hk => ?_)
      have hb : zs_bh M s J r = r + 1 := by unfold zs_bh; rw [if_neg (by omega)]
      rw [b_or, hm k hk, q2, hb, hm (r + 1) (by omega)]
      by_cases e : k = r
      · subst e
        obtain ⟨t, ht2⟩ : ∃ t, M - 1 - k = t + 1 := ⟨M - 1 - k - 1, by omega⟩
        have a1 : M - 2 - t = k := by omega
        have a2 : M - 1 - t = k + 1 := by omega
        have a3 : M - 1 - (k + 1) = t := by omega
        have e6 : zs_goM M (bt wd) (bt cl) op tr (M - 1 - k) = (bt wd k && (bt cl (k + 1) || (tr && zs_goM M (bt wd) (bt cl) op tr t))) := by
          rw [ht2]; simp only [zs_goM, a1, a2]
        rw [e6, a3, ht]
        have c1 : ¬ (k + 1 ≤ k ∧ k < M) := by omega
        have c2 : (k ≤ k ∧ k < M) := by omega
        have c3 : (k + 1 ≤ k + 1 ∧ k + 1 < M) := by omega
        simp only [c1, c2, c3, decide_true, decide_false, Bool.false_and, Bool.true_and, Bool.false_or]
        rw [zb_bitc (by omega) hk]; simp
      · have e3 : ∀ c : Bool, bt (if c = true then (1 : Int32) <<< (nI r &&& 31) else 0) k = false := by
          intro c
          split
          · rw [zb_one (by omega) hk]; simp [e]
          · rw [b_0]
        rw [e3]
        have c1 : (r + 1 ≤ k ∧ k < M) ↔ (r ≤ k ∧ k < M) := by omega
        simp [c1]
  unfold fX1_settle fX1_settle_0
  simp only [zb_let, fX1_settle_27, hok.2.1]
  rw [hs, if_pos (by decide), zn_sub1 (by omega)]
  have hbit : ∀ k, k < 32 → bt (if op = true then wd &&& ((1 : Int32) <<< (nI (M - 1) &&& 31)) else 0) k = (decide (M - 1 ≤ k ∧ k < M) && zs_goM M (bt wd) (bt cl) op tr (M - 1 - k)) := by
    intro k hk
    by_cases e : k = M - 1
    · subst e
      have c2 : (M - 1 ≤ M - 1 ∧ M - 1 < M) := by omega
      simp only [c2, decide_true, Bool.true_and, Nat.sub_self, zs_goM]
      split
      · rename_i h; rw [b_and, zb_one (by omega) hk]; simp [h]
      · rename_i h; rw [b_0]; simp [h]
    · have c2 : ¬ (M - 1 ≤ k ∧ k < M) := by omega
      simp only [c2, decide_false, Bool.false_and]
      split
      · rw [b_and, zb_one (by omega) hk]; simp [e]
      · rw [b_0]
  obtain ⟨m', g1, g2⟩ := main (M - 1) N _ (by omega) (by omega) hbit
  refine ⟨m', ?_, g2⟩
  rw [← g1]
  by_cases h : zb_a S (b + 1) 50 = 1
  · rw [if_pos (by exact h)]
    have : op = true := by rw [← ho]; simp [h]
    simp [this]
  · rw [if_neg (by exact h)]
    have : op = false := by rw [← ho]; simp [h]
    simp [this]
end CB
