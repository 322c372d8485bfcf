section CS
variable {N b M s J : Nat} {S : zb_S}
theorem zc_ok_st {w : Int32} {f : Nat → Int32} (hok : zc_ok b M s J S) : zc_ok b M s J (zs_a (zb_pi S b 5 w) (b + 1) f) := by
  obtain ⟨h0, h1, h2, h3, h4⟩ := hok
  refine ⟨h0, ?_, ?_, ?_, ?_⟩ <;> rw [zs_i, zs_pi_i, if_neg (by omega)] <;> assumption
theorem zs_st5 {w v : Int32} {f : Nat → Int32} : zb_pi (zs_a (zb_pi S b 5 w) (b + 1) f) b 5 v = zs_a (zb_pi S b 5 v) (b + 1) f := by rw [zs_api, zs_pipi]
theorem p_change {k : Nat} {v : Int32} (hok : zc_ok b M s J S) (hk : k < 57) : fX1_change N b S (nI k) v = some (zb_a S (b + 1) k, zs_a S (b + 1) (upd (zb_a S (b + 1)) k v)) := by
  have hs := (zk_X1_4 hok.1).2.2
  unfold fX1_change fX1_change_0
  simp (disch := omega) only [zn_in, zn_cl, hs, zb_let, zs_pa]
  rw [if_pos hk, if_pos hk]
theorem upd_comm {f : Nat → Int32} {i j : Nat} {v w : Int32} (h : i ≠ j) : upd (upd f i v) j w = upd (upd f j w) i v := by
  funext k
  simp only [upd]
  by_cases h1 : k = i
  · subst h1; simp [h]
  · simp [h1]
theorem p_handOn {z : Nat} {w : Int32} {f g : Nat → Int32} (hok : zc_ok b M s J S) (hl : zc_lim M s J) (hz : z < M + s) (hr : zr_Rel (M + s) f g) : ∃ f', fX1_handOn N b (zs_a (zb_pi S b 5 w) (b + 1) f) (nI z) = some ((), zs_a (zb_pi S b 5 (zs_ho M s J z (upd g (6 * z + 5) 0) w).2) (b + 1) f') ∧ zr_Rel (M + s) f' (zs_ho M s J z (upd g (6 * z + 5) 0) w).1 := by
  have hs := (zk_X1_4 hok.1).2.2
  obtain ⟨l1, l2, l3, l4, l5⟩ := id hl
  have r1 := zr_t (v := 0) hr (by omega) hz
  generalize hg1 : upd g (6 * z + 5) 0 = g1 at r1 ⊢
  generalize hf1 : upd f (36 + z) 0 = f1 at r1
  have ec : f1 z = g1 (6 * z) := (r1.1 z hz).1
  unfold fX1_handOn fX1_handOn_0
  simp (disch := omega) only [zn_al, zn_in, zn_cl, hs, zb_let, zs_pa, zs_same, zs_aa, hf1]
  rw [if_pos (by omega), p_hasCarton (zc_ok_st hok) (by omega)]
  simp only [zb_bind_some, zs_same, Nat.zero_add]
  unfold zs_ho
  by_cases h1 : g1 (6 * z) = 0
  · rw [if_pos (by rw [ec, if_pos h1]), if_pos h1]
    exact ⟨f1, rfl, r1⟩
  · rw [if_neg (by rw [ec, if_neg h1]; decide), if_neg h1]
    rw [(zc_ok_st hok).2.1, zn_sub1 (by omega)]
    by_cases h2 : z = M - 1
    · rw [if_pos (by rw [h2]), if_pos h2, p_change (zc_ok_st hok) (by omega)]
      simp only [zb_bind_some, zs_same, zs_aa, zs_st5]
      refine ⟨upd (upd f1 z 0) 55 (upd f1 z 0 55 + 1), ?_, ?_⟩
      · simp [zb_in, ec]
      · rw [show upd f1 z 0 55 = g1 77 from by rw [upd_n (by omega)]; exact r1.2.2.2 5 (by omega)]
        exact zr_g (j := 5) (zr_c r1 (by omega) hz) (by omega) (by omega)
    · have hb := zs_bh_lt hl hz h2
      have eb : f1 (zs_bh M s J z) = g1 (6 * zs_bh M s J z) := (r1.1 _ hb).1
      rw [if_neg (by rw [zn_eq (by omega) (by omega)]; exact h2), if_neg h2]
      simp only [p_behind (zc_ok_st hok) hl hz, zb_bind_some]
      rw [p_hasCarton (zc_ok_st hok) (by omega)]
      simp only [zb_bind_some, zs_same]
      by_cases h3 : g1 (6 * zs_bh M s J z) = 0
      · rw [if_pos (by rw [eb, if_pos h3]), if_pos h3]
        simp only [p_behind (zc_ok_st hok) hl hz, zb_bind_some]
        simp only [p_change (zc_ok_st hok) (show z < 57 by omega), zb_bind_some, zs_same, zs_aa]
        simp (disch := omega) only [zn_al, zn_in, zn_cl, Nat.zero_add]
        rw [if_pos (by omega)]
        have hne : zs_bh M s J z ≠ z := by unfold zs_bh; split <;> omega
        refine ⟨_, rfl, ?_⟩
        rw [ec, upd_comm (show z ≠ zs_bh M s J z from Ne.symm hne)]
        exact zr_c (zr_c r1 (by omega) hb) (by omega) hz
      · rw [if_neg (by rw [eb, if_neg h3]; decide), if_neg h3]
        refine ⟨upd f1 48 (f1 48 ||| ((1 : Int32) <<< (nI z &&& 31))), ?_, ?_⟩
        · simp [zb_in, zs_aa]
        · exact zr_j (on := true) r1 (by omega) hz (by decide) (zr_or1 (by omega))
theorem zs_mv_congr {go go' : Nat → Bool} {lo : Nat} : ∀ (n : Nat) (x : zs_X), (∀ k, lo ≤ k → k < lo + n → go k = go' k) → zs_mv M s J go lo n x = zs_mv M s J go' lo n x := by
  intro n
  induction n with
  | zero => intros; rfl
  | succ n ih =>
    intro x h
    simp only [zs_mv]
    rw [ih _ (fun k h1 h2 => h k h1 (by omega))]
    congr 1
    unfold zs_mv1
    rw [h (lo + n) (by omega) (by omega)]
theorem p_moveThose {go : Int32} {f g : Nat → Int32} (hok : zc_ok b M s J S) (hl : zc_lim M s J) (hN : 20 ≤ N) (hf : zb_a S (b + 1) = f) (hr : zr_Rel (M + s) f g) : ∃ f', fX1_moveThose N b S go = some ((), zs_a (zb_pi S b 5 (zs_mv M s J (bt go) M s (zs_mv M s J (bt go) 0 M (g, 0))).2) (b + 1) f') ∧ zr_Rel (M + s) f' (zs_mv M s J (bt go) M s (zs_mv M s J (bt go) 0 M (g, 0))).1 := by
  obtain ⟨l1, l2, l3, l4, l5⟩ := id hl
  have side : ∀ (r n : Nat) (f g : Nat → Int32) (w : Int32), r ≤ s → r < n → zr_Rel (M + s) f g → ∃ f', fX1_moveThose_42 N b n (zs_a (zb_pi S b 5 w) (b + 1) f) go (nI (M + r) - 1) = some ((), zs_a (zb_pi S b 5 (zs_mv M s J (bt go) M r (g, w)).2) (b + 1) f') ∧ zr_Rel (M + s) f' (zs_mv M s J (bt go) M r (g, w)).1 := by
    intro r
    induction r with
    | zero =>
      intro n f g w hr hn hrel
      obtain ⟨n, rfl⟩ : ∃ q, n = q + 1 := ⟨n - 1, by omega⟩
      refine ⟨f, ?_, hrel⟩
      simp only [fX1_moveThose_42, fX1_moveThose_42b, (zc_ok_st hok).2.1]
      rw [zn_sub1 (by omega), if_pos (by rw [zn_lt (by omega) (by omega)]; omega)]
      rfl
    | succ r ih =>
      intro n f g w hr hn hrel
      obtain ⟨n, rfl⟩ : ∃ q, n = q + 1 := ⟨n - 1, by omega⟩
      have e1 : nI (M + (r + 1)) - 1 = nI (M + r) := zn_s1 (M + r)
      simp only [fX1_moveThose_42, fX1_moveThose_42b, fX1_moveThose_63, (zc_ok_st hok).2.1, e1, zb_let, zn_am1]
      rw [if_neg (by rw [zn_lt (by omega) (by omega)]; omega), p_in (by omega)]
      simp only [zb_bind_some, zs_mv]
      unfold zs_mv1
      by_cases h : bt go (M + r) = true
      · obtain ⟨f1, q1, q2⟩ := p_handOn (N := N) (w := w) hok hl (show M + r < M + s by omega) hrel
        rw [if_neg (by simp [h]), q1]
        simp only [zb_bind_some, h, if_true]
        exact ih n f1 _ _ (by omega) (by omega) q2
      · rw [if_pos (by simp [h])]
        simp only [h]
        exact ih n f g w (by omega) (by omega) hrel
  have main : ∀ (r n : Nat) (f g : Nat → Int32) (w : Int32), r ≤ M → r < n → zr_Rel (M + s) f g → ∃ f', fX1_moveThose_12 N b n (zs_a (zb_pi S b 5 w) (b + 1) f) go (nI r - 1) = some ((), zs_a (zb_pi S b 5 (zs_mv M s J (bt go) M s (zs_mv M s J (bt go) 0 r (g, w))).2) (b + 1) f') ∧ zr_Rel (M + s) f' (zs_mv M s J (bt go) M s (zs_mv M s J (bt go) 0 r (g, w))).1 := by
    intro r
    induction r with
    | zero =>
      intro n f g w hr hn hrel
      obtain ⟨n, rfl⟩ : ∃ q, n = q + 1 := ⟨n - 1, by omega⟩
      simp only [fX1_moveThose_12, fX1_moveThose_12b, zb_let]
      rw [if_pos zn_neg1, (zc_ok_st hok).2.2.2.1]
      exact side s N f g w (Nat.le_refl _) (by omega) hrel
    | succ r ih =>
      intro n f g w hr hn hrel
      obtain ⟨n, rfl⟩ : ∃ q, n = q + 1 := ⟨n - 1, by omega⟩
      simp only [fX1_moveThose_12, fX1_moveThose_12b, fX1_moveThose_29, zn_s1, zb_let, zn_am1]
      rw [if_neg (by rw [zn_lt0 (by omega)]; exact fun h => h), p_in (by omega)]
      simp only [zb_bind_some, zs_mv]
      unfold zs_mv1
      rw [Nat.zero_add]
      by_cases h : bt go r = true
      · obtain ⟨f1, q1, q2⟩ := p_handOn (N := N) (w := w) hok hl (show r < M + s by omega) hrel
        rw [if_neg (by simp [h]), q1]
        simp only [zb_bind_some, h, if_true]
        exact ih n f1 _ _ (by omega) (by omega) q2
      · rw [if_pos (by simp [h])]
        simp only [h]
        exact ih n f g w (by omega) (by omega) hrel
  have e0 : zb_pi S b 5 0 = zs_a (zb_pi S b 5 0) (b + 1) f := by
    rw [← hf, ← zs_pi_a S b 5 0 (b + 1), zs_id]
  unfold fX1_moveThose fX1_moveThose_0
  simp only [zb_let]
  rw [e0, (zc_ok_st hok).2.1]
  exact main M N f g 0 (Nat.le_refl _) (by omega) hr
theorem p_feedersOf {z : Nat} (hok : zc_ok b M s J S) (hl : zc_lim M s J) (hz : z < M + s) : ∃ m, fX1_feedersOf N b S (nI z) = some (m, S) ∧ ∀ k, k < 32 → bt m k = ((!decide (z = 0) && !decide (z = M) && decide (k = z - 1)) || (decide (z = J) && decide (0 < s) && decide (k = M + s - 1))) := by
  obtain ⟨l1, l2, l3, l4, l5⟩ := id hl
  have key : ∀ m0 : Int32, ∃ m, fX1_feedersOf_21 N b S (nI z) m0 = some (m, S) ∧ ∀ k, k < 32 → bt m k = (bt m0 k || (decide (z = J) && decide (0 < s) && decide (k = M + s - 1))) := by
    intro m0
    unfold fX1_feedersOf_21
    rw [hok.2.2.2.2, hok.2.2.1, hok.2.2.2.1]
    by_cases h1 : z = J
    · rw [if_pos (by rw [h1])]
      by_cases h2 : 0 < s
      · rw [if_neg (by rw [zn_le0 (by omega)]; omega), zn_sub1 (by omega)]
        exact ⟨_, rfl, fun k hk => by rw [b_or, zb_one (by omega) hk]; simp [h1, h2]⟩
      · rw [if_pos (by rw [zn_le0 (by omega)]; omega)]
        exact ⟨_, rfl, fun k hk => by simp [h2]⟩
    · rw [if_neg (by rw [zn_eq (by omega) (by omega)]; exact h1)]
      exact ⟨_, rfl, fun k hk => by simp [h1]⟩
  unfold fX1_feedersOf fX1_feedersOf_0 fX1_feedersOf_12
  rw [hok.2.1]
  by_cases h1 : z = 0
  · rw [if_pos (by rw [zn_eq0 (by omega)]; exact h1)]
    obtain ⟨m, e1, e2⟩ := key 0
    exact ⟨m, e1, fun k hk => by rw [e2 k hk, b_0]; simp [h1]⟩
  · rw [if_neg (by rw [zn_eq0 (by omega)]; exact h1)]
    by_cases h2 : z = M
    · rw [if_pos (by rw [h2])]
      obtain ⟨m, e1, e2⟩ := key 0
      exact ⟨m, e1, fun k hk => by rw [e2 k hk, b_0]; simp [h2]⟩
    · rw [if_neg (by rw [zn_eq (by omega) (by omega)]; exact h2), zn_sub1 (by omega)]
      obtain ⟨m, e1, e2⟩ := key ((1 : Int32) <<< (nI (z - 1) &&& 31))
      exact ⟨m, e1, fun k hk => by rw [e2 k hk, zb_one (by omega) hk]; simp [h1, h2]⟩
theorem zb_and0 {x y : Int32} : x &&& y = 0 ↔ ∀ k, k < 32 → (bt x k && bt y k) = false := by
  constructor
  · intro h k hk
    rw [← b_and, h, b_0]
  · intro h
    apply b_ext
    intro k hk
    rw [b_and, h k hk, b_0]
theorem p_tellIdle {g : Nat → Int32} (hok : zc_ok b M s J S) (hl : zc_lim M s J) (hN : 20 ≤ N) (hr : zr_Rel (M + s) (zb_a S (b + 1)) g) : ∃ f', fX1_tellIdle N b S = some ((), zs_a S (b + 1) f') ∧ zr_Rel (M + s) f' (zs_idl (zs_any M s J g) (M + s) g) := by
  have hs := (zk_X1_4 hok.1).2.2
  obtain ⟨l1, l2, l3, l4, l5⟩ := id hl
  obtain ⟨m, e1, e2⟩ := p_seeing (N := N) hok hl hN
  have hany : ∀ z r, z < M + s → (∀ k, k < 32 → bt r k = ((!decide (z = 0) && !decide (z = M) && decide (k = z - 1)) || (decide (z = J) && decide (0 < s) && decide (k = M + s - 1)))) → ((m &&& (((1 : Int32) <<< (nI z &&& 31)) ||| r)) = 0 ↔ ¬ zs_any M s J g z = true) := by
    intro z r hz hrr
    have hm : ∀ k, k < M + s → bt m k = zs_see g k := by
      intro k hk
      rw [e2 k (by omega), zf_see_rel hr hk]; simp [hk]
    rw [zb_and0]
    unfold zs_any zs_fd
    constructor
    · intro h q
      simp only [Bool.or_eq_true, Bool.and_eq_true, Bool.not_eq_true', decide_eq_false_iff_not, decide_eq_true_eq] at q
      rcases q with q | ⟨⟨q1, q2⟩, q3⟩ | ⟨⟨q1, q2⟩, q3⟩
      · have := h z (by omega)
        rw [b_or, zb_one (by omega) (by omega), hm z hz, q] at this
        simp at this
      · have := h (z - 1) (by omega)
        rw [b_or, hrr (z - 1) (by omega), hm (z - 1) (by omega), q3] at this
        simp [q1, q2] at this
      · have := h (M + s - 1) (by omega)
        rw [b_or, hrr (M + s - 1) (by omega), hm (M + s - 1) (by omega), q3] at this
        simp [q1, q2] at this
    · intro h k hk
      rw [b_or, zb_one (by omega) hk, hrr k hk]
      simp only [Bool.or_eq_true, Bool.and_eq_true, Bool.not_eq_true', decide_eq_false_iff_not, decide_eq_true_eq, not_or, not_and] at h
      by_cases c1 : k = z
      · subst c1
        rw [hm k hz]
        have := h.1
        simp [this]
      · by_cases c2 : bt m k = true
        · have hk2 : k < M + s := by
            rw [e2 k hk] at c2; simp at c2; exact c2.1
          rw [hm k hk2] at c2 ⊢
          simp only [c2, c1, decide_false, Bool.false_or, Bool.true_and, Bool.or_eq_false_iff]
          constructor
          · by_cases d1 : z = 0
            · simp [d1]
            · by_cases d2 : z = M
              · simp [d2]
              · have := h.2.1 ⟨d1, d2⟩
                by_cases d3 : k = z - 1
                · rw [← d3] at this; exact absurd c2 this
                · simp [d3]
          · by_cases d1 : z = J
            · by_cases d2 : 0 < s
              · have := h.2.2 ⟨d1, d2⟩
                by_cases d3 : k = M + s - 1
                · rw [← d3] at this; exact absurd c2 this
                · simp [d3]
              · simp [d2]
            · simp [d1]
        · simp [c2]
  have loop : ∀ (j n i : Nat) (f : Nat → Int32), i + j = M + s → j < n → zr_Rel (M + s) f (zs_idl (zs_any M s J g) i g) → ∃ f', fX1_tellIdle_7 N b n (zs_a S (b + 1) f) m (nI i) = some ((), zs_a S (b + 1) f') ∧ zr_Rel (M + s) f' (zs_idl (zs_any M s J g) (M + s) g) := by
    intro j
    induction j with
    | zero =>
      intro n i f hi hn hrel
      obtain ⟨n, rfl⟩ : ∃ q, n = q + 1 := ⟨n - 1, by omega⟩
      have e : i = M + s := by omega
      subst e
      refine ⟨f, ?_, hrel⟩
      simp only [fX1_tellIdle_7, fX1_tellIdle_7b, zs_i, hok.2.2.2.1]
      rw [if_pos (Int32.le_refl _)]
    | succ j ih =>
      intro n i f hi hn hrel
      obtain ⟨n, rfl⟩ : ∃ q, n = q + 1 := ⟨n - 1, by omega⟩
      obtain ⟨r, q1, q2⟩ := p_feedersOf (N := N) (S := zs_a S (b + 1) f) hok hl (show i < M + s by omega)
      simp only [fX1_tellIdle_7, fX1_tellIdle_7b, fX1_tellIdle_97, zs_i, hok.2.2.2.1, zb_let]
      rw [if_neg (by rw [zn_le (by omega) (by omega)]; omega), q1]
      simp only [zb_bind_some, zn_al, zn_ar, hs, zs_pa, zs_same, zs_aa]
      have ecl : Int32.toNatClampNeg (nI (24 + i)) = 24 + i := zn_cl (by omega)
      simp only [ecl]
      simp only [show ∀ o1 o2 : Option (Unit × zb_S), (if zb_in (nI (24 + i)) 57 then o1 else o2) = o1 from fun o1 o2 => if_pos ((zn_in (by omega)).mpr (by omega))]
      have ei : f (24 + i) = zs_idl (zs_any M s J g) i g (6 * i + 4) := (hrel.1 i (by omega)).2.2.1
      have er : f 52 = zs_idl (zs_any M s J g) i g 74 := hrel.2.2.2 2 (by omega)
      by_cases h : zs_any M s J g i = true
      · rw [if_neg (by rw [hany i r (by omega) q2]; simp [h])]
        refine ih n (i + 1) _ (by omega) (by omega) ?_
        simp only [zs_idl]
        unfold zs_id1
        rw [if_pos h]
        exact zr_i hrel (by omega) (by omega)
      · rw [if_pos (by rw [hany i r (by omega) q2]; exact h)]
        rw [if_pos (show zb_in 52 57 by decide), if_pos (show zb_in 52 57 by decide), if_pos (show zb_in 49 57 by decide), if_pos (show zb_in 49 57 by decide)]
        have e52 : upd f (24 + i) (f (24 + i) + 1) (Int32.toNatClampNeg 52) = zs_idl (zs_any M s J g) i g 74 := by
          rw [show Int32.toNatClampNeg 52 = 52 from by decide, upd_n (by omega), er]
        rw [e52, upd_s, ei]
        by_cases c1 : zs_idl (zs_any M s J g) i g 74 ≤ 0
        · rw [if_pos c1]
          refine ih n (i + 1) _ (by omega) (by omega) ?_
          simp only [zs_idl]
          unfold zs_id1
          rw [if_neg h, if_neg (fun q => q.1 c1)]
          exact zr_i hrel (by omega) (by omega)
        · rw [if_neg c1]
          by_cases c2 : zs_idl (zs_any M s J g) i g (6 * i + 4) + 1 < zs_idl (zs_any M s J g) i g 74
          · rw [if_pos c2]
            refine ih n (i + 1) _ (by omega) (by omega) ?_
            simp only [zs_idl]
            unfold zs_id1
            rw [if_neg h, if_neg (fun q => q.2 c2)]
            exact zr_i hrel (by omega) (by omega)
          · rw [if_neg c2]
            refine ih n (i + 1) _ (by omega) (by omega) ?_
            simp only [zs_idl]
            unfold zs_id1
            rw [if_neg h, if_pos ⟨c1, c2⟩]
            refine zr_s (on := true) (zr_i hrel (by omega) (by omega)) (by omega) (by omega) (by decide) ?_
            exact zr_or1 (by omega)
  unfold fX1_tellIdle fX1_tellIdle_0
  rw [e1]
  simp only [zb_bind_some]
  have e0 : fX1_tellIdle_7 N b N S m 0 = fX1_tellIdle_7 N b N (zs_a S (b + 1) (zb_a S (b + 1))) m (nI 0) := by rw [zs_id]; rfl
  rw [e0]
  exact loop (M + s) N 0 _ (by omega) (by omega) hr
end CS
