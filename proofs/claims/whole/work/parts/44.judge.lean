section JD
variable {M s J tl na nx ns N b r : Nat} {S T S' S'' : zb_S} {f f' g g' : Nat → Int32}
/-! what is tried out of the class's, told whole -/
def zc_t (S : zb_S) (w : Int32) (f : Nat → Int32) : zb_S := zs_a (zb_pi S 5 5 w) 6 f
theorem zc_t_a : zs_a S 6 f = zc_t S (zb_i S 5 5) f := by unfold zc_t; rw [zs_pid]
theorem zc_t_id : zc_t S (zb_i S 5 5) (zb_a S 6) = S := by rw [← zc_t_a, zs_id]
theorem zc_t_t {w w' : Int32} : zc_t (zc_t S w f) w' f' = zc_t S w' f' := by
  unfold zc_t; rw [zs_api, zs_aa, zs_pipi]
theorem zc_t_zt {w : Int32} : zt S (zc_t S w f) := zt_pi5.tr zt_a6
theorem zc_t_6 {w : Int32} : zb_a (zc_t S w f) 6 = f := zs_same _ _ _
theorem zc_t_o {w : Int32} {o : Nat} (h : o ≠ 6) : zb_a (zc_t S w f) o = zb_a S o := zs_ne h
theorem zc_t_ok {w : Int32} (h : zc_ok 5 M s J S) : zc_ok 5 M s J (zc_t S w f) := zc_ok_st h
theorem p_adv1 (hok : zc_ok 5 M s J S) (hl : zc_lim M s J) (hN : 5000 ≤ N) (hr : zr_Rel (M + s) (zb_a S 6) g) : ∃ w f, fX1_advanceOnce N 5 S = some ((), zc_t S w f) ∧ zr_Rel (M + s) f (zs_step M s J g).1 := by
  obtain ⟨f1, e1, e2⟩ := p_advanceOnce (N := N) (b := 5) hok hl (by omega) hr
  exact ⟨_, f1, e1, e2⟩
theorem p_advs {k : Nat} (hok : zc_ok 5 M s J S) (hl : zc_lim M s J) (hN : 5000 ≤ N) (hk : k ≤ 99) (hr : zr_Rel (M + s) (zb_a S 6) g) : ∃ w f, fX1_advance N 5 S (nI k) = some ((), zc_t S w f) ∧ zr_Rel (M + s) f (zs_steps M s J k g) := by
  obtain ⟨f1, w1, e1, e2⟩ := p_advance (N := N) (b := 5) (f := zb_a S 6) (w := zb_i S 5 5) hok hl (by omega) hk hr
  rw [zs_pid, show zs_a S (5 + 1) (zb_a S 6) = S from zs_id S 6] at e1
  exact ⟨w1, f1, e1, e2⟩
theorem p_hz {a : Nat} (hok : zc_ok b M s J S) (hl : zc_lim M s J) (ha : a < 100) : fX1_hasZone N b S (nI a) = some (if a < M + s then 1 else 0, S) := by
  obtain ⟨l1, l2, l3, l4, l5⟩ := id hl
  rcases p_hasZone (N := N) (a := nI a) hok hl with ⟨z, h1, h2, h3⟩ | ⟨h2, h3⟩
  · have : a = z := (zn_eq (by omega) (by omega)).mp h2
    rw [h3, if_pos (by omega)]
  · rw [h3, if_neg (fun h => h2 a h rfl)]
theorem m_nz {a : Nat} (hok : zm_ok r M s J S) (hl : zc_lim M s J) (ha : a < 100) : fX6_noZone N S (nI a) = some (if a < M + s then 0 else 1, S) := by
  obtain ⟨l1, l2, l3, l4, l5⟩ := id hl
  by_cases h : a < M + s
  · rw [(m_noZone (N := N) hok hl).1 ⟨a, h, rfl⟩, if_pos h]
  · rw [(m_noZone (N := N) hok hl).2 (fun z hz e => h (by rw [(zn_eq (by omega) (by omega)).mp e]; exact hz)), if_neg h]
theorem zb_r0 : (if (0 : Int32) = 0 ∨ (0 : Int32) = 1 then some ((0 : Int32), S) else none) = some (0, S) := if_pos (Or.inl rfl)
theorem zb_r1 : (if (1 : Int32) = 0 ∨ (1 : Int32) = 1 then some ((1 : Int32), S) else none) = some (1, S) := if_pos (Or.inr rfl)
theorem zn_n100 : ((100 : Nat) = 0) = False := by decide
theorem zn_n10 : ((10 : Nat) = 0) = False := by decide
def zs_do (M s J h a b : Nat) (g : Nat → Int32) : Bool × (Nat → Int32) :=
  if h = 1 then (!decide (10 * a + b = 0), zs_steps M s J (10 * a + b) g)
  else if h = 2 then (if a = 0 then (decide ((nI b = 0 ∨ (nI b = 1 ∧ 0 < s)) ∧ g (6 * zs_en M (nI b)) = 0 ∧ ¬ 99 ≤ g 76), zs_fdd M s (nI b) g) else (false, g))
  else if h = 3 then (if a = 0 ∧ b < M + s ∧ ¬ g (6 * b) = 0 then (true, upd (upd g (6 * b + 2) 0) (6 * b) 0) else (false, g))
  else if h = 4 then (if a = 0 ∧ b = 0 then (true, upd g 72 (1 - g 72)) else (false, g))
  else if h = 5 then (if a < M + s ∧ b ≤ 2 then (true, upd g (6 * a + 1) (nI b)) else (false, g))
  else if h = 6 then (decide (a < M + s ∧ b = if g (6 * a) = 0 then 0 else 1), g)
  else if h = 7 then (decide (g 77 = nI (10 * a + b)), g)
  else if h = 8 then (decide (a < M + s ∧ b = if g (6 * a + 2) = 1 then 1 else 0), g)
  else (false, g)
theorem zr_wf_do {h a b : Nat} (hl : zc_lim M s J) (ha : a < 10) (hb : b < 10) (hw : zr_wf (M + s) g) : zr_wf (M + s) (zs_do M s J h a b g).2 := by
  obtain ⟨l1, l2, l3, l4, l5⟩ := id hl
  unfold zs_do
  split
  · exact zr_wf_steps hl _ _ hw
  split
  · split
    · exact zr_wf_fdd hl hw
    · exact hw
  split
  · split
    · exact zr_wf_upd (zr_wf_upd hw (by omega) (by omega) (by omega) (fun _ => Or.inl rfl) (by omega) (by omega)) (by omega) (fun _ => by decide) (by omega) (by omega) (by omega) (by omega)
    · exact hw
  split
  · split
    · refine zr_wf_72 hw (by omega) ?_
      rcases hw.2.1 with e | e <;> rw [e] <;> decide
    · exact hw
  split
  · split
    · rename_i h5 hc
      refine zr_wf_upd hw (by omega) (by omega) (fun _ => ?_) (by omega) (by omega) (by omega)
      have : b = 0 ∨ b = 1 ∨ b = 2 := by omega
      rcases this with e | e | e <;> subst e
      · exact Or.inl rfl
      · exact Or.inr (Or.inl rfl)
      · exact Or.inr (Or.inr rfl)
    · exact hw
  split
  · exact hw
  split
  · exact hw
  split
  · exact hw
  · exact hw
theorem p_do {d : Nat} (hd : d < 1000) (hok : zc_ok 5 M s J S) (hl : zc_lim M s J) (hN : 5000 ≤ N) (hr : zr_Rel (M + s) (zb_a S 6) g) (hw : zr_wf (M + s) g) : ∃ w f, fX5_holds N 5 S (nI d) = some (if (zs_do M s J (d / 100) (d / 10 % 10) (d % 10) g).1 = true then 1 else 0, zc_t S w f) ∧ zr_Rel (M + s) f (zs_do M s J (d / 100) (d / 10 % 10) (d % 10) g).2 := by
  obtain ⟨l1, l2, l3, l4, l5⟩ := id hl
  have hs := (zk_X1_4 hok.1).2.2
  have e1 : nI d / 100 = nI (d / 100) := pk_div (d := 100) (by omega) (by omega) (by omega)
  have e0 : nI d / 10 = nI (d / 10) := pk_div (d := 10) (by omega) (by omega) (by omega)
  have e2 : nI (d / 10) - nI (d / 10) / 10 * 10 = nI (d / 10 % 10) := pk_rem (d := 10) (by omega) (by omega) (by omega)
  have e3 : nI d - nI (d / 10) * 10 = nI (d % 10) := by rw [← e0]; exact pk_rem (d := 10) (by omega) (by omega) (by omega)
  have e4 : nI d - nI (d / 100) * 100 = nI (10 * (d / 10 % 10) + d % 10) := by
    rw [← e1, show 10 * (d / 10 % 10) + d % 10 = d % 100 by omega]; exact pk_rem (d := 100) (by omega) (by omega) (by omega)
  unfold fX5_holds fX5_holds_0
  simp only [zb_let, zn_n100, zn_n10, if_false, e0, e1, e2, e3, e4, true_or, or_true, if_true]
  have hh : d / 100 < 10 := by omega
  have ha : d / 10 % 10 < 10 := by omega
  have hb : d % 10 < 10 := by omega
  generalize d / 100 = h at *
  generalize d / 10 % 10 = a at *
  generalize d % 10 = c at *
  have q : ∀ k, k < 10 → ((nI h = nI k) = (h = k)) := fun k hk => propext (zn_eq (by omega) (by omega))
  have q1 : (nI h = 1) = (h = 1) := q 1 (by omega)
  have q2 : (nI h = 2) = (h = 2) := q 2 (by omega)
  have q3 : (nI h = 3) = (h = 3) := q 3 (by omega)
  have q4 : (nI h = 4) = (h = 4) := q 4 (by omega)
  have q5 : (nI h = 5) = (h = 5) := q 5 (by omega)
  have q6 : (nI h = 6) = (h = 6) := q 6 (by omega)
  have q7 : (nI h = 7) = (h = 7) := q 7 (by omega)
  have q8 : (nI h = 8) = (h = 8) := q 8 (by omega)
  have qa : (nI a = 0) = (a = 0) := propext (zn_eq0 (by omega))
  have idl : zr_Rel (M + s) (zb_a S 6) g := hr
  simp only [q1, q2, q3, q4, q5, q6, q7, q8, qa]
  unfold zs_do
  by_cases c1 : h = 1
  · simp only [if_pos c1]
    obtain ⟨w, f, x1, x2⟩ := p_advs (N := N) (k := 10 * a + c) hok hl hN (by omega) hr
    refine ⟨w, f, ?_, x2⟩
    rw [x1]
    simp only [zb_bind_some, zn_le0 (show 10 * a + c < 2147483648 by omega)]
    by_cases z : 10 * a + c = 0
    · rw [if_pos z, if_neg (by simp [z])]
    · rw [if_neg z, if_pos (by simp only [z]; rfl)]
  simp only [if_neg c1]
  by_cases c2 : h = 2
  · simp only [if_pos c2]
    by_cases z : a = 0
    · simp only [if_pos z, fX5_feedTold, fX5_feedTold_0, p_canFeed hok hl hr, zb_bind_some, true_or, or_true, if_true]
      by_cases v : (nI c = 0 ∨ (nI c = 1 ∧ 0 < s)) ∧ g (6 * zs_en M (nI c)) = 0 ∧ ¬ 99 ≤ g 76
      · have he := zs_en_lt hl v.1
        have e54 : zb_a S 6 54 = g 76 := hr.2.2.2 4 (by omega)
        refine ⟨zb_i S 5 5, upd (upd (zb_a S 6) 54 (g 76 + 1)) (zs_en M (nI c)) (g 76 + 1), ?_, ?_⟩
        · rw [if_pos v, if_neg (by decide), p_entryOf hok]
          simp only [zb_bind_some]
          rw [p_putNext (b := 5) (q := g 76 + 1) hok (by omega) (by rw [show zb_a S (5 + 1) 54 = g 76 from e54])]
          simp only [zb_bind_some]
          rw [← zc_t_a]
          simp [v, zb_bind_some]
        · unfold zs_fdd
          rw [if_pos v]
          exact zr_c (zr_g (j := 4) hr (by omega) (by omega)) (by omega) he
      · refine ⟨zb_i S 5 5, zb_a S 6, ?_, ?_⟩
        · rw [if_neg v, zc_t_id, if_neg (show ¬ decide ((nI c = 0 ∨ nI c = 1 ∧ 0 < s) ∧ g (6 * zs_en M (nI c)) = 0 ∧ ¬99 ≤ g 76) = true from fun q => v (of_decide_eq_true q))]; simp [zb_bind_some]
        · unfold zs_fdd; rw [if_neg v]; exact hr
    · refine ⟨zb_i S 5 5, zb_a S 6, ?_, ?_⟩
      · rw [if_neg z, if_neg z, zc_t_id]; simp [zb_bind_some]
      · rw [if_neg z]; exact hr
  simp only [if_neg c2]
  by_cases c3 : h = 3
  · simp only [if_pos c3]
    by_cases z : a = 0
    · simp only [if_pos z, fX5_liftTold, fX5_liftTold_0, p_hz hok hl (show c < 100 by omega), zb_bind_some, true_or, or_true, if_true]
      by_cases v : c < M + s
      · simp only [if_pos v, p_hasCarton hok (show c < 57 by omega), zb_bind_some]
        rw [(hr.1 c v).1, if_neg (show ¬ (1 : Int32) = 0 by decide)]
        by_cases u : g (6 * c) = 0
        · refine ⟨zb_i S 5 5, zb_a S 6, ?_, ?_⟩
          · simp only [if_pos u]
            rw [zc_t_id]; simp [u, zb_bind_some]
          · simp [u]; exact hr
        · refine ⟨zb_i S 5 5, upd (upd (zb_a S 6) 48 (zb_a S 6 48 &&& (((1 : Int32) <<< (nI c &&& 31)) ^^^ (-1)))) c 0, ?_, ?_⟩
          · simp only [if_neg u]
            rw [if_neg (show ¬ (1 : Int32) = 0 by decide)]
            simp only [fX1_takeAway, fX1_takeAway_0, fX1_freeJam, fX1_freeJam_0, zb_let]
            rw [if_pos (show zb_in 48 (zb_sz (5 + 1)) by decide), if_pos (show zb_in 48 (zb_sz (5 + 1)) by decide), zb_bind_some, zs_pa]
            rw [show (0 : Int32) + nI c = nI c from by rw [zn_al, Nat.zero_add], p_change (S := zs_a S (5 + 1) _) hok (by omega), zs_same, zs_aa, zb_bind_some]
            rw [← zc_t_a]
            simp [z, v, u, zb_bind_some]
          · rw [if_pos ⟨z, v, u⟩]
            exact zr_c (zr_j (on := false) hr (by omega) v (by decide) (zr_an1 (by omega))) (by omega) v
      · refine ⟨zb_i S 5 5, zb_a S 6, ?_, ?_⟩
        · simp only [if_neg v]
          rw [zc_t_id]; simp [v, zb_bind_some]
        · simp [v]; exact hr
    · refine ⟨zb_i S 5 5, zb_a S 6, ?_, ?_⟩
      · rw [if_neg z, zc_t_id]; simp [z, zb_bind_some]
      · rw [if_neg (fun x => z x.1)]; exact hr
  simp only [if_neg c3]
  by_cases c4 : h = 4
  · simp only [if_pos c4]
    by_cases z : a = 0
    · have qc : (nI c = 0) = (c = 0) := propext (zn_eq0 (by omega))
      simp only [if_pos z, fX5_turnTold, fX5_turnTold_0, qc, true_or, or_true, if_true]
      by_cases v : c = 0
      · refine ⟨zb_i S 5 5, upd (zb_a S 6) 50 (1 - g 72), ?_, ?_⟩
        · simp only [if_pos v, fX1_turnExit, fX1_turnExit_0, zb_let]
          rw [if_pos (show zb_in 50 (zb_sz (5 + 1)) by decide), if_pos (show zb_in 50 (zb_sz (5 + 1)) by decide), if_pos (show zb_in 50 (zb_sz (5 + 1)) by decide), zb_bind_some, zb_bind_some, zs_pa, show Int32.toNatClampNeg 50 = 50 from by decide]
          rw [show zb_a S (5 + 1) 50 = g 72 from hr.2.2.2 0 (by omega), ← zc_t_a]
          simp [z, v, zb_bind_some]
        · rw [if_pos ⟨z, v⟩]
          exact zr_g (j := 0) hr (by omega) (by omega)
      · refine ⟨zb_i S 5 5, zb_a S 6, ?_, ?_⟩
        · simp only [if_neg v, zb_bind_some]
          rw [zc_t_id]; simp [v, zb_bind_some]
        · simp [v]; exact hr
    · refine ⟨zb_i S 5 5, zb_a S 6, ?_, ?_⟩
      · rw [if_neg z, zc_t_id]; simp [z, zb_bind_some]
      · rw [if_neg (fun x => z x.1)]; exact hr
  simp only [if_neg c4]
  by_cases c5 : h = 5
  · simp only [if_pos c5, fX5_eyeTold, fX5_eyeTold_0, p_hz hok hl (show a < 100 by omega), zb_bind_some, true_or, or_true, if_true]
    by_cases v : a < M + s
    · have e2' : (2 : Int32) < nI c ↔ 2 < c := zn_lt (a := 2) (by omega) (by omega)
      simp only [if_pos v, fX1_isEye, fX1_isEye_0, true_or, or_true, if_true, zn_lt0 (show c < 2147483648 by omega), e2']
      rw [if_neg (show ¬ (1 : Int32) = 0 by decide)]
      by_cases u : c ≤ 2
      · refine ⟨zb_i S 5 5, upd (zb_a S 6) (12 + a) (nI c), ?_, ?_⟩
        · rw [if_neg (fun x => x), if_neg (by omega)]
          simp only [zb_bind_some]
          rw [if_neg (show ¬ (1 : Int32) = 0 by decide), show (12 : Int32) + nI a = nI (12 + a) from nI_add 12 a, hs, if_pos ((zn_in (by omega)).mpr (by omega)), zn_cl (by omega), zs_pa, ← zc_t_a]
          simp [v, u, zb_bind_some, zb_let]
        · rw [if_pos ⟨v, u⟩]
          exact zr_e hr (by omega) v
      · refine ⟨zb_i S 5 5, zb_a S 6, ?_, ?_⟩
        · rw [if_neg (fun x => x), if_pos (by omega)]
          simp only [zb_bind_some, true_or, or_true, if_true]
          rw [zc_t_id]; simp [u, zb_bind_some]
        · rw [if_neg (fun x => u x.2)]; exact hr
    · refine ⟨zb_i S 5 5, zb_a S 6, ?_, ?_⟩
      · simp only [if_neg v, zb_bind_some, true_or, or_true, if_true]
        rw [zc_t_id]; simp [v, zb_bind_some]
      · rw [if_neg (fun x => v x.1)]; exact hr
  simp only [if_neg c5]
  refine ⟨zb_i S 5 5, zb_a S 6, ?_, ?_⟩
  rotate_left
  · by_cases c6 : h = 6
    · rw [if_pos c6]; exact hr
    · rw [if_neg c6]
      by_cases c7 : h = 7
      · rw [if_pos c7]; exact hr
      · rw [if_neg c7]
        by_cases c8 : h = 8
        · rw [if_pos c8]; exact hr
        · rw [if_neg c8]; exact hr
  rw [zc_t_id]
  by_cases c6 : h = 6
  · have qc0 : (nI c = 0) = (c = 0) := propext (zn_eq0 (by omega))
    have qc1 : (nI c = 1) = (c = 1) := propext (zn_eq (b := 1) (by omega) (by omega))
    simp only [if_pos c6, p_hz hok hl (show a < 100 by omega), zb_bind_some, true_or, or_true, if_true]
    by_cases v : a < M + s
    · simp only [if_pos v, p_hasCarton hok (show a < 57 by omega), zb_bind_some]
      rw [(hr.1 a v).1, if_neg (show ¬ (1 : Int32) = 0 by decide)]
      by_cases u : g (6 * a) = 0
      · simp only [if_pos u, fX5_holds_177, true_or, or_true, if_true, qc0]
        by_cases y : c = 0 <;> simp [v, y, zb_bind_some]
      · simp only [if_neg u, fX5_holds_177, true_or, or_true, if_true, qc1]
        rw [if_neg (show ¬ (1 : Int32) = 0 by decide)]
        by_cases y : c = 1 <;> simp [v, y, zb_bind_some]
    · simp [v, zb_bind_some]
  simp only [if_neg c6]
  by_cases c7 : h = 7
  · simp only [if_pos c7]
    rw [if_pos (show zb_in 55 (zb_sz (5 + 1)) by decide), show Int32.toNatClampNeg 55 = 55 from by decide, show zb_a S (5 + 1) 55 = g 77 from hr.2.2.2 5 (by omega)]
    by_cases y : g 77 = nI (10 * a + c) <;> simp [y, zb_bind_some]
  simp only [if_neg c7]
  by_cases c8 : h = 8
  · have qc0 : (nI c = 0) = (c = 0) := propext (zn_eq0 (by omega))
    have qc1 : (nI c = 1) = (c = 1) := propext (zn_eq (b := 1) (by omega) (by omega))
    simp only [if_pos c8, p_hz hok hl (show a < 100 by omega), zb_bind_some, true_or, or_true, if_true]
    by_cases v : a < M + s
    · have ej : bt (zb_a S (5 + 1) 48) a = decide (g (6 * a + 2) = 1) := by rw [show zb_a S (5 + 1) 48 = zb_a S 6 48 from rfl, hr.2.1 a (by omega)]; simp [v, zb_bind_some]
      simp only [if_pos v, fX1_isJammed, fX1_isJammed_0]
      rw [if_neg (show ¬ (1 : Int32) = 0 by decide), if_pos (show zb_in 48 (zb_sz (5 + 1)) by decide), show Int32.toNatClampNeg 48 = 48 from by decide, p_in (show a < 32 by omega), ej]
      simp only [zb_bind_some]
      by_cases u : g (6 * a + 2) = 1
      · simp only [u, decide_true, if_true, or_true, true_or, zb_bind_some, fX5_holds_229, qc1]
        rw [if_neg (show ¬ (1 : Int32) = 0 by decide)]
        by_cases y : c = 1 <;> simp [v, y, zb_bind_some]
      · simp only [u, decide_false, true_or, or_true, if_false, Bool.false_eq_true, zb_bind_some, fX5_holds_229, true_or, or_true, if_true, qc0, if_true]
        by_cases y : c = 0 <;> simp [v, y, zb_bind_some]
    · simp [v, zb_bind_some]
  simp only [if_neg c8]
  rfl
theorem m_do {h a c : Nat} (hh : h < 10) (ha : a < 10) (hb : c < 10) (hok : zm_ok 25 M s J S) (hl : zc_lim M s J) (hN : 5000 ≤ N) (hg : zb_a S 25 = g) (hw : zr_wf (M + s) g) : ∃ S1, fX6_does N S (nI h) (nI a) (nI c) = some (if (zs_do M s J h a c g).1 = true then 1 else 0, S1) ∧ zt S S1 ∧ zm_ok 25 M s J S1 ∧ zb_a S1 25 = (zs_do M s J h a c g).2 := by
  obtain ⟨l1, l2, l3, l4, l5⟩ := id hl
  have q : ∀ k, k < 10 → ((nI h = nI k) = (h = k)) := fun k hk => propext (zn_eq (by omega) (by omega))
  have q1 : (nI h = 1) = (h = 1) := q 1 (by omega)
  have q2 : (nI h = 2) = (h = 2) := q 2 (by omega)
  have q3 : (nI h = 3) = (h = 3) := q 3 (by omega)
  have q4 : (nI h = 4) = (h = 4) := q 4 (by omega)
  have q5 : (nI h = 5) = (h = 5) := q 5 (by omega)
  have q6 : (nI h = 6) = (h = 6) := q 6 (by omega)
  have q7 : (nI h = 7) = (h = 7) := q 7 (by omega)
  have q8 : (nI h = 8) = (h = 8) := q 8 (by omega)
  have qa : (nI a = 0) = (a = 0) := propext (zn_eq0 (by omega))
  have qc0 : (nI c = 0) = (c = 0) := propext (zn_eq0 (by omega))
  have qc1 : (nI c = 1) = (c = 1) := propext (zn_eq (b := 1) (by omega) (by omega))
  have q2c : ((2 : Int32) ≤ nI c) = (2 ≤ c) := propext (zn_le (a := 2) (by omega) (by omega))
  have qc2 : (nI c ≤ 2) = (c ≤ 2) := propext (zn_le (b := 2) (by omega) (by omega))
  have e4 : nI (10 * a) + nI c = nI (10 * a + c) := nI_add _ _
  have sz : zb_sz 25 = 79 := rfl
  unfold fX6_does fX6_does_0
  simp only [q1, q2, q3, q4, q5, q6, q7, q8, qa, zn_ml, e4, true_or, or_true, if_true]
  unfold zs_do
  by_cases c1 : h = 1
  · simp only [if_pos c1]
    obtain ⟨S1, x1, x2, x3, x4⟩ := m_tsteps (N := N) (k := 10 * a + c) hok hl hN (by omega) hg hw
    refine ⟨S1, ?_, x2, x3, x4⟩
    rw [x1]
    simp only [zb_bind_some, zn_le0 (show 10 * a + c < 2147483648 by omega)]
    by_cases z : 10 * a + c = 0
    · rw [if_pos z, if_neg (by simp [z])]
    · rw [if_neg z, if_pos (by simp only [z]; rfl)]
  simp only [if_neg c1]
  by_cases c2 : h = 2
  · simp only [if_pos c2]
    by_cases z : a = 0
    · simp only [if_pos z, m_noLine hok hl, zb_bind_some]
      by_cases v : nI c = 0 ∨ (nI c = 1 ∧ 0 < s)
      · have he := zs_en_lt hl v
        have c0 : Int32.toNatClampNeg (nI (6 * zs_en M (nI c) + 0)) = 6 * zs_en M (nI c) := zn_cl (by omega)
        have i0 : zb_in (nI (6 * zs_en M (nI c) + 0)) 79 := (zn_in (by omega)).mpr (by omega)
        rw [if_pos v, if_pos rfl, m_entry hok]
        simp only [zb_bind_some, zn_ml, zn_ar, sz, c0, if_pos i0, hg]
        rw [if_pos (show zb_in 76 79 by decide), show Int32.toNatClampNeg 76 = 76 from by decide]
        have g0 : 0 < g (6 * zs_en M (nI c)) ↔ ¬ g (6 * zs_en M (nI c)) = 0 := by
          have := (hw.1 _ he).1
          constructor
          · intro p e; rw [e] at p; exact absurd p (by decide)
          · intro p
            rcases Int32.lt_or_eq_of_le (Int32.not_lt.mp this) with e | e
            · exact e
            · exact absurd e.symm p
        have g76 : g 76 = 99 ↔ 99 ≤ g 76 := by
          obtain ⟨k, k1, k2⟩ := hw.2.2.2.2
          rw [k2, show (99 : Int32) = nI 99 from rfl, zn_le (by omega) (by omega), zn_eq (by omega) (by omega)]; omega
        by_cases u : g (6 * zs_en M (nI c)) = 0
        · rw [if_neg (by rw [g0]; exact fun p => p u)]
          by_cases y : 99 ≤ g 76
          · refine ⟨S, ?_, zt.rf, hok, ?_⟩
            · rw [if_pos (g76.mpr y), if_neg (by simp [y])]
            · unfold zs_fdd; rw [if_neg (fun p => p.2.2 y)]; exact hg
          · rw [if_neg (fun p => y (g76.mp p)), m_feedOn (r := 25) (q := g 76 + 1) hok hl v (by rw [hg])]
            simp only [zb_bind_some]
            refine ⟨_, ?_, zt_a25 (f := upd (upd (zb_a S 25) 76 (g 76 + 1)) (6 * zs_en M (nI c)) (g 76 + 1)) (fun i hi => ?_), hok, ?_⟩
            · rw [if_pos (decide_eq_true ⟨v, u, y⟩)]
            · rw [upd_n (by omega), upd_n (by omega)]
            · rw [zs_same, hg]; unfold zs_fdd; rw [if_pos ⟨v, u, y⟩]
        · refine ⟨S, ?_, zt.rf, hok, ?_⟩
          · rw [if_pos (g0.mpr u), if_neg (by simp [u])]
          · unfold zs_fdd; rw [if_neg (fun p => u p.2.1)]; exact hg
      · refine ⟨S, ?_, zt.rf, hok, ?_⟩
        · rw [if_neg v, if_neg (by decide), if_neg (show ¬ decide ((nI c = 0 ∨ nI c = 1 ∧ 0 < s) ∧ g (6 * zs_en M (nI c)) = 0 ∧ ¬99 ≤ g 76) = true from fun q => v (of_decide_eq_true q).1)]
        · unfold zs_fdd; rw [if_neg (fun p => v p.1)]; exact hg
    · refine ⟨S, ?_, zt.rf, hok, ?_⟩
      · simp [z]
      · simp [z, hg]
  simp only [if_neg c2]
  by_cases c3 : h = 3
  · simp only [if_pos c3]
    by_cases z : a = 0
    · simp only [if_pos z, m_nz hok hl (show c < 100 by omega), zb_bind_some]
      by_cases v : c < M + s
      · have c0 : Int32.toNatClampNeg (nI (6 * c + 0)) = 6 * c := zn_cl (by omega)
        have i0 : zb_in (nI (6 * c + 0)) 79 := (zn_in (by omega)).mpr (by omega)
        have c2' : Int32.toNatClampNeg (nI (6 * c + 2)) = 6 * c + 2 := zn_cl (by omega)
        have i2 : zb_in (nI (6 * c + 2)) 79 := (zn_in (by omega)).mpr (by omega)
        have g0 : g (6 * c) ≤ 0 ↔ g (6 * c) = 0 := by
          have := (hw.1 _ v).1
          constructor
          · intro p
            exact Int32.le_antisymm p (Int32.not_lt.mp this)
          · intro p; rw [p]; decide
        simp only [if_pos v, if_true, zn_ar, sz, c0, if_pos i0, hg]
        by_cases u : g (6 * c) = 0
        · refine ⟨S, ?_, zt.rf, hok, ?_⟩
          · rw [if_pos (g0.mpr u)]; simp [u]
          · simp [u, hg]
        · refine ⟨_, ?_, zt_a25 (f := upd (upd g (6 * c + 2) 0) (6 * c) 0) (fun i hi => ?_), hok, ?_⟩
          · rw [if_neg (fun p => u (g0.mp p))]
            simp only [zb_bind_some, fX6_liftOn, fX6_liftOn_0, zb_let, zn_ml, zn_ar, sz, c0, c2', if_pos i0, if_pos i2, hg]
            rw [if_neg (fun p => u (g0.mp p))]
            simp only [zs_pa, zs_same, zs_aa, hg]
            rw [upd_comm (show 6 * c ≠ 6 * c + 2 by omega)]
            simp [z, v, u]
          · rw [upd_n (by omega), upd_n (by omega), hg]
          · rw [zs_same]; simp [z, v, u]
      · refine ⟨S, ?_, zt.rf, hok, ?_⟩
        · simp [v]
        · simp [v, hg]
    · refine ⟨S, ?_, zt.rf, hok, ?_⟩
      · simp [z]
      · simp [z, hg]
  simp only [if_neg c3]
  by_cases c4 : h = 4
  · simp only [if_pos c4, qc0]
    by_cases z : a = 0 ∧ c = 0
    · refine ⟨_, ?_, zt_a25 (f := upd g 72 (1 - g 72)) (fun i hi => ?_), hok, ?_⟩
      · rw [if_pos z.1, if_pos z.2, if_pos (show zb_in 72 (zb_sz 25) by decide), if_pos (show zb_in 72 (zb_sz 25) by decide), show Int32.toNatClampNeg 72 = 72 from by decide, zs_pa, hg]
        simp [z, zb_let]
      · rw [upd_n (by omega), hg]
      · rw [zs_same]; simp [z]
    · refine ⟨S, ?_, zt.rf, hok, ?_⟩
      · rw [show (if a = 0 ∧ c = 0 then (true, upd g 72 (1 - g 72)) else (false, g)) = (false, g) from if_neg z]
        by_cases y : a = 0
        · rw [if_pos y, if_neg (fun p => z ⟨y, p⟩)]; simp
        · rw [if_neg y]; simp
      · rw [if_neg z]; exact hg
  simp only [if_neg c4]
  by_cases c5 : h = 5
  · simp only [if_pos c5, m_nz hok hl (show a < 100 by omega), zb_bind_some, qc2]
    by_cases z : a < M + s ∧ c ≤ 2
    · have c1' : Int32.toNatClampNeg (nI (6 * a + 1)) = 6 * a + 1 := zn_cl (by omega)
      have i1 : zb_in (nI (6 * a + 1)) 79 := (zn_in (by omega)).mpr (by omega)
      refine ⟨_, ?_, zt_a25 (f := upd g (6 * a + 1) (nI c)) (fun i hi => ?_), hok, ?_⟩
      · simp only [if_pos z.1, if_pos z.2, if_true, zn_ar, sz, c1', if_pos i1, zs_pa, hg, zb_let]
        simp [z]
      · rw [upd_n (by omega), hg]
      · rw [zs_same]; simp [z]
    · refine ⟨S, ?_, zt.rf, hok, ?_⟩
      · rw [show (if a < M + s ∧ c ≤ 2 then (true, upd g (6 * a + 1) (nI c)) else (false, g)) = (false, g) from if_neg z]
        by_cases y : a < M + s
        · rw [if_pos y, if_pos rfl, if_neg (fun p => z ⟨y, p⟩)]; simp
        · rw [if_neg y]; simp
      · rw [if_neg z]; exact hg
  simp only [if_neg c5]
  refine ⟨S, ?_, zt.rf, hok, ?_⟩
  rotate_left
  · by_cases c6 : h = 6
    · rw [if_pos c6]; exact hg
    · rw [if_neg c6]
      by_cases c7 : h = 7
      · rw [if_pos c7]; exact hg
      · rw [if_neg c7]
        by_cases c8 : h = 8
        · rw [if_pos c8]; exact hg
        · rw [if_neg c8]; exact hg
  by_cases c6 : h = 6
  · simp only [if_pos c6, m_nz hok hl (show a < 100 by omega), zb_bind_some, q2c]
    by_cases v : a < M + s
    · have c0 : Int32.toNatClampNeg (nI (6 * a + 0)) = 6 * a := zn_cl (by omega)
      have i0 : zb_in (nI (6 * a + 0)) 79 := (zn_in (by omega)).mpr (by omega)
      have g0 : g (6 * a) ≤ 0 ↔ g (6 * a) = 0 := by
        have := (hw.1 _ v).1
        constructor
        · intro p
          exact Int32.le_antisymm p (Int32.not_lt.mp this)
        · intro p; rw [p]; decide
      simp only [if_pos v, if_true, zn_ar, sz, c0, if_pos i0, hg]
      by_cases y : 2 ≤ c
      · rw [if_pos y]
        have : ¬ (a < M + s ∧ c = if g (6 * a) = 0 then 0 else 1) := by split <;> omega
        simp [this]
      · rw [if_neg y]
        by_cases u : g (6 * a) = 0
        · rw [if_pos (g0.mpr u)]
          simp only [fX6_does_264, fX6_does_274, qc1, if_pos u]
          have : c = 0 ∨ c = 1 := by omega
          rcases this with e | e <;> simp [e, v]
        · rw [if_neg (fun p => u (g0.mp p))]
          simp only [fX6_does_264, fX6_does_274, qc1, if_neg u]
          have : c = 0 ∨ c = 1 := by omega
          rcases this with e | e <;> simp [e, v]
    · simp [v]
  simp only [if_neg c6]
  by_cases c7 : h = 7
  · simp only [if_pos c7]
    rw [if_pos (show zb_in 77 (zb_sz 25) by decide), show Int32.toNatClampNeg 77 = 77 from by decide, hg]
    by_cases y : g 77 = nI (10 * a + c) <;> simp [y]
  simp only [if_neg c7]
  by_cases c8 : h = 8
  · simp only [if_pos c8, m_nz hok hl (show a < 100 by omega), zb_bind_some, q2c]
    by_cases v : a < M + s
    · have c2' : Int32.toNatClampNeg (nI (6 * a + 2)) = 6 * a + 2 := zn_cl (by omega)
      have i2 : zb_in (nI (6 * a + 2)) 79 := (zn_in (by omega)).mpr (by omega)
      simp only [if_pos v, if_true, zn_ar, sz, c2', if_pos i2, hg]
      by_cases y : 2 ≤ c
      · rw [if_pos y]
        have : ¬ (a < M + s ∧ c = if g (6 * a + 2) = 1 then 1 else 0) := by split <;> omega
        simp [this]
      · rw [if_neg y]
        have : c = 0 ∨ c = 1 := by omega
        rcases (hw.1 a v).2.2.1 with u | u <;> rw [u] <;> rcases this with e | e <;> subst e <;> simp [v]
        all_goals decide
    · simp [v]
  simp only [if_neg c8]
  rfl
/-! the row of doings -/
def zs_jd (M s J : Nat) (D : Nat → Nat) : Nat → Nat → (Nat → Int32) → Int32
  | 0, _, _ => -9
  | j + 1, i, g => if (zs_do M s J (D i / 100) (D i / 10 % 10) (D i % 10) g).1 = true then zs_jd M s J D j (i + 1) (zs_do M s J (D i / 100) (D i / 10 % 10) (D i % 10) g).2 else nI i
theorem p_jd {D : Nat → Nat} {m : Nat} (hl : zc_lim M s J) (hN : 5000 ≤ N) (hm : m ≤ 4) (hD : ∀ i, i < m → D i < 1000) : ∀ (j n i : Nat) (S : zb_S) (g : Nat → Int32), i + j = m → j < n → zc_ok 5 M s J S → zr_Rel (M + s) (zb_a S 6) g → zr_wf (M + s) g → (∀ i, i < m → zb_a S 18 i = nI (D i)) → ∃ w f, fX5_judge_84 N n S (nI m) (nI i) = some (zs_jd M s J D j i g, zc_t S w f) := by
  intro j
  induction j with
  | zero =>
    intro n i S g hi hn hok hr hw hA
    obtain ⟨n, rfl⟩ : ∃ q, n = q + 1 := ⟨n - 1, by omega⟩
    have e : i = m := by omega
    subst e
    refine ⟨zb_i S 5 5, zb_a S 6, ?_⟩
    simp only [fX5_judge_84, fX5_judge_84b, zs_jd]
    rw [if_pos (Int32.le_refl _), zc_t_id]
  | succ j ih =>
    intro n i S g hi hn hok hr hw hA
    obtain ⟨n, rfl⟩ : ∃ q, n = q + 1 := ⟨n - 1, by omega⟩
    obtain ⟨w, f, x1, x2⟩ := p_do (N := N) (d := D i) (hD i (by omega)) hok hl hN hr hw
    simp only [fX5_judge_84, fX5_judge_84b, zs_jd]
    rw [if_neg (by rw [zn_le (by omega) (by omega)]; omega), if_pos (show zb_in (nI i) (zb_sz 18) from (zn_in (by omega)).mpr (show i < 4 by omega)), zn_cl (by omega), hA i (by omega), x1]
    simp only [zb_bind_some]
    by_cases c : (zs_do M s J (D i / 100) (D i / 10 % 10) (D i % 10) g).1 = true
    · rw [if_pos c, if_neg (by decide), if_pos c]
      obtain ⟨w2, f2, y⟩ := ih n (i + 1) (zc_t S w f) _ (by omega) (by omega) (zc_t_ok hok) (by rw [zc_t_6]; exact x2) (zr_wf_do hl (by omega) (by omega) hw) (fun k hk => by rw [zc_t_o (by omega)]; exact hA k hk)
      refine ⟨w2, f2, ?_⟩
      rw [zc_t_t] at y
      rw [← y]
      simp only [zb_let]
      rw [show nI i + 1 = nI (i + 1) from nI_1 i]
    · rw [if_neg c, if_pos rfl, if_neg c]
      exact ⟨w, f, rfl⟩
theorem m_lp {k : Nat} (hN : 5000 ≤ N) (hk : k ≤ 4) : fX6_longPower N S 1000 (nI k) = some (lN (1000 ^ k), S) := by
  obtain ⟨n, rfl⟩ : ∃ n, N = n + 6 := ⟨N - 6, by omega⟩
  unfold fX6_longPower fX6_longPower_0
  have : k = 0 ∨ k = 1 ∨ k = 2 ∨ k = 3 ∨ k = 4 := by omega
  rcases this with e | e | e | e | e <;> subst e <;> rfl
theorem zl_32 : ∀ n, n < 1000 → (lN n).toInt32 = nI n := by decide +kernel
theorem m_jd {D : Nat → Nat} {m t : Nat} (hl : zc_lim M s J) (hN : 5000 ≤ N) (hm : m ≤ 4) (ht : t < 2 ^ 63) (hD : ∀ i, i < m → D i = t / 1000 ^ (m - 1 - i) % 1000) : ∀ (j n i : Nat) (S : zb_S) (g : Nat → Int32), i + j = m → j < n → zm_ok 25 M s J S → zb_a S 25 = g → zr_wf (M + s) g → ∃ S1, fX6_judge_44 N n S (nI m) (lN t) (nI i) = some (zs_jd M s J D j i g, S1) ∧ zt S S1 := by
  intro j
  induction j with
  | zero =>
    intro n i S g hi hn hok hg hw
    obtain ⟨n, rfl⟩ : ∃ q, n = q + 1 := ⟨n - 1, by omega⟩
    have e : i = m := by omega
    subst e
    refine ⟨S, ?_, zt.rf⟩
    simp only [fX6_judge_44, fX6_judge_44b, zs_jd]
    rw [if_pos (Int32.le_refl _)]
  | succ j ih =>
    intro n i S g hi hn hok hg hw
    obtain ⟨n, rfl⟩ : ∃ q, n = q + 1 := ⟨n - 1, by omega⟩
    have hDi := hD i (by omega)
    have hDl : D i < 1000 := by rw [hDi]; omega
    have hp : 0 < 1000 ^ (m - 1 - i) := Nat.pow_pos (by omega)
    have hp2 : 1000 ^ (m - 1 - i) ≤ 1000 ^ 4 := Nat.pow_le_pow_right (by omega) (by omega)
    have e0 : (nI m - 1) - nI i = nI (m - 1 - i) := by
      rw [zn_sub1 (by omega), pk_sub (by omega)]
    have e1 : lN t / lN (1000 ^ (m - 1 - i)) = lN (t / 1000 ^ (m - 1 - i)) := pk_lDiv ht hp (by omega)
    have e2 : lN (t / 1000 ^ (m - 1 - i)) - lN (t / 1000 ^ (m - 1 - i)) / 1000 * 1000 = lN (D i) := by
      rw [hDi]; exact pk_lRem (b := 1000) (Nat.lt_of_le_of_lt (Nat.div_le_self _ _) ht) (by omega) (by omega)
    have d1 : nI (D i) / 100 = nI (D i / 100) := pk_div (d := 100) (by omega) (by omega) (by omega)
    have d0 : nI (D i) / 10 = nI (D i / 10) := pk_div (d := 10) (by omega) (by omega) (by omega)
    have d2 : nI (D i / 10) - nI (D i / 10) / 10 * 10 = nI (D i / 10 % 10) := pk_rem (d := 10) (by omega) (by omega) (by omega)
    have d3 : nI (D i) - nI (D i / 10) * 10 = nI (D i % 10) := by rw [← d0]; exact pk_rem (d := 10) (by omega) (by omega) (by omega)
    obtain ⟨S1, x1, x2, x3, x4⟩ := m_do (N := N) (h := D i / 100) (a := D i / 10 % 10) (c := D i % 10) (by omega) (by omega) (by omega) hok hl hN hg hw
    have z0 : ¬ lN (1000 ^ (m - 1 - i)) = 0 := by
      rw [show (0 : Int64) = lN 0 from rfl, pk_lEQ (by omega) (by omega)]; omega
    simp only [fX6_judge_44, fX6_judge_44b, zs_jd]
    rw [if_neg (by rw [zn_le (by omega) (by omega)]; omega), e0, m_lp hN (by omega)]
    simp only [zb_bind_some, zb_let]
    rw [if_neg z0, if_neg (by decide), if_neg (by decide), if_neg (by decide), if_neg (by decide), if_neg (by decide), e1, e2, zl_32 _ hDl, d1, d0, d2, d3, x1]
    simp only [zb_bind_some]
    by_cases c : (zs_do M s J (D i / 100) (D i / 10 % 10) (D i % 10) g).1 = true
    · rw [if_pos c, if_neg (by decide), if_pos c]
      obtain ⟨S2, y1, y2⟩ := ih n (i + 1) S1 _ (by omega) (by omega) x3 x4 (zr_wf_do hl (by omega) (by omega) hw)
      refine ⟨S2, ?_, x2.tr y2⟩
      rw [show nI i + 1 = nI (i + 1) from nI_1 i]
      exact y1
    · rw [if_neg c, if_pos rfl, if_neg c]
      exact ⟨S1, rfl, x2⟩
theorem p_fill {m : Nat} : ∀ (k n t : Nat) (S : zb_S), k ≤ 4 → k < n → t < 2 ^ 63 → ∃ f, fX5_judge_37 N n S (nI m) (lN t) (nI k - 1) = zb_bind (fX1_copy N 5 3 (zs_a S 18 f)) (fun _ S1 => fX5_judge_84 N N S1 (nI m) 0) ∧ (∀ i, i < k → f i = nI (t / 1000 ^ (k - 1 - i) % 1000)) ∧ ∀ i, k ≤ i → f i = zb_a S 18 i := by
  intro k
  induction k with
  | zero =>
    intro n t S _ hn ht
    obtain ⟨n, rfl⟩ : ∃ q, n = q + 1 := ⟨n - 1, by omega⟩
    refine ⟨zb_a S 18, ?_, fun i hi => absurd hi (by omega), fun _ _ => rfl⟩
    simp only [fX5_judge_37, fX5_judge_37b]
    rw [if_pos zn_neg1, zs_id]
  | succ k ih =>
    intro n t S hk hn ht
    obtain ⟨n, rfl⟩ : ∃ q, n = q + 1 := ⟨n - 1, by omega⟩
    have e1 : lN t / 1000 = lN (t / 1000) := pk_lDiv (b := 1000) ht (by omega) (by omega)
    have e2 : lN t - lN (t / 1000) * 1000 = lN (t % 1000) := by rw [← e1]; exact pk_lRem (b := 1000) ht (by omega) (by omega)
    obtain ⟨f, x1, x2, x3⟩ := ih n (t / 1000) (zs_a S 18 (upd (zb_a S 18) k (nI (t % 1000)))) (by omega) (by omega) (by omega)
    refine ⟨f, ?_, fun i hi => ?_, fun i hi => ?_⟩
    · simp only [fX5_judge_37, fX5_judge_37b, zb_let]
      rw [zn_s1, if_neg (by rw [zn_lt0 (by omega)]; exact fun h => h), if_neg (by decide), if_pos (show zb_in (nI k) (zb_sz 18) from (zn_in (by omega)).mpr (show k < 4 by omega)), if_neg (by decide), zn_cl (by omega), e1, e2, zl_32 _ (by omega), zs_pa, zn_am1, x1, zs_aa]
    · by_cases c : i = k
      · subst c
        rw [x3 i (by omega), zs_same, upd_s, show i + 1 - 1 - i = 0 by omega, Nat.pow_zero, Nat.div_one]
      · rw [x2 i (by omega), Nat.div_div_eq_div_mul, show k + 1 - 1 - i = (k - 1 - i) + 1 by omega, Nat.pow_succ, Nat.mul_comm]
    · rw [x3 i (by omega), zs_same, upd_n (by omega)]
theorem e_judge {a : Int32} {c : Int64} (hN : 5000 ≤ N) (h : zi_I S) : zi_E (fun S => fX5_judge N S a c) (fun S => fX6_judge N S a c) S := by
  obtain ⟨M, s, J, tl, na, nx, ns, hP⟩ := h
  obtain ⟨hl, hc, hn, ht, ha, hk, hs, ho⟩ := id hP
  have hw := (hn.rel hl).2
  have hin : ∀ T : zb_S, fX6_in N T a.toInt64 1 4 = some (if 1 ≤ a ∧ a ≤ 4 then 1 else 0, T) := fun T => m_in32 1 4 rfl rfl
  by_cases hb : 1 ≤ a ∧ a ≤ 4
  · obtain ⟨m, m1, rfl⟩ := (zn_bet (n := 4) (by omega)).mp ⟨Int32.le_trans (by decide) hb.1, hb.2⟩
    have m0 : 0 < m := by
      rcases Nat.eq_zero_or_pos m with e | e
      · subst e; exact absurd hb.1 (by decide)
      · exact e
    have hp : 0 < 1000 ^ m := Nat.pow_pos (by omega)
    have hp2 : 1000 ^ m ≤ 1000 ^ 4 := Nat.pow_le_pow_right (by omega) (by omega)
    have eth : zb_tho (Int32.toNatClampNeg (nI m)) = lN (1000 ^ m) := by
      rw [zn_cl (by omega)]
      have : m = 1 ∨ m = 2 ∨ m = 3 ∨ m = 4 := by omega
      rcases this with e | e | e | e <;> subst e <;> rfl
    have ep : lN (1000 ^ m) - 1 = lN (1000 ^ m - 1) := by
      have : m = 1 ∨ m = 2 ∨ m = 3 ∨ m = 4 := by omega
      rcases this with e | e | e | e <;> subst e <;> decide
    by_cases hc2 : ∃ t, t < 1000 ^ m ∧ c = lN t
    · obtain ⟨t, t1, rfl⟩ := hc2
      have t2 : t < 2 ^ 63 := by omega
      obtain ⟨f0, z1, z2, z3⟩ := p_fill (N := N) (m := m) m N t S (by omega) (by omega) t2
      have hq0 : zq S (zs_a S 18 f0) := ⟨fun _ _ _ _ => rfl, fun o _ _ h _ _ _ => zs_ne h, fun _ _ => rfl⟩
      have hq0' : zt S (zs_a S 18 f0) := ⟨hq0, fun _ _ => rfl⟩
      obtain ⟨S1, x1, x2, x3, x4⟩ := p_copy (N := N) (S := zs_a S 18 f0) (g := zt_g S) hl (hc.c hq0) (by rw [zs_ne (by omega)]; exact (hn.rel hl).1)
      have h18 : zb_a S1 18 = f0 := by
        have := x1
        unfold fX1_copy fX1_copy_0 at this
        simp only [zb_let] at this
        rw [if_pos (by decide), zs_cp] at this
        have e := (Prod.mk.inj (Option.some.inj this)).2
        rw [← e, zs_ne (by omega)]
        exact zs_same S 18 f0
      obtain ⟨w, f, y⟩ := p_jd (N := N) (m := m) (D := fun i => t / 1000 ^ (m - 1 - i) % 1000) hl hN (by omega) (fun i _ => Nat.mod_lt _ (by omega)) m N 0 S1 (zt_g S) (by omega) (by omega) x3 x4 hw (fun i hi => by rw [h18]; exact z2 i hi)
      have hq1 : zt S (zb_pi (zc_t S1 w f) 21 0 0) := ((hq0'.tr x2).tr zc_t_zt).tr zt_thr
      obtain ⟨S3, u1, u2, u3, u4⟩ := m_tlay (N := N) hP hN hq1.1
      obtain ⟨S4, v1, v2⟩ := m_jd (N := N) (m := m) (t := t) (D := fun i => t / 1000 ^ (m - 1 - i) % 1000) hl hN (by omega) t2 (fun _ _ => rfl) m N 0 S3 (zt_g S) (by omega) (by omega) u3 u4 hw
      refine ⟨zs_jd M s J (fun i => t / 1000 ^ (m - 1 - i) % 1000) m 0 (zt_g S), zc_t S1 w f, S4, ?_, ?_, (hP.t ((hq1.tr u2).tr v2)).I⟩
      · simp only [fX5_judge, fX5_judge_0, zb_let]
        rw [if_neg (Int32.not_lt.mpr hb.1), if_neg (Int32.not_lt.mpr hb.2), if_neg (by rw [lg_cmp_lt, show (0 : Int64) = lN 0 from rfl, pk_lLT (by omega) (by omega)]; omega), if_pos ((zn_in (by omega)).mpr (by omega)), eth, if_pos (by rw [lg_cmp_lt, pk_lLT (by omega) (by omega)]; exact t1), z1, x1]
        simp only [zb_bind_some]
        exact y
      · simp only [fX6_judge, fX6_judge_0, zb_let, hin, zb_bind_some, if_pos hb]
        rw [if_neg (by decide), m_lp hN (by omega)]
        simp only [zb_bind_some]
        rw [m_in, ep]
        simp only [zb_bind_some]
        rw [if_pos (show (0 : Int64) ≤ lN t ∧ lN t ≤ lN (1000 ^ m - 1) from ⟨by rw [show (0 : Int64) = lN 0 from rfl, pk_lLE (by omega) (by omega)]; omega, by rw [pk_lLE (by omega) (by omega)]; omega⟩), if_neg (by decide), u1]
        simp only [zb_bind_some]
        exact v1
    · have hc3 : ¬ ((0 : Int64) ≤ c ∧ c ≤ lN (1000 ^ m - 1)) := by
        rintro ⟨p1, p2⟩
        obtain ⟨t, t1, rfl⟩ := pk_lOf (lg_le_not_lt p1)
        rw [pk_lLE t1 (by omega)] at p2
        exact hc2 ⟨t, by omega, rfl⟩
      refine ⟨-2, S, zb_pi S 21 0 0, ?_, ?_, hP.thr.I⟩
      · simp only [fX5_judge, fX5_judge_0, zb_let]
        rw [if_neg (Int32.not_lt.mpr hb.1), if_neg (Int32.not_lt.mpr hb.2), if_pos ((zn_in (by omega)).mpr (by omega)), eth]
        by_cases q1 : c < 0
        · rw [if_pos ((lg_cmp_lt _ _).mpr q1)]
        · obtain ⟨t, t1, rfl⟩ := pk_lOf q1
          rw [if_neg (by rw [lg_cmp_lt]; exact q1), if_neg (by rw [lg_cmp_lt, pk_lLT t1 (by omega)]; exact fun q => hc2 ⟨t, q, rfl⟩)]
      · simp only [fX6_judge, fX6_judge_0, zb_let, hin, zb_bind_some, if_pos hb]
        rw [if_neg (by decide), m_lp hN (by omega)]
        simp only [zb_bind_some]
        rw [m_in, ep, if_neg hc3]
        rfl
  · refine ⟨-2, S, zb_pi S 21 0 0, ?_, ?_, hP.thr.I⟩
    · simp only [fX5_judge, fX5_judge_0]
      by_cases h1 : a < 1
      · rw [if_pos h1]
      · rw [if_neg h1]
        by_cases h2 : 4 < a
        · rw [if_pos h2]
        · exact absurd ⟨Int32.not_lt.mp h1, Int32.not_lt.mp h2⟩ hb
    · simp only [fX6_judge, fX6_judge_0, zb_let, hin, zb_bind_some, if_neg hb]; rfl
end JD
