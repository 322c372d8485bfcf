section MS
variable {N r M s J : Nat} {S : zb_S} {se wi go sl we v : Int32} {g gt : Nat → Int32}
theorem zn_99 {z : Nat} (h : z < 99) : ¬ (99 : Int32) = nI z := by
  rw [show (99 : Int32) = nI 99 from rfl, zn_eq (by omega) (by omega)]; omega
/-- the idle ones, in the reference -/
theorem m_idleOn (hok : zm_ok r M s J S) (hl : zc_lim M s J) (hN : 20 ≤ N) (hc : zm_c (M + s) g) : fX6_idleOn N r (zm_st S r se wi go sl we g) = some ((), zm_st S r se wi go sl we (zs_idl (zs_any M s J g) (M + s) g)) := by
  obtain ⟨l1, l2, l3, l4, l5⟩ := id hl
  obtain ⟨m, e1, e2⟩ := m_allThatSee (N := N) (S := zm_st S r se wi go sl we g) (zm_okst hok) hl hN (by rw [mz_a]; exact hc)
  rw [mz_a] at e2
  have hm : ∀ k, k < M + s → bt m k = zs_see g k := fun k hk => by rw [e2 k (by omega)]; simp [hk]
  have inner : ∀ (z : Nat) (k8 : zb_S → Int32 → Int32 → Option (Unit × zb_S)) (T : zb_S), z < M + s → zm_ok r M s J T → ∀ (j n i : Nat) (a : Bool), i + j = M + s → j < n → fX6_idleOn_26 N r k8 n T m (nI z) (if a = true then 1 else 0) (nI i) = fX6_idleOn_26 N r k8 (n - j) T m (nI z) (if (a || decide (∃ o, o < M + s ∧ i ≤ o ∧ o ≠ M - 1 ∧ zs_see g o = true ∧ zs_bh M s J o = z)) = true then 1 else 0) (nI (M + s)) := by
    intro z k8 T hz hT j
    induction j with
    | zero =>
      intro n i a hi hn
      have e : i = M + s := by omega
      subst e
      have : ¬ (∃ o, o < M + s ∧ M + s ≤ o ∧ o ≠ M - 1 ∧ zs_see g o = true ∧ zs_bh M s J o = z) := by
        rintro ⟨o, h1, h2, -⟩; omega
      rw [decide_eq_false this, Bool.or_false, Nat.sub_zero]
    | succ j ih =>
      intro n i a hi hn
      obtain ⟨n, rfl⟩ : ∃ q, n = q + 1 := ⟨n - 1, by omega⟩
      have e0 : fX6_idleOn_26 N r k8 (n + 1) T m (nI z) (if a = true then 1 else 0) (nI i) = fX6_idleOn_26 N r k8 n T m (nI z) (if (a || (zs_see g i && !decide (i = M - 1) && decide (zs_bh M s J i = z))) = true then 1 else 0) (nI (i + 1)) := by
        simp only [fX6_idleOn_26, fX6_idleOn_26b, fX6_idleOn_59, fX6_idleOn_63, fX6_idleOn_64, zb_let, m_zones hT, zb_bind_some, zn_ar]
        rw [if_neg (by rw [zn_le (by omega) (by omega)]; omega)]
        cases a
        · rw [m_has (by omega), hm i (by omega)]
          simp only [zb_bind_some, m_behind hT hl (show i < M + s by omega)]
          by_cases h1 : zs_see g i = true
          · by_cases h2 : i = M - 1
            · have h99 := zn_99 (show z < 99 by omega)
              simp [h1, h2, h99]
            · have hb := zs_bh_lt hl (show i < M + s by omega) h2
              by_cases h3 : zs_bh M s J i = z
              · simp [h1, h2, h3]
              · have h4 : ¬ nI (zs_bh M s J i) = nI z := by rw [zn_eq (by omega) (by omega)]; exact h3
                simp [h1, h2, h3, h4]
          · simp [h1]
        · simp
      rw [e0, ih n (i + 1) _ (by omega) (by omega)]
      rw [show n + 1 - (j + 1) = n - j by omega]
      congr 2
      have : (∃ o, o < M + s ∧ i ≤ o ∧ o ≠ M - 1 ∧ zs_see g o = true ∧ zs_bh M s J o = z) ↔ ((zs_see g i = true ∧ i ≠ M - 1 ∧ zs_bh M s J i = z) ∨ ∃ o, o < M + s ∧ i + 1 ≤ o ∧ o ≠ M - 1 ∧ zs_see g o = true ∧ zs_bh M s J o = z) := by
        constructor
        · rintro ⟨o, h1, h2, h3, h4, h5⟩
          by_cases e : o = i
          · subst e; exact Or.inl ⟨h4, h3, h5⟩
          · exact Or.inr ⟨o, h1, by omega, h3, h4, h5⟩
        · rintro (⟨h1, h2, h3⟩ | ⟨o, h1, h2, h3⟩)
          · exact ⟨i, by omega, by omega, h2, h1, h3⟩
          · exact ⟨o, h1, by omega, h3⟩
      have e9 : (a || (zs_see g i && !decide (i = M - 1) && decide (zs_bh M s J i = z)) || decide (∃ o, o < M + s ∧ i + 1 ≤ o ∧ o ≠ M - 1 ∧ zs_see g o = true ∧ zs_bh M s J o = z)) = (a || decide (∃ o, o < M + s ∧ i ≤ o ∧ o ≠ M - 1 ∧ zs_see g o = true ∧ zs_bh M s J o = z)) := by
        rw [Bool.or_assoc]
        congr 1
        rw [Bool.eq_iff_iff]
        simp only [Bool.or_eq_true, Bool.and_eq_true, Bool.not_eq_true', decide_eq_false_iff_not, decide_eq_true_eq]
        rw [this]
        constructor
        · rintro (⟨⟨h1, h2⟩, h3⟩ | h)
          · exact Or.inl ⟨h1, h2, h3⟩
          · exact Or.inr h
        · rintro (⟨h1, h2, h3⟩ | h)
          · exact Or.inl ⟨⟨h1, h2⟩, h3⟩
          · exact Or.inr h
      rw [e9]
  have outer : ∀ (j n i : Nat), i + j = M + s → j < n → fX6_idleOn_8 N r n (zm_st S r se wi go sl we (zs_idl (zs_any M s J g) i g)) m (nI i) = some ((), zm_st S r se wi go sl we (zs_idl (zs_any M s J g) (M + s) g)) := by
    intro j
    induction j with
    | zero =>
      intro n i hi hn
      obtain ⟨n, rfl⟩ : ∃ q, n = q + 1 := ⟨n - 1, by omega⟩
      have e : i = M + s := by omega
      subst e
      simp only [fX6_idleOn_8, fX6_idleOn_8b, m_zones (zm_okst hok), zb_bind_some]
      rw [if_pos (Int32.le_refl _)]
    | succ j ih =>
      intro n i hi hn
      obtain ⟨n, rfl⟩ : ∃ q, n = q + 1 := ⟨n - 1, by omega⟩
      simp only [fX6_idleOn_8, fX6_idleOn_8b, m_zones (zm_okst hok), zb_bind_some]
      rw [if_neg (by rw [zn_le (by omega) (by omega)]; omega), m_has (by omega), hm i (by omega)]
      simp only [zb_bind_some]
      have e5 := inner i (fX6_idleOn_8 N r n) (zm_st S r se wi go sl we (zs_idl (zs_any M s J g) i g)) (by omega) (zm_okst hok) (M + s) N 0 (zs_see g i) (by omega) (by omega)
      rw [show (0 : Int32) = nI 0 from rfl] at e5 ⊢
      rw [show nI 0 = (0 : Int32) from rfl] at e5 ⊢
      have hany : (zs_see g i || decide (∃ o, o < M + s ∧ 0 ≤ o ∧ o ≠ M - 1 ∧ zs_see g o = true ∧ zs_bh M s J o = i)) = zs_any M s J g i := by
        unfold zs_any
        congr 1
        rw [Bool.eq_iff_iff, zs_fd_iff hl (by omega), decide_eq_true_eq]
        constructor
        · rintro ⟨o, h1, -, h3, h4, h5⟩; exact ⟨o, h1, h3, h4, h5⟩
        · rintro ⟨o, h1, h3, h4, h5⟩; exact ⟨o, h1, by omega, h3, h4, h5⟩
      rw [hany] at e5
      rw [show fX6_idleOn_26 N r (fX6_idleOn_8 N r n) N (zm_st S r se wi go sl we (zs_idl (zs_any M s J g) i g)) m (nI i) (if zs_see g i = true then 1 else 0) 0 = _ from e5]
      obtain ⟨n2, hn2⟩ : ∃ q, N - (M + s) = q + 1 := ⟨N - (M + s) - 1, by omega⟩
      rw [hn2]
      have c4 : Int32.toNatClampNeg (nI (6 * i + 4)) = 6 * i + 4 := zn_cl (by omega)
      have i4 : zb_in (nI (6 * i + 4)) 79 := (zn_in (by omega)).mpr (by omega)
      have c3 : Int32.toNatClampNeg (nI (6 * i + 3)) = 6 * i + 3 := zn_cl (by omega)
      have i3 : zb_in (nI (6 * i + 3)) 79 := (zn_in (by omega)).mpr (by omega)
      have i74 : zb_in 74 79 := by decide
      have c74 : Int32.toNatClampNeg 74 = 74 := by decide
      simp only [fX6_idleOn_26, fX6_idleOn_26b, fX6_idleOn_100, fX6_idleOn_133, m_zones (zm_okst hok), zb_bind_some, zb_let, zn_ml, zn_ar, hok.1, c4, c3, c74, mz_a, mz_pa]
      rw [if_pos (Int32.le_refl _)]
      have ih' := ih n (i + 1) (by omega) (by omega)
      simp only [zs_idl] at ih'
      generalize hgi : zs_idl (zs_any M s J g) i g = gi at ih' ⊢
      unfold zs_id1 at ih'
      cases ha : zs_any M s J g i
      · rw [ha] at ih'
        simp only [Bool.false_eq_true, if_false] at ih' ⊢
        simp only [if_true, if_pos i4, if_pos i74, if_pos i3, upd_s, upd_n (show 74 ≠ 6 * i + 4 by omega)]
        by_cases d1 : gi 74 ≤ 0
        · rw [if_pos d1]
          rw [if_neg (fun q => q.1 d1)] at ih'
          exact ih'
        · rw [if_neg d1]
          by_cases d2 : gi (6 * i + 4) + 1 < gi 74
          · rw [if_pos d2]
            rw [if_neg (fun q => q.2 d2)] at ih'
            exact ih'
          · rw [if_neg d2]
            rw [if_pos ⟨d1, d2⟩] at ih'
            exact ih'
      · rw [ha] at ih'
        simp only [if_true] at ih' ⊢
        rw [if_neg (by decide), if_pos i4, if_neg (by decide)]
        exact ih'
  unfold fX6_idleOn fX6_idleOn_0
  rw [e1]
  simp only [zb_bind_some]
  exact outer (M + s) N 0 (by omega) (by omega)
theorem zs_tk_agree {w : Bool} {z q : Nat} {X Y : Nat → Int32} (h0 : X q = Y q) (h1 : X 75 = Y 75) (h2 : X (6 * z + 5) = Y (6 * z + 5)) : zs_tk w z X q = zs_tk w z Y q := by
  unfold zs_tk
  rw [h2, h1]
  split
  · simp only [upd]; split
    · rfl
    · split
      · rfl
      · exact h0
  · exact h0
theorem zs_tks_agree {w : Nat → Bool} {q : Nat} {X Y : Nat → Int32} (h0 : X q = Y q) (h1 : X 75 = Y 75) (h2 : X (6 * (J - 1) + 5) = Y (6 * (J - 1) + 5)) (h3 : X (6 * (M + s - 1) + 5) = Y (6 * (M + s - 1) + 5)) : zs_tks M s J w X q = zs_tks M s J w Y q := by
  unfold zs_tks
  split
  · exact zs_tk_agree (zs_tk_agree h0 h1 h2) (zs_tk_agree h1 h1 h2) (zs_tk_agree h3 h1 h2)
  · exact zs_tk_agree h0 h1 h2
theorem zs_tks_3 {w : Nat → Bool} {q : Nat} {X : Nat → Int32} (h0 : q % 6 = 3) (h1 : q < 75) : zs_tks M s J w X q = X q := by
  unfold zs_tks
  split
  · rw [zs_tk_n (by omega) (by omega), zs_tk_n (by omega) (by omega)]
  · rw [zs_tk_n (by omega) (by omega)]
/-- the row behind the tickets and the wakings is the plain one -/
theorem m_g2 {g' : Nat → Int32} (hl : zc_lim M s J) (hw : zr_wf (M + s) g) (hI : zm_I M s J (zs_wish g) (zs_slp g) (fun _ => True) (zs_tks M s J (zs_wish g) (zm_wk1 g (M + s))) g') : g' = zs_g2 M s J g := by
  obtain ⟨l1, l2, l3, l4, l5⟩ := id hl
  funext q
  unfold zs_g2
  by_cases hq : q % 6 = 3 ∧ q < 6 * (M + s)
  · obtain ⟨t, rfl⟩ : ∃ t, q = 6 * t + 3 := ⟨q / 6, by omega⟩
    have ht : t < M + s := by omega
    rw [zs_tks_3 hq.1 (by omega), zs_wk_3 ht]
    by_cases hf : zs_fd M s J (zs_wish g) t = true ∧ zs_slp g t = true
    · obtain ⟨i, h1, h2, h3, h4⟩ := (zs_fd_iff hl ht).mp hf.1
      rw [if_pos (Or.inr hf.1), ← h4]
      exact hI.1 i h1 trivial h2 h3 (by rw [h4]; exact hf.2)
    · rw [hI.2 _ (fun z hz1 hz2 hz3 hz4 hz5 => hf ⟨(zs_fd_iff hl ht).mpr ⟨z, hz1, hz2, hz3, by omega⟩, by rw [show t = zs_bh M s J z by omega]; exact hz4⟩), zs_tks_3 hq.1 (by omega)]
      unfold zm_wk1
      rw [show (6 * t + 3) / 6 = t by omega]
      by_cases c1 : zs_see g t = true
      · rw [if_pos ⟨by omega, ht, c1⟩, if_pos (Or.inl c1)]
      · rw [if_neg (fun q => c1 q.2.2)]
        by_cases c2 : zs_fd M s J (zs_wish g) t = true
        · rw [if_pos (Or.inr c2)]
          obtain ⟨-, -, -, h⟩ := hw.1 t ht
          rcases h with h | h
          · exact h
          · exact absurd ⟨c2, by unfold zs_slp; simp [h]⟩ hf
        · rw [if_neg (by rintro (c | c) <;> contradiction)]
  · rw [hI.2 q (fun z hz1 hz2 _ _ h => hq ⟨by omega, by have := zs_bh_lt hl hz1 hz2; omega⟩)]
    refine zs_tks_agree ?_ ?_ ?_ ?_
    · rw [zm_wk1_n (by omega), zs_wk_n hq]
    · rw [zm_wk1_n (by omega), zs_wk_n (by omega)]
    · rw [zm_wk1_n (by omega), zs_wk_n (by omega)]
    · rw [zm_wk1_n (by omega), zs_wk_n (by omega)]
theorem zr_wf_upd {Z i : Nat} (h : zr_wf Z g) (hZ : Z ≤ 12) (h0 : i % 6 = 0 ∧ i < 72 → ¬ v < 0) (h1 : i % 6 = 1 ∧ i < 72 → v = 0 ∨ v = 1 ∨ v = 2) (h2 : i % 6 = 2 ∧ i < 72 → v = 0 ∨ v = 1) (h3 : i % 6 = 3 ∧ i < 72 → v = 0 ∨ v = 1) (h4 : i ≠ 72 ∧ i ≠ 73 ∧ i ≠ 74 ∧ i ≠ 76) : zr_wf Z (upd g i v) := by
  obtain ⟨a, b, c, d, e⟩ := h
  refine ⟨fun z hz => ?_, ?_, ?_, ?_, ?_⟩
  · obtain ⟨a1, a2, a3, a4⟩ := a z hz
    refine ⟨?_, ?_, ?_, ?_⟩
    · by_cases e : 6 * z = i
      · rw [e, upd_s]; exact h0 (by omega)
      · rw [upd_n e]; exact a1
    · by_cases e : 6 * z + 1 = i
      · rw [e, upd_s]; exact h1 (by omega)
      · rw [upd_n e]; exact a2
    · by_cases e : 6 * z + 2 = i
      · rw [e, upd_s]; exact h2 (by omega)
      · rw [upd_n e]; exact a3
    · by_cases e : 6 * z + 3 = i
      · rw [e, upd_s]; exact h3 (by omega)
      · rw [upd_n e]; exact a4
  · rw [upd_n (by omega)]; exact b
  · rw [upd_n (by omega)]; exact c
  · rw [upd_n (by omega)]; exact d
  · rw [upd_n (by omega)]; exact e
theorem zr_wf_tk {Z z : Nat} {w : Bool} (h : zr_wf Z g) (hZ : Z ≤ 12) (hz : z < 12) : zr_wf Z (zs_tk w z g) := by
  unfold zs_tk
  split
  · exact zr_wf_upd (zr_wf_upd h hZ (by omega) (by omega) (by omega) (by omega) (by omega)) hZ (by omega) (by omega) (by omega) (by omega) (by omega)
  · exact h
theorem zr_wf_g2 (hl : zc_lim M s J) (h : zr_wf (M + s) g) : zr_wf (M + s) (zs_g2 M s J g) := by
  obtain ⟨l1, l2, l3, l4, l5⟩ := id hl
  have hk : zr_wf (M + s) (zs_wk M s J g) := by
    obtain ⟨a, b, c, d, e⟩ := h
    refine ⟨fun z hz => ?_, ?_, ?_, ?_, ?_⟩
    · obtain ⟨a1, a2, a3, a4⟩ := a z hz
      rw [zs_wk_n (by omega), zs_wk_n (by omega), zs_wk_n (by omega), zs_wk_3 hz]
      refine ⟨a1, a2, a3, ?_⟩
      split
      · exact Or.inl rfl
      · exact a4
    · rw [zs_wk_n (by omega)]; exact b
    · rw [zs_wk_n (by omega)]; exact c
    · rw [zs_wk_n (by omega)]; exact d
    · rw [zs_wk_n (by omega)]; exact e
  unfold zs_g2 zs_tks
  split
  · exact zr_wf_tk (zr_wf_tk hk (by omega) (by omega)) (by omega) (by omega)
  · exact zr_wf_tk hk (by omega) (by omega)
theorem zr_wf_mv1 {z : Nat} {go : Nat → Bool} {x : zs_X} (hl : zc_lim M s J) (hz : z < M + s) (h : zr_wf (M + s) x.1) : zr_wf (M + s) (zs_mv1 M s J go z x).1 := by
  obtain ⟨l1, l2, l3, l4, l5⟩ := id hl
  unfold zs_mv1
  split
  · have h1 : zr_wf (M + s) (upd x.1 (6 * z + 5) 0) := zr_wf_upd h (by omega) (by omega) (by omega) (by omega) (by omega) (by omega)
    generalize upd x.1 (6 * z + 5) 0 = g1 at h1 ⊢
    unfold zs_ho
    split
    · exact h1
    · split
      · exact zr_wf_upd (zr_wf_upd h1 (by omega) (fun _ => by decide) (by omega) (by omega) (by omega) (by omega)) (by omega) (by omega) (by omega) (by omega) (by omega) (by omega)
      · rename_i h2 h3
        have hb := zs_bh_lt hl hz h3
        split
        · exact zr_wf_upd (zr_wf_upd h1 (by omega) (fun _ => (h1.1 z hz).1) (by omega) (by omega) (by omega) (by omega)) (by omega) (fun _ => by decide) (by omega) (by omega) (by omega) (by omega)
        · exact zr_wf_upd h1 (by omega) (by omega) (by omega) (fun _ => Or.inr rfl) (by omega) (by omega)
  · exact h
theorem zr_wf_mv {go : Nat → Bool} {lo : Nat} (hl : zc_lim M s J) : ∀ (n : Nat) (x : zs_X), lo + n ≤ M + s → zr_wf (M + s) x.1 → zr_wf (M + s) (zs_mv M s J go lo n x).1 := by
  intro n
  induction n with
  | zero => intro x _ h; exact h
  | succ n ih => intro x hn h; exact ih _ (by omega) (zr_wf_mv1 hl (by omega) h)
theorem zr_wf_g3 (hl : zc_lim M s J) (h : zr_wf (M + s) g) : zr_wf (M + s) (zs_g3 M s J g).1 := zr_wf_mv hl s _ (by omega) (zr_wf_mv hl M _ (by omega) (zr_wf_g2 hl h))
theorem zr_wf_idl {any : Nat → Bool} {Z : Nat} (hZ : Z ≤ 12) (h : zr_wf Z g) : ∀ n, n ≤ Z → zr_wf Z (zs_idl any n g) := by
  intro n
  induction n with
  | zero => intro _; exact h
  | succ n ih =>
    intro hn
    have h1 := ih (by omega)
    simp only [zs_idl]
    generalize zs_idl any n g = g1 at h1 ⊢
    unfold zs_id1
    split
    · exact zr_wf_upd h1 hZ (by omega) (by omega) (by omega) (by omega) (by omega)
    · split
      · exact zr_wf_upd (zr_wf_upd h1 hZ (by omega) (by omega) (by omega) (by omega) (by omega)) hZ (by omega) (by omega) (by omega) (fun _ => Or.inr rfl) (by omega)
      · exact zr_wf_upd h1 hZ (by omega) (by omega) (by omega) (by omega) (by omega)
theorem zr_wf_step (hl : zc_lim M s J) (h : zr_wf (M + s) g) : zr_wf (M + s) (zs_step M s J g).1 := by
  obtain ⟨l1, l2, l3, l4, l5⟩ := id hl
  exact zr_wf_upd (zr_wf_idl (by omega) (zr_wf_g3 hl h) (M + s) (Nat.le_refl _)) (by omega) (by omega) (by omega) (by omega) (by omega) (by omega)
theorem zr_wf_steps (hl : zc_lim M s J) : ∀ (n : Nat) (g : Nat → Int32), zr_wf (M + s) g → zr_wf (M + s) (zs_steps M s J n g) := by
  intro n
  induction n with
  | zero => intro g h; exact h
  | succ n ih => intro g h; exact ih _ (zr_wf_step hl h)
theorem m_stepOn (hok : zm_ok r M s J S) (hl : zc_lim M s J) (hN : 20 ≤ N) (hw : zr_wf (M + s) g) : ∃ se' wi' go' sl', fX6_stepOn N r (zm_st S r se wi go sl we g) = some ((), zm_st S r se' wi' go' sl' (zs_step M s J g).2 (zs_step M s J g).1) := by
  obtain ⟨l1, l2, l3, l4, l5⟩ := id hl
  obtain ⟨se1, wi1, sl1, a1, a2, a3, a4⟩ := m_wakeOn (N := N) (S := S) (r := r) (go := go) (we := 0) (se₀ := se) (wi₀ := wi) (sl₀ := sl) hok hl hN hw
  have b2 : ∀ k, k < M + s → bt se1 k = zs_see g k := fun k hk => by rw [a2 k (by omega)]; simp [hk]
  have b3 : ∀ k, k < M + s → bt wi1 k = zs_wish g k := fun k hk => by rw [a3 k (by omega)]; simp [hk]
  have b4 : ∀ k, k < M + s → bt sl1 k = zs_slp g k := fun k hk => by rw [a4 k (by omega)]; simp [hk]
  obtain ⟨go1, g1, c1, c2, c3⟩ := m_layGoes (N := N) (S := S) (r := r) (se := se1) (wi := wi1) (go := go) (sl := sl1) (we := 0) (gt := zs_tks M s J (zs_wish g) (zm_wk1 g (M + s))) (w := zs_wish g) (see := zs_see g) (slp := zs_slp g) hok hl hN b3 b2 b4 (fun k hk h => by unfold zs_wish at h; simp only [Bool.and_eq_true, Bool.not_eq_true'] at h; exact h.1.2)
  have hg2 := m_g2 hl hw c3
  rw [hg2] at c1
  have hgo : ∀ k, k < M + s → bt go1 k = zs_gos M s J g k := by
    intro k hk
    rw [c2 k hk]
    unfold zs_gos
    have t1 : zs_first M s J (zs_tks M s J (zs_wish g) (zm_wk1 g (M + s))) = zs_first M s J (zs_g2 M s J g) := by
      unfold zs_first
      rw [← hg2, zm_I_n c3 (show (6 * (J - 1) + 5) % 6 ≠ 3 by omega), zm_I_n c3 (show (6 * (M + s - 1) + 5) % 6 ≠ 3 by omega)]
    have t2 : zs_tks M s J (zs_wish g) (zm_wk1 g (M + s)) 72 = g 72 := by
      rw [← zs_g2_n (M := M) (s := s) (J := J) (g := g) hl (Or.inl rfl), ← hg2, zm_I_n c3 (by omega)]
    have t3 : zs_tks M s J (zs_wish g) (zm_wk1 g (M + s)) 73 = g 73 := by
      rw [← zs_g2_n (M := M) (s := s) (J := J) (g := g) hl (Or.inr rfl), ← hg2, zm_I_n c3 (by omega)]
    rw [t1, t2, t3]
  have side : ∀ (q n : Nat) (x : zs_X), q ≤ s → q < n → zr_wf (M + s) x.1 → zs_mv M s J (zs_gos M s J g) M q x = zs_g3 M s J g → fX6_stepOn_74 N r n (zm_st S r se1 wi1 go1 sl1 x.2 x.1) (nI (M + q) - 1) = some ((), zm_st S r se1 wi1 go1 sl1 (zs_step M s J g).2 (zs_step M s J g).1) := by
    intro q
    induction q with
    | zero =>
      intro n x hq hn hx he
      obtain ⟨n, rfl⟩ : ∃ q, n = q + 1 := ⟨n - 1, by omega⟩
      simp only [zs_mv] at he
      simp only [fX6_stepOn_74, fX6_stepOn_74b, (zm_okst hok).2.1, zb_let]
      rw [zn_sub1 (by omega), if_pos (by rw [zn_lt (by omega) (by omega)]; omega), m_idleOn hok hl hN (fun z hz => (hx.1 z hz).1)]
      simp only [zb_bind_some, hok.1, mz_pa, mz_a, show Int32.toNatClampNeg 78 = 78 from by decide]
      rw [if_pos (show zb_in 78 79 by decide), if_pos (show zb_in 78 79 by decide), he]
      rfl
    | succ q ih =>
      intro n x hq hn hx he
      obtain ⟨n, rfl⟩ : ∃ q, n = q + 1 := ⟨n - 1, by omega⟩
      have e1 : nI (M + (q + 1)) - 1 = nI (M + q) := zn_s1 (M + q)
      simp only [fX6_stepOn_74, fX6_stepOn_74b, (zm_okst hok).2.1, e1, zb_let, zn_am1]
      rw [if_neg (by rw [zn_lt (by omega) (by omega)]; omega), m_moveOn hok hl (show M + q < M + s by omega) (hgo _ (by omega))]
      simp only [zb_bind_some]
      exact ih n (zs_mv1 M s J (zs_gos M s J g) (M + q) x) (by omega) (by omega) (zr_wf_mv1 hl (by omega) hx) he
  have main : ∀ (q n : Nat) (x : zs_X), q ≤ M → q < n → zr_wf (M + s) x.1 → zs_mv M s J (zs_gos M s J g) M s (zs_mv M s J (zs_gos M s J g) 0 q x) = zs_g3 M s J g → fX6_stepOn_51 N r n (zm_st S r se1 wi1 go1 sl1 x.2 x.1) (nI q - 1) = some ((), zm_st S r se1 wi1 go1 sl1 (zs_step M s J g).2 (zs_step M s J g).1) := by
    intro q
    induction q with
    | zero =>
      intro n x hq hn hx he
      obtain ⟨n, rfl⟩ : ∃ q, n = q + 1 := ⟨n - 1, by omega⟩
      simp only [fX6_stepOn_51, fX6_stepOn_51b, zb_let]
      rw [if_pos zn_neg1, m_zones (zm_okst hok)]
      simp only [zb_bind_some]
      exact side s N x (Nat.le_refl _) (by omega) hx he
    | succ q ih =>
      intro n x hq hn hx he
      obtain ⟨n, rfl⟩ : ∃ q, n = q + 1 := ⟨n - 1, by omega⟩
      simp only [fX6_stepOn_51, fX6_stepOn_51b, zn_s1, zb_let, zn_am1]
      rw [if_neg (by rw [zn_lt0 (by omega)]; exact fun h => h), m_moveOn hok hl (show q < M + s by omega) (hgo _ (by omega))]
      simp only [zb_bind_some]
      refine ih n (zs_mv1 M s J (zs_gos M s J g) q x) (by omega) (by omega) (zr_wf_mv1 hl (by omega) hx) ?_
      simp only [zs_mv, Nat.zero_add] at he
      exact he
  refine ⟨se1, wi1, go1, sl1, ?_⟩
  have fin : fX6_stepOn_39 N r (zm_st S r se1 wi1 go sl1 0 (zs_tks M s J (zs_wish g) (zm_wk1 g (M + s)))) = some ((), zm_st S r se1 wi1 go1 sl1 (zs_step M s J g).2 (zs_step M s J g).1) := by
    unfold fX6_stepOn_39
    rw [c1]
    simp only [zb_bind_some, zb_let, (zm_okst hok).2.1]
    exact main M N (zs_g2 M s J g, 0) (Nat.le_refl _) (by omega) (zr_wf_g2 hl hw) rfl
  unfold fX6_stepOn fX6_stepOn_0
  simp only [zb_let, mz_26]
  rw [a1]
  simp only [zb_bind_some, (zm_okst hok).2.2.2]
  rw [zn_sub1 (by omega), m_ticketOn hok hl (show J - 1 < M + s by omega) (b3 _ (by omega))]
  simp only [zb_bind_some, (zm_okst hok).2.2.1]
  unfold zs_tks at fin
  by_cases h : 0 < s
  · rw [if_neg (by rw [zn_le0 (by omega)]; omega), m_zones (zm_okst hok)]
    simp only [zb_bind_some]
    rw [zn_sub1 (by omega), m_ticketOn hok hl (show M + s - 1 < M + s by omega) (b3 _ (by omega))]
    simp only [zb_bind_some]
    rw [if_pos h] at fin
    exact fin
  · rw [if_pos (by rw [zn_le0 (by omega)]; omega)]
    rw [if_neg h] at fin
    exact fin
/-- n steps of the reference's row -/
theorem m_stepsOn {k : Nat} (hok : zm_ok r M s J S) (hl : zc_lim M s J) (hN : 120 ≤ N) (hk : k ≤ 99) (hw : zr_wf (M + s) g) : ∃ se' wi' go' sl' we', fX6_stepsOn N r (zm_st S r se wi go sl we g) (nI k) = some ((), zm_st S r se' wi' go' sl' we' (zs_steps M s J k g)) := by
  have loop : ∀ (j n i : Nat) (se wi go sl we : Int32), i + j = k → j < n → ∃ se' wi' go' sl' we', fX6_stepsOn_2 N r n (zm_st S r se wi go sl we (zs_steps M s J i g)) (nI k) (nI i) = some ((), zm_st S r se' wi' go' sl' we' (zs_steps M s J k g)) := by
    intro j
    induction j with
    | zero =>
      intro n i se wi go sl we hi hn
      obtain ⟨n, rfl⟩ : ∃ q, n = q + 1 := ⟨n - 1, by omega⟩
      have e : i = k := by omega
      subst e
      refine ⟨se, wi, go, sl, we, ?_⟩
      simp only [fX6_stepsOn_2, fX6_stepsOn_2b]
      rw [if_pos (Int32.le_refl _)]
    | succ j ih =>
      intro n i se wi go sl we hi hn
      obtain ⟨n, rfl⟩ : ∃ q, n = q + 1 := ⟨n - 1, by omega⟩
      simp only [fX6_stepsOn_2, fX6_stepsOn_2b, zb_let]
      rw [if_neg (by rw [zn_le (by omega) (by omega)]; omega)]
      obtain ⟨se1, wi1, go1, sl1, q1⟩ := m_stepOn (N := N) (S := S) (r := r) (se := se) (wi := wi) (go := go) (sl := sl) (we := we) hok hl (by omega) (zr_wf_steps hl i g hw)
      rw [q1]
      simp only [zb_bind_some, zn_ar]
      have := ih n (i + 1) se1 wi1 go1 sl1 (zs_step M s J (zs_steps M s J i g)).2 (by omega) (by omega)
      rw [zs_steps_s] at this
      exact this
  exact loop k N 0 se wi go sl we (by omega) (by omega)
end MS
