/-! the reference's belt -/
def zm_st (S : zb_S) (r : Nat) (se wi go sl we : Int32) (g : Nat → Int32) : zb_S := (va_up S.1 21 (fun k => if k = 22 then se else if k = 23 then wi else if k = 24 then go else if k = 25 then sl else if k = 26 then we else S.1 21 k), S.2.1, va_up S.2.2 r g)
section MB
variable {N r M s J : Nat} {S : zb_S} {se wi go sl we v : Int32} {g : Nat → Int32}
theorem mz_id : S = zm_st S r (zb_i S 21 22) (zb_i S 21 23) (zb_i S 21 24) (zb_i S 21 25) (zb_i S 21 26) (zb_a S r) := by
  have h1 : va_up S.1 21 (fun k => if k = 22 then zb_i S 21 22 else if k = 23 then zb_i S 21 23 else if k = 24 then zb_i S 21 24 else if k = 25 then zb_i S 21 25 else if k = 26 then zb_i S 21 26 else S.1 21 k) = S.1 := by
    funext o k
    simp only [va_up]
    by_cases h : o = 21
    · subst h
      simp only [if_true, zb_i]
      repeat' split
      all_goals simp_all
    · simp [h]
  have h2 : va_up S.2.2 r (zb_a S r) = S.2.2 := by
    funext o
    simp only [va_up]
    by_cases h : o = r
    · subst h; simp; rfl
    · simp [h]
  unfold zm_st
  rw [h1, h2]
theorem mz_pi {k : Nat} (f : Nat → Int32) : zb_pi (va_up S.1 21 f, S.2.1, va_up S.2.2 r g) 21 k v = (va_up S.1 21 (va_up f k v), S.2.1, va_up S.2.2 r g) := by
  show (va_up (va_up S.1 21 f) 21 (va_up ((va_up S.1 21 f) 21) k v), _, _) = _
  rw [bx_uu, show (va_up S.1 21 f) 21 = f by simp [va_up]]
theorem mz_22 : zb_pi (zm_st S r se wi go sl we g) 21 22 v = zm_st S r v wi go sl we g := by
  unfold zm_st; rw [mz_pi]; congr 2; funext k; simp only [va_up]; by_cases h : k = 22 <;> simp [h]
theorem mz_23 : zb_pi (zm_st S r se wi go sl we g) 21 23 v = zm_st S r se v go sl we g := by
  unfold zm_st; rw [mz_pi]; congr 2; funext k; simp only [va_up]; by_cases h : k = 23 <;> simp [h]
theorem mz_24 : zb_pi (zm_st S r se wi go sl we g) 21 24 v = zm_st S r se wi v sl we g := by
  unfold zm_st; rw [mz_pi]; congr 2; funext k; simp only [va_up]; by_cases h : k = 24 <;> simp [h]
theorem mz_25 : zb_pi (zm_st S r se wi go sl we g) 21 25 v = zm_st S r se wi go v we g := by
  unfold zm_st; rw [mz_pi]; congr 2; funext k; simp only [va_up]; by_cases h : k = 25 <;> simp [h]
theorem mz_26 : zb_pi (zm_st S r se wi go sl we g) 21 26 v = zm_st S r se wi go sl v g := by
  unfold zm_st; rw [mz_pi]; congr 2; funext k; simp only [va_up]; by_cases h : k = 26 <;> simp [h]
theorem mz_i22 : zb_i (zm_st S r se wi go sl we g) 21 22 = se := by simp [zb_i, zm_st, va_up]
theorem mz_i23 : zb_i (zm_st S r se wi go sl we g) 21 23 = wi := by simp [zb_i, zm_st, va_up]
theorem mz_i24 : zb_i (zm_st S r se wi go sl we g) 21 24 = go := by simp [zb_i, zm_st, va_up]
theorem mz_i25 : zb_i (zm_st S r se wi go sl we g) 21 25 = sl := by simp [zb_i, zm_st, va_up]
theorem mz_i26 : zb_i (zm_st S r se wi go sl we g) 21 26 = we := by simp [zb_i, zm_st, va_up]
theorem mz_i {k : Nat} (h : k < 22) : zb_i (zm_st S r se wi go sl we g) 21 k = zb_i S 21 k := by
  simp only [zb_i, zm_st, va_up, if_true]
  simp (disch := omega) only [if_neg]
theorem mz_io {o k : Nat} (h : o ≠ 21) : zb_i (zm_st S r se wi go sl we g) o k = zb_i S o k := by simp [zb_i, zm_st, va_up, h]
theorem mz_l {o k : Nat} : zb_l (zm_st S r se wi go sl we g) o k = zb_l S o k := rfl
theorem mz_a : zb_a (zm_st S r se wi go sl we g) r = g := by funext k; simp [zb_a, zm_st, va_up]
theorem mz_ao {o : Nat} (h : o ≠ r) : zb_a (zm_st S r se wi go sl we g) o = zb_a S o := by funext k; simp [zb_a, zm_st, va_up, h]
theorem mz_pa {k : Nat} : zb_pa (zm_st S r se wi go sl we g) r k v = zm_st S r se wi go sl we (upd g k v) := by
  rw [zs_pa, mz_a]
  show (_, _, va_up (va_up S.2.2 r g) r (upd g k v)) = _
  rw [bx_uu]; rfl
abbrev zm_ok (r M s J : Nat) (S : zb_S) : Prop := zb_sz r = 79 ∧ zb_i S 21 4 = nI M ∧ zb_i S 21 5 = nI s ∧ zb_i S 21 6 = nI J
theorem zm_okst (hok : zm_ok r M s J S) : zm_ok r M s J (zm_st S r se wi go sl we g) := ⟨hok.1, by rw [mz_i (by omega)]; exact hok.2.1, by rw [mz_i (by omega)]; exact hok.2.2.1, by rw [mz_i (by omega)]; exact hok.2.2.2⟩
theorem m_has {k : Nat} {a : Int32} (hk : k < 32) : fX6_has N S a (nI k) = some (if bt a k then 1 else 0, S) := by
  unfold fX6_has fX6_has_0
  by_cases h : bt a k = true
  · rw [if_pos ((zb_1 hk).mpr h)]; simp [h]
  · rw [if_neg (fun q => h ((zb_1 hk).mp q))]; simp [h]
theorem m_zones (hok : zm_ok r M s J S) : fX6_zones N S = some (nI (M + s), S) := by
  unfold fX6_zones fX6_zones_0
  rw [hok.2.1, hok.2.2.1, nI_add]
theorem m_behind {z : Nat} (hok : zm_ok r M s J S) (hl : zc_lim M s J) (hz : z < M + s) : fX6_behind N S (nI z) = some (if z = M - 1 then 99 else nI (zs_bh M s J z), S) := by
  obtain ⟨l1, l2, l3, l4, l5⟩ := hl
  unfold fX6_behind fX6_behind_0 zs_bh
  rw [hok.2.1, zn_sub1 (by omega), m_zones hok]
  by_cases h : z = M - 1
  · rw [if_pos (by rw [h]), if_pos h]
  · rw [if_neg (by rw [zn_eq (by omega) (by omega)]; exact h), if_neg h]
    simp only [zb_bind_some]
    rw [zn_sub1 (by omega), hok.2.2.2]
    by_cases h2 : z = M + s - 1
    · rw [if_pos (by rw [h2]), if_pos h2]
    · rw [if_neg (by rw [zn_eq (by omega) (by omega)]; exact h2), if_neg h2, zn_ar]
abbrev zm_c (Z : Nat) (g : Nat → Int32) : Prop := ∀ z, z < Z → ¬ g (6 * z) < 0
theorem m_pos {x : Int32} (h : ¬ x < 0) : x ≤ 0 ↔ x = 0 := by
  constructor
  · intro h2; exact Int32.le_antisymm h2 (Int32.not_lt.mp h)
  · intro h2; rw [h2]; exact Int32.le_refl _
theorem m_seesAt {z : Nat} (hok : zm_ok r M s J S) (hl : zc_lim M s J) (hz : z < M + s) (hc : zm_c (M + s) (zb_a S r)) : fX6_seesAt N r S (nI z) = some (if zs_see (zb_a S r) z then 1 else 0, S) := by
  obtain ⟨l1, l2, l3, l4, l5⟩ := hl
  unfold fX6_seesAt fX6_seesAt_0 fX6_seesAt_29
  simp only [zn_ml, zn_ar, hok.1, zb_let]
  have e1 : Int32.toNatClampNeg (nI (6 * z + 1)) = 6 * z + 1 := zn_cl (by omega)
  have e0 : Int32.toNatClampNeg (nI (6 * z + 0)) = 6 * z := zn_cl (by omega)
  rw [if_pos ((zn_in (by omega)).mpr (by omega))]
  simp only [e1, e0]
  unfold zs_see
  by_cases h1 : zb_a S r (6 * z + 1) = 2
  · simp [h1]
  · rw [if_neg h1]
    by_cases h2 : zb_a S r (6 * z + 1) = 0
    · rw [if_pos h2, if_pos ((zn_in (by omega)).mpr (by omega))]
      by_cases h3 : zb_a S r (6 * z) = 0
      · rw [if_pos ((m_pos (hc z hz)).mpr h3)]; simp [h2, h3]
      · rw [if_neg (fun q => h3 ((m_pos (hc z hz)).mp q))]; simp [h2, h3]
    · rw [if_neg h2]; simp [h1, h2]
theorem m_allThatSee (hok : zm_ok r M s J S) (hl : zc_lim M s J) (hN : 20 ≤ N) (hc : zm_c (M + s) (zb_a S r)) : ∃ m, fX6_allThatSee N r S = some (m, S) ∧ ∀ k, k < 32 → bt m k = (decide (k < M + s) && zs_see (zb_a S r) k) := by
  have hl' := hl
  obtain ⟨l1, l2, l3, l4, l5⟩ := hl
  refine zm_loop (F := fun n m i => fX6_allThatSee_4 N r n S m i) (Z := M + s) (by omega) ?_ ?_ N (by omega)
  · intro n i m hi
    simp only [fX6_allThatSee_4, fX6_allThatSee_4b, fX6_allThatSee_28, zb_let, m_zones hok, zb_bind_some]
    rw [if_neg (by rw [zn_le (by omega) (by omega)]; omega), m_seesAt hok hl' hi hc]
    simp only [zb_bind_some, zn_ar]
    by_cases h : zs_see (zb_a S r) i = true
    · simp [h]
    · simp [h]
  · intro n m
    simp only [fX6_allThatSee_4, fX6_allThatSee_4b, m_zones hok, zb_bind_some]
    rw [if_pos (Int32.le_refl _)]
/-- those that see are awake, of the first i zones -/
def zm_wk1 (g : Nat → Int32) (i : Nat) : Nat → Int32 := fun q => if q % 6 = 3 ∧ q / 6 < i ∧ zs_see g (q / 6) = true then 0 else g q
theorem zm_wk1_n {i q : Nat} (h : ¬ (q % 6 = 3 ∧ q / 6 < i)) : zm_wk1 g i q = g q := by
  unfold zm_wk1; rw [if_neg (fun c => h ⟨c.1, c.2.1⟩)]
theorem zm_wk1_s {i : Nat} : zm_wk1 g (i + 1) = if zs_see g i = true then upd (zm_wk1 g i) (6 * i + 3) 0 else zm_wk1 g i := by
  funext q
  by_cases h : zs_see g i = true
  · rw [if_pos h]
    by_cases e : q = 6 * i + 3
    · subst e; rw [upd_s]; unfold zm_wk1
      rw [if_pos ⟨by omega, by omega, by rw [show (6 * i + 3) / 6 = i by omega]; exact h⟩]
    · rw [upd_n e]; unfold zm_wk1
      have : (q % 6 = 3 ∧ q / 6 < i + 1 ∧ zs_see g (q / 6) = true) ↔ (q % 6 = 3 ∧ q / 6 < i ∧ zs_see g (q / 6) = true) := by
        constructor
        · rintro ⟨a, b, c⟩; exact ⟨a, by omega, c⟩
        · rintro ⟨a, b, c⟩; exact ⟨a, by omega, c⟩
      simp only [this]
  · rw [if_neg h]; unfold zm_wk1
    have : (q % 6 = 3 ∧ q / 6 < i + 1 ∧ zs_see g (q / 6) = true) ↔ (q % 6 = 3 ∧ q / 6 < i ∧ zs_see g (q / 6) = true) := by
      constructor
      · rintro ⟨a, b, c⟩
        refine ⟨a, ?_, c⟩
        rcases Nat.lt_or_ge (q / 6) i with z | z
        · exact z
        · have : q / 6 = i := by omega
          rw [this] at c; exact absurd c h
      · rintro ⟨a, b, c⟩; exact ⟨a, by omega, c⟩
    simp only [this]
theorem zm_bits_s {m : Int32} {p : Nat → Bool} {i : Nat} {c : Bool} (hi : i < 31) (hm : ∀ k, k < 32 → bt m k = (decide (k < i) && p k)) (hc : p i = c) : ∀ k, k < 32 → bt (m ||| (if c = true then (1 : Int32) <<< (nI i &&& 31) else 0)) k = (decide (k < i + 1) && p k) := by
  intro k hk
  rw [b_or, hm k hk, zb_bitc (by omega) hk]
  by_cases e : k = i
  · subst e; simp [hc]
  · have : (k < i + 1) ↔ (k < i) := by omega
    simp [e, this]
theorem zm_bits_0 {m : Int32} {p : Nat → Bool} {i : Nat} (hm : ∀ k, k < 32 → bt m k = (decide (k < i) && p k)) (hc : p i = false) : ∀ k, k < 32 → bt m k = (decide (k < i + 1) && p k) := by
  intro k hk
  rw [hm k hk]
  by_cases e : k = i
  · subst e; simp [hc]
  · have : (k < i + 1) ↔ (k < i) := by omega
    simp [this]
theorem m_wakeOn {se₀ wi₀ sl₀ : Int32} (hok : zm_ok r M s J S) (hl : zc_lim M s J) (hN : 20 ≤ N) (hw : zr_wf (M + s) g) : ∃ se wi sl, fX6_wakeOn N r (zm_st S r se₀ wi₀ go sl₀ we g) = some ((), zm_st S r se wi go sl we (zm_wk1 g (M + s))) ∧ (∀ k, k < 32 → bt se k = (decide (k < M + s) && zs_see g k)) ∧ (∀ k, k < 32 → bt wi k = (decide (k < M + s) && zs_wish g k)) ∧ ∀ k, k < 32 → bt sl k = (decide (k < M + s) && zs_slp g k) := by
  have hl' := hl
  obtain ⟨l1, l2, l3, l4, l5⟩ := hl
  obtain ⟨se, e1, e2⟩ := m_allThatSee (N := N) (S := zm_st S r se₀ wi₀ go sl₀ we g) (zm_okst hok) hl' hN (by rw [mz_a]; exact fun z hz => (hw.1 z hz).1)
  rw [mz_a] at e2
  have loop : ∀ (j n i : Nat) (wi sl : Int32), i + j = M + s → j < n → (∀ k, k < 32 → bt wi k = (decide (k < i) && zs_wish g k)) → (∀ k, k < 32 → bt sl k = (decide (k < i) && zs_slp g k)) → ∃ wi' sl', fX6_wakeOn_21 N r n (zm_st S r se wi go sl we (zm_wk1 g i)) (nI i) = some ((), zm_st S r se wi' go sl' we (zm_wk1 g (M + s))) ∧ (∀ k, k < 32 → bt wi' k = (decide (k < M + s) && zs_wish g k)) ∧ ∀ k, k < 32 → bt sl' k = (decide (k < M + s) && zs_slp g k) := by
    intro j
    induction j with
    | zero =>
      intro n i wi sl hi hn hb1 hb2
      obtain ⟨n, rfl⟩ : ∃ q, n = q + 1 := ⟨n - 1, by omega⟩
      have e : i = M + s := by omega
      subst e
      refine ⟨wi, sl, ?_, hb1, hb2⟩
      simp only [fX6_wakeOn_21, fX6_wakeOn_21b, m_zones (zm_okst hok), zb_bind_some]
      rw [if_pos (Int32.le_refl _)]
    | succ j ih =>
      intro n i wi sl hi hn hb1 hb2
      obtain ⟨n, rfl⟩ : ∃ q, n = q + 1 := ⟨n - 1, by omega⟩
      have c3 : Int32.toNatClampNeg (nI (6 * i + 3)) = 6 * i + 3 := zn_cl (by omega)
      have c2 : Int32.toNatClampNeg (nI (6 * i + 2)) = 6 * i + 2 := zn_cl (by omega)
      have i3 : zb_in (nI (6 * i + 3)) 79 := (zn_in (by omega)).mpr (by omega)
      have i2 : zb_in (nI (6 * i + 2)) 79 := (zn_in (by omega)).mpr (by omega)
      simp only [fX6_wakeOn_21, fX6_wakeOn_21b, m_zones (zm_okst hok), zb_bind_some, zn_ml, zn_ar, hok.1, c3, mz_a]
      rw [if_neg (by rw [zn_le (by omega) (by omega)]; omega), if_pos i3, zm_wk1_n (by omega)]
      have hsee : bt se i = zs_see g i := by rw [e2 i (by omega)]; simp [show i < M + s by omega]
      obtain ⟨-, -, hj, hsl⟩ := hw.1 i (by omega)
      -- the rest of a turn, with what the sleeping set becomes
      have tail : ∀ (sl1 l3v : Int32), (l3v = 0 ↔ zs_slp g i = false) → (∀ k, k < 32 → bt sl1 k = (decide (k < i + 1) && zs_slp g k)) → ∀ (s0 s1 : Int32), (s1 ||| s0) = sl1 → ∃ wi' sl', fX6_wakeOn_63 N r (fX6_wakeOn_21 N r n) (zm_st S r se wi go sl we (zm_wk1 g i)) (nI i) l3v s0 s1 = some ((), zm_st S r se wi' go sl' we (zm_wk1 g (M + s))) ∧ (∀ k, k < 32 → bt wi' k = (decide (k < M + s) && zs_wish g k)) ∧ ∀ k, k < 32 → bt sl' k = (decide (k < M + s) && zs_slp g k) := by
        intro sl1 l3v hl3 hb3 s0 s1 hs1
        simp only [fX6_wakeOn_63, fX6_wakeOn_118, fX6_wakeOn_114, fX6_wakeOn_113, zb_let, mz_25, mz_i22, zn_ml, zn_ar, hok.1, c3, c2, hs1]
        rw [m_has (by omega), hsee]
        simp only [zb_bind_some]
        by_cases h2 : zs_see g i = true
        · rw [if_neg (by simp [h2]), if_pos i3]
          simp only [mz_pa, mz_a, mz_i23, mz_23]
          have hwk : upd (zm_wk1 g i) (6 * i + 3) 0 = zm_wk1 g (i + 1) := by rw [zm_wk1_s, if_pos h2]
          rw [hwk]
          have e22 : zm_wk1 g (i + 1) (6 * i + 2) = g (6 * i + 2) := zm_wk1_n (by omega)
          by_cases h4 : l3v = 0
          · rw [if_pos h4, if_pos i2, e22]
            have hs4 := hl3.mp h4
            rcases hj with h3 | h3
            · rw [if_pos h3]
              refine ih n (i + 1) _ _ (by omega) (by omega) ?_ hb3
              have hwi : zs_wish g i = true := by unfold zs_wish; simp [h2, hs4, h3]
              have := zm_bits_s (c := true) (show i < 31 by omega) hb1 hwi
              simpa using this
            · rw [if_neg (by rw [h3]; decide)]
              refine ih n (i + 1) _ _ (by omega) (by omega) ?_ hb3
              have hwi : zs_wish g i = false := by unfold zs_wish; simp [h3]
              have := zm_bits_s (c := false) (show i < 31 by omega) hb1 hwi
              simpa using this
          · rw [if_neg h4]
            refine ih n (i + 1) _ _ (by omega) (by omega) ?_ hb3
            have hs4 : zs_slp g i = true := by
              cases hq : zs_slp g i
              · exact absurd (hl3.mpr hq) h4
              · rfl
            have hwi : zs_wish g i = false := by unfold zs_wish; simp [hs4]
            have := zm_bits_s (c := false) (show i < 31 by omega) hb1 hwi
            simpa using this
        · rw [if_pos (by simp [h2])]
          have hwk : zm_wk1 g i = zm_wk1 g (i + 1) := by rw [zm_wk1_s, if_neg h2]
          rw [hwk]
          refine ih n (i + 1) _ _ (by omega) (by omega) ?_ hb3
          exact zm_bits_0 hb1 (by unfold zs_wish; simp [h2])
      by_cases h1 : g (6 * i + 3) = 1
      · rw [if_pos h1]
        simp only [fX6_wakeOn_46, mz_i25]
        rw [if_neg (by decide)]
        have hq : zs_slp g i = true := by unfold zs_slp; simp [h1]
        exact tail _ 1 ⟨fun h => absurd h (by decide), fun h => by rw [hq] at h; cases h⟩ (by have := zm_bits_s (c := true) (show i < 31 by omega) hb2 hq; simpa using this) _ _ rfl
      · rw [if_neg h1]
        simp only [fX6_wakeOn_46, mz_i25]
        rw [if_pos (by decide)]
        have hq : zs_slp g i = false := by unfold zs_slp; simp [h1]
        exact tail _ 0 ⟨fun _ => hq, fun _ => rfl⟩ (by have := zm_bits_s (c := false) (show i < 31 by omega) hb2 hq; simpa using this) _ _ rfl
  unfold fX6_wakeOn fX6_wakeOn_0
  rw [e1]
  simp only [zb_bind_some, zb_let, mz_22, mz_25, mz_23]
  obtain ⟨wi, sl, q1, q2, q3⟩ := loop (M + s) N 0 0 0 (by omega) (by omega) (fun k _ => by rw [b_0]; simp) (fun k _ => by rw [b_0]; simp)
  have e0 : zm_wk1 g 0 = g := by funext q; exact zm_wk1_n (by omega)
  rw [e0] at q1
  exact ⟨se, wi, sl, q1, e2, q2, q3⟩
theorem m_ticketOn {z : Nat} {w : Bool} (hok : zm_ok r M s J S) (hl : zc_lim M s J) (hz : z < M + s) (hb : bt wi z = w) : fX6_ticketOn N r (zm_st S r se wi go sl we g) (nI z) = some ((), zm_st S r se wi go sl we (zs_tk w z g)) := by
  obtain ⟨l1, l2, l3, l4, l5⟩ := hl
  have c5 : Int32.toNatClampNeg (nI (6 * z + 5)) = 6 * z + 5 := zn_cl (by omega)
  have i5 : zb_in (nI (6 * z + 5)) 79 := (zn_in (by omega)).mpr (by omega)
  have i75 : zb_in 75 79 := by decide
  have c75 : Int32.toNatClampNeg 75 = 75 := by decide
  unfold fX6_ticketOn fX6_ticketOn_0
  rw [mz_i23, m_has (by omega), hb]
  simp only [zb_bind_some, zn_ml, zn_ar, hok.1, c5, c75, mz_a, zb_let, mz_pa]
  unfold zs_tk
  by_cases h1 : w = true
  · rw [if_neg (by simp [h1]), if_pos i5]
    by_cases h2 : g (6 * z + 5) = 0
    · rw [if_pos h2, if_pos i75, if_pos i75, if_pos i75, if_pos i5, if_pos (show w = true ∧ g (6 * z + 5) = 0 from ⟨h1, h2⟩), upd_s]
    · rw [if_neg h2, if_neg (fun q => h2 q.2)]
  · rw [if_pos (by simp [h1]), if_neg (fun q => h1 q.1)]
/-- what may() answers, and what it wakes -/
theorem m_may {z : Nat} (hok : zm_ok r M s J S) (hl : zc_lim M s J) (hz : z < M + s) : fX6_may N r (zm_st S r se wi go sl we g) (nI z) = some (if (bt wi z && (if z = M - 1 then decide (g 72 = 1) else (!bt sl (zs_bh M s J z) && (!bt se (zs_bh M s J z) || (decide (g 73 = 1) && bt go (zs_bh M s J z)))))) = true then 1 else 0, zm_st S r se wi go sl we (if (bt wi z && !decide (z = M - 1) && bt sl (zs_bh M s J z)) = true then upd g (6 * zs_bh M s J z + 3) 0 else g)) := by
  have hl' := hl
  obtain ⟨l1, l2, l3, l4, l5⟩ := hl
  unfold fX6_may fX6_may_0 fX6_may_91
  rw [mz_i23, m_has (by omega)]
  simp only [zb_bind_some]
  by_cases h1 : bt wi z = true
  · rw [if_neg (by simp [h1]), m_behind (zm_okst hok) hl' hz]
    simp only [zb_bind_some, hok.1, mz_a, show Int32.toNatClampNeg 72 = 72 from by decide, show Int32.toNatClampNeg 73 = 73 from by decide]
    by_cases h2 : z = M - 1
    · rw [if_pos (by rw [if_pos h2])]
      rw [if_pos (show zb_in 72 79 by decide)]
      by_cases h3 : g 72 = 1
      · rw [if_pos h3]
        have h1' : bt wi (M - 1) = true := by rw [← h2]; exact h1
        simp [h1', h2, h3]
      · rw [if_neg h3]; simp [h2, h3]
    · have hb := zs_bh_lt hl' hz h2
      have c3 : Int32.toNatClampNeg (nI (6 * zs_bh M s J z + 3)) = 6 * zs_bh M s J z + 3 := zn_cl (by omega)
      have i3 : zb_in (nI (6 * zs_bh M s J z + 3)) 79 := (zn_in (by omega)).mpr (by omega)
      rw [if_neg h2]
      rw [if_neg (show ¬ nI (zs_bh M s J z) = 99 by rw [show (99 : Int32) = nI 99 from rfl, zn_eq (by omega) (by omega)]; omega)]
      rw [mz_i25, m_has (by omega)]
      simp only [zb_bind_some, zn_ml, zn_ar, c3, zb_let, mz_pa]
      by_cases h3 : bt sl (zs_bh M s J z) = true
      · rw [if_neg (by simp [h3]), if_pos i3]
        simp [h1, h2, h3]
      · rw [if_pos (by simp [h3]), mz_i22, m_has (by omega)]
        simp only [zb_bind_some, mz_a]
        by_cases h4 : bt se (zs_bh M s J z) = true
        · rw [if_neg (by simp [h4]), if_pos (show zb_in 73 79 by decide)]
          by_cases h5 : g 73 = 1
          · rw [if_pos h5, mz_i24, m_has (by omega)]
            simp only [zb_bind_some]
            by_cases h6 : bt go (zs_bh M s J z) = true
            · simp [h1, h2, h3, h4, h5, h6]
            · simp [h2, h3, h4, h6]
          · rw [if_neg h5]; simp [h2, h3, h4, h5]
        · rw [if_pos (by simp [h4])]
          simp [h1, h2, h3, h4]
  · rw [if_pos (by simp [h1])]
    simp [h1]
/-- a carton goes on, in the reference -/
theorem m_moveOn {z : Nat} {c : Bool} (hok : zm_ok r M s J S) (hl : zc_lim M s J) (hz : z < M + s) (hb : bt go z = c) : fX6_moveOn N r (zm_st S r se wi go sl we g) (nI z) = some ((), zm_st S r se wi go sl (if c = true then zs_ho M s J z (upd g (6 * z + 5) 0) we else (g, we)).2 (if c = true then zs_ho M s J z (upd g (6 * z + 5) 0) we else (g, we)).1) := by
  have hl' := hl
  obtain ⟨l1, l2, l3, l4, l5⟩ := hl
  unfold fX6_moveOn fX6_moveOn_0
  rw [mz_i24, m_has (by omega), hb]
  simp only [zb_bind_some]
  by_cases h1 : c = true
  · rw [if_neg (by simp [h1])]
    have c5 : Int32.toNatClampNeg (nI (6 * z + 5)) = 6 * z + 5 := zn_cl (by omega)
    have i5 : zb_in (nI (6 * z + 5)) 79 := (zn_in (by omega)).mpr (by omega)
    have c0 : Int32.toNatClampNeg (nI (6 * z + 0)) = 6 * z := zn_cl (by omega)
    have i0 : zb_in (nI (6 * z + 0)) 79 := (zn_in (by omega)).mpr (by omega)
    have c2 : Int32.toNatClampNeg (nI (6 * z + 2)) = 6 * z + 2 := zn_cl (by omega)
    have i2 : zb_in (nI (6 * z + 2)) 79 := (zn_in (by omega)).mpr (by omega)
    simp only [h1, if_true, zb_let, m_behind (zm_okst hok) hl' hz, zb_bind_some, zn_ml, zn_ar, hok.1, c5, c0, c2, mz_pa, mz_a]
    rw [if_pos i5, if_pos i0]
    generalize hg1 : upd g (6 * z + 5) 0 = g1
    unfold zs_ho
    by_cases h2 : g1 (6 * z) = 0
    · rw [if_pos h2, if_pos h2]
    · rw [if_neg h2, if_neg h2]
      by_cases h3 : z = M - 1
      · rw [if_pos h3, if_pos rfl, if_pos h3, if_pos i0]
        simp only [mz_26, mz_pa, mz_a, show Int32.toNatClampNeg 77 = 77 from by decide]
        rw [if_pos i0, if_pos (show zb_in 77 79 by decide), if_pos (show zb_in 77 79 by decide), upd_n (show 77 ≠ 6 * z by omega)]
      · have hbh := zs_bh_lt hl' hz h3
        have cb : Int32.toNatClampNeg (nI (6 * zs_bh M s J z + 0)) = 6 * zs_bh M s J z := zn_cl (by omega)
        have ib : zb_in (nI (6 * zs_bh M s J z + 0)) 79 := (zn_in (by omega)).mpr (by omega)
        rw [if_neg h3, if_neg h3]
        rw [if_neg (show ¬ nI (zs_bh M s J z) = 99 by rw [show (99 : Int32) = nI 99 from rfl, zn_eq (by omega) (by omega)]; omega)]
        simp only [zn_ml, zn_ar, cb]
        rw [if_pos ib]
        by_cases h4 : g1 (6 * zs_bh M s J z) = 0
        · rw [if_pos h4, if_pos h4, if_pos i0, if_pos ib, if_pos i0]
        · rw [if_neg h4, if_neg h4, if_pos i2]
  · rw [if_pos (by simp [h1])]
    simp [h1]
end MB
