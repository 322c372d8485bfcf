section DR
variable {M s J tl na nx ns N b r : Nat} {S T S' S'' : zb_S} {f f' g g' : Nat → Int32}
def zs_sd (x : Int64) : Int64 := (x * 6364136223846793005) + 1442695040888963407
def zs_ln (x : Int64) : Int32 := (Int64.toInt32 ((Int64.toUInt64 x >>> ((Int32.toInt64 33).toUInt64 &&& Int64.toUInt64 63)).toInt64)) - (Int64.toInt32 ((Int64.toUInt64 x >>> ((Int32.toInt64 33).toUInt64 &&& Int64.toUInt64 63)).toInt64)) / 3 * 3
def zs_fdd (M s : Nat) (a : Int32) (g : Nat → Int32) : Nat → Int32 := if (a = 0 ∨ (a = 1 ∧ 0 < s)) ∧ g (6 * zs_en M a) = 0 ∧ ¬ 99 ≤ g 76 then upd (upd g 76 (g 76 + 1)) (6 * zs_en M a) (g 76 + 1) else g
def zs_drF (sd : Int64 → Int64) (ln : Int64 → Int32) (M s J : Nat) : Nat → (Nat → Int32) → Int64 → (Nat → Int32) × Int64
  | 0, g, x => (g, x)
  | j + 1, g, x => zs_drF sd ln M s J j (zs_step M s J (zs_fdd M s (ln (sd x)) g)).1 (sd x)
def fX5_drawn_27s (sd : Int64 → Int64) (ln : Int64 → Int32) (N : Nat) (k27 : zb_S → Int32 → Int32 → Option (Int32 × zb_S)) (S : zb_S) (l1 : Int32) (l2 : Int32) : Option (Int32 × zb_S) :=
  if l1 ≤ l2 then
    if zb_in 55 (zb_sz 6) then
    if zb_in 55 (zb_sz 4) then
    some ((zb_a S 6 (Int32.toNatClampNeg 55)) - (zb_a S 4 (Int32.toNatClampNeg 55)), S) else none else none
  else
    zb_let (zb_pl S 0 11 (sd (zb_l S 0 11))) (fun S1 : zb_S =>
    if 3 = 0 then none else
    zb_let (ln (zb_l S1 0 11)) (fun x2 : Int32 =>
    zb_bind (fX1_canFeed N 5 S1 x2) (fun r4 S3 =>
    if r4 = 0 then
      fX5_drawn_86 N k27 S3 l1 l2
    else
      zb_bind (fX1_entryOf N 5 S3 x2) (fun r6 S5 =>
      zb_bind (fX1_putNext N 5 S5 r6) (fun r8 S7 =>
      fX5_drawn_86 N k27 S7 l1 l2)))))
theorem fX5_drawn_27e (N : Nat) (k27 : zb_S → Int32 → Int32 → Option (Int32 × zb_S)) (S : zb_S) (l1 : Int32) (l2 : Int32) : fX5_drawn_27b N k27 S l1 l2 = fX5_drawn_27s zs_sd zs_ln N k27 S l1 l2 := by
  unfold fX5_drawn_27b fX5_drawn_27s zs_sd zs_ln
  rfl
def fX6_drawn_26s (sd : Int64 → Int64) (ln : Int64 → Int32) (N : Nat) (k26 : zb_S → Int32 → Int32 → Option (Int32 × zb_S)) (S : zb_S) (l1 : Int32) (l2 : Int32) : Option (Int32 × zb_S) :=
  if l1 ≤ l2 then
    if zb_in 77 (zb_sz 25) then
    if zb_in 77 (zb_sz 24) then
    some ((zb_a S 25 (Int32.toNatClampNeg 77)) - (zb_a S 24 (Int32.toNatClampNeg 77)), S) else none else none
  else
    zb_let (zb_pl S 21 21 (sd (zb_l S 21 21))) (fun S1 : zb_S =>
    if 3 = 0 then none else
    zb_let (ln (zb_l S1 21 21)) (fun x2 : Int32 =>
    zb_bind (fX6_noLine N S1 x2) (fun r4 S3 =>
    if r4 = 0 then
      zb_bind (fX6_entry N S3 x2) (fun r6 S5 =>
      if zb_in ((6 * r6) + 0) (zb_sz 25) then
      if (zb_a S5 25 (Int32.toNatClampNeg ((6 * r6) + 0))) = 0 then
        if zb_in 76 (zb_sz 25) then
        if 99 ≤ (zb_a S5 25 (Int32.toNatClampNeg 76)) then
          fX6_drawn_105 N k26 S5 l1 l2
        else
          zb_bind (fX6_feedOn N 25 S5 x2) (fun _ S7 =>
          fX6_drawn_105 N k26 S7 l1 l2) else none
      else
        fX6_drawn_105 N k26 S5 l1 l2 else none)
    else
      fX6_drawn_105 N k26 S3 l1 l2)))
theorem fX6_drawn_26e (N : Nat) (k26 : zb_S → Int32 → Int32 → Option (Int32 × zb_S)) (S : zb_S) (l1 : Int32) (l2 : Int32) : fX6_drawn_26b N k26 S l1 l2 = fX6_drawn_26s zs_sd zs_ln N k26 S l1 l2 := by
  unfold fX6_drawn_26b fX6_drawn_26s zs_sd zs_ln
  rfl
def fX5_drawn_27q (sd : Int64 → Int64) (ln : Int64 → Int32) (N : Nat) : Nat → zb_S → Int32 → Int32 → Option (Int32 × zb_S)
  | 0, _, _, _ => none
  | n + 1, S, l1, l2 => fX5_drawn_27s sd ln N (fX5_drawn_27q sd ln N n) S l1 l2
def fX6_drawn_26q (sd : Int64 → Int64) (ln : Int64 → Int32) (N : Nat) : Nat → zb_S → Int32 → Int32 → Option (Int32 × zb_S)
  | 0, _, _, _ => none
  | n + 1, S, l1, l2 => fX6_drawn_26s sd ln N (fX6_drawn_26q sd ln N n) S l1 l2
theorem fX5_drawn_27r (N : Nat) : ∀ n, fX5_drawn_27 N n = fX5_drawn_27q zs_sd zs_ln N n := by
  intro n
  induction n with
  | zero => rfl
  | succ n ih => funext S l1 l2; rw [show fX5_drawn_27 N (n + 1) S l1 l2 = fX5_drawn_27b N (fX5_drawn_27 N n) S l1 l2 from rfl, fX5_drawn_27e, ih]; rfl
theorem fX6_drawn_26r (N : Nat) : ∀ n, fX6_drawn_26 N n = fX6_drawn_26q zs_sd zs_ln N n := by
  intro n
  induction n with
  | zero => rfl
  | succ n ih => funext S l1 l2; rw [show fX6_drawn_26 N (n + 1) S l1 l2 = fX6_drawn_26b N (fX6_drawn_26 N n) S l1 l2 from rfl, fX6_drawn_26e, ih]; rfl
theorem zr_wf_fdd {a : Int32} (hl : zc_lim M s J) (hw : zr_wf (M + s) g) : zr_wf (M + s) (zs_fdd M s a g) := by
  obtain ⟨l1, l2, l3, l4, l5⟩ := id hl
  unfold zs_fdd
  split
  · rename_i h
    obtain ⟨h1, h2, h3⟩ := h
    have he := zs_en_lt hl h1
    obtain ⟨q, hq, eq⟩ := hw.2.2.2.2
    have hq2 : q < 99 := by
      rcases Nat.lt_or_ge q 99 with c | c
      · exact c
      · exact absurd (by rw [eq, show (99 : Int32) = nI 99 from rfl, zn_le (by omega) (by omega)]; omega) h3
    rw [eq, show nI q + 1 = nI (q + 1) from nI_1 q]
    exact zr_wf_upd (zr_wf_76 hw (by omega) (by omega)) (by omega) (fun _ => by rw [zn_lt0 (by omega)]; exact fun h => h) (by omega) (by omega) (by omega) (by omega)
  · exact hw
theorem p_canFeed {a : Int32} (hok : zc_ok b M s J S) (hl : zc_lim M s J) (hr : zr_Rel (M + s) (zb_a S (b + 1)) g) : fX1_canFeed N b S a = some (if (a = 0 ∨ (a = 1 ∧ 0 < s)) ∧ g (6 * zs_en M a) = 0 ∧ ¬ 99 ≤ g 76 then 1 else 0, S) := by
  obtain ⟨l1, l2, l3, l4, l5⟩ := id hl
  have hs := (zk_X1_4 hok.1).2.2
  have i54 : zb_in 54 57 := by decide
  have c54 : Int32.toNatClampNeg 54 = 54 := by decide
  unfold fX1_canFeed fX1_canFeed_0
  simp only [p_hasLine hok hl, zb_bind_some]
  by_cases hv : a = 0 ∨ (a = 1 ∧ 0 < s)
  · have he := zs_en_lt hl hv
    simp only [if_pos hv, p_entryOf hok, zb_bind_some, p_hasCarton hok (show zs_en M a < 57 by omega), hs, if_pos i54, c54]
    rw [(hr.1 _ he).1, show zb_a S (b + 1) 54 = g 76 from hr.2.2.2 4 (by omega), if_neg (by decide)]
    by_cases h1 : g (6 * zs_en M a) = 0
    · rw [if_pos (by rw [if_pos h1])]
      by_cases h2 : 99 ≤ g 76
      · rw [if_pos h2]; simp [h2]
      · rw [if_neg h2]; simp [hv, h1, h2]
    · rw [if_neg (by rw [if_neg h1]; decide)]; simp [h1]
  · simp only [if_neg hv]; simp [hv]
theorem p_drawn {k : Nat} {sd : Int64 → Int64} {ln : Int64 → Int32} (hl : zc_lim M s J) (hN : 5000 ≤ N) (hk : k ≤ 40) : ∀ (j n i : Nat) (S : zb_S) (g : Nat → Int32), i + j = k → j < n → zc_ok 5 M s J S → zr_Rel (M + s) (zb_a S 6) g → ∃ S1, fX5_drawn_27q sd ln N n S (nI k) (nI i) = some ((zs_drF sd ln M s J j g (zb_l S 0 11)).1 77 - zb_a S 4 55, S1) ∧ zq S S1 ∧ zb_l S1 0 11 = (zs_drF sd ln M s J j g (zb_l S 0 11)).2 ∧ zb_l S1 21 21 = zb_l S 21 21 := by
  intro j
  obtain ⟨l1, l2, l3, l4, l5⟩ := id hl
  induction j with
  | zero =>
    intro n i S g hi hn hok hr
    obtain ⟨n, rfl⟩ : ∃ q, n = q + 1 := ⟨n - 1, by omega⟩
    have e : i = k := by omega
    subst e
    refine ⟨S, ?_, zq.rf, rfl, rfl⟩
    simp only [fX5_drawn_27q, fX5_drawn_27s, zs_drF]
    rw [if_pos (Int32.le_refl _), if_pos (by decide), if_pos (by decide), show Int32.toNatClampNeg 55 = 55 from by decide, show zb_a S 6 55 = g 77 from hr.2.2.2 5 (by omega)]
  | succ j ih =>
    intro n i S g hi hn hok hr
    obtain ⟨n, rfl⟩ : ∃ q, n = q + 1 := ⟨n - 1, by omega⟩
    generalize hx : sd (zb_l S 0 11) = x
    generalize hS1 : zb_pl S 0 11 x = S1
    have okS1 : zc_ok 5 M s J S1 := by rw [← hS1]; exact hok
    have rS1 : zr_Rel (M + s) (zb_a S1 6) g := by rw [← hS1]; exact hr
    have lS1 : zb_l S1 0 11 = x := by rw [← hS1]; rfl
    have qS1 : zq S S1 := by rw [← hS1]; exact ⟨fun _ _ _ _ => rfl, fun _ _ _ _ _ _ _ => rfl, fun _ _ => rfl⟩
    have mS1 : zb_l S1 21 21 = zb_l S 21 21 := by rw [← hS1]; rfl
    have aS1 : zb_a S1 4 = zb_a S 4 := by rw [← hS1]; rfl
    -- the rest of a turn
    have tail : ∀ (S2 : zb_S), zt S1 S2 → zc_ok 5 M s J S2 → zr_Rel (M + s) (zb_a S2 6) (zs_fdd M s (ln x) g) → ∃ S3, fX5_drawn_86 N (fX5_drawn_27q sd ln N n) S2 (nI k) (nI i) = some ((zs_drF sd ln M s J (j + 1) g (zb_l S 0 11)).1 77 - zb_a S 4 55, S3) ∧ zq S S3 ∧ zb_l S3 0 11 = (zs_drF sd ln M s J (j + 1) g (zb_l S 0 11)).2 ∧ zb_l S3 21 21 = zb_l S 21 21 := by
      intro S2 t2 ok2 r2
      obtain ⟨S3, q1, q2, q3, q4, -⟩ := p_tstep (N := N) ok2 hl hN r2
      simp only [fX5_drawn_86, q1, zb_bind_some, zb_let, zn_ar, zs_drF, hx]
      obtain ⟨S4, u1, u2, u3, u4⟩ := ih n (i + 1) S3 _ (by omega) (by omega) q3 q4
      have e1 : zb_l S3 0 11 = x := by rw [q2.2, t2.2, lS1]
      have e2 : zb_a S3 4 = zb_a S 4 := by rw [q2.1.2.1 4 (by omega) (by omega) (by omega) (by omega) (by omega) (by omega), t2.1.2.1 4 (by omega) (by omega) (by omega) (by omega) (by omega) (by omega), aS1]
      rw [e1, e2] at u1
      rw [e1] at u3
      exact ⟨S4, u1, ((qS1.tr t2.1).tr q2.1).tr u2, u3, by rw [u4, q2.2, t2.2, mS1]⟩
    simp only [fX5_drawn_27q, fX5_drawn_27s, zb_let]
    rw [if_neg (by rw [zn_le (by omega) (by omega)]; omega), if_neg (show ¬ (3 : Nat) = 0 by omega)]
    rw [hx, hS1, lS1]
    rw [p_canFeed okS1 hl rS1]
    simp only [zb_bind_some]
    by_cases hv : ((ln x = 0 ∨ (ln x = 1 ∧ 0 < s)) ∧ g (6 * zs_en M (ln x)) = 0 ∧ ¬ 99 ≤ g 76)
    · have he := zs_en_lt hl hv.1
      rw [if_neg (by rw [if_pos hv]; decide), p_entryOf okS1]
      simp only [zb_bind_some]
      have e54 : zb_a S1 6 54 = g 76 := rS1.2.2.2 4 (by omega)
      rw [p_putNext (b := 5) (q := g 76 + 1) okS1 (by omega) (by rw [show zb_a S1 (5 + 1) 54 = g 76 from e54])]
      simp only [zb_bind_some]
      refine tail _ zt_a6 okS1 ?_
      rw [show zb_a (zs_a S1 (5 + 1) (upd (upd (zb_a S1 (5 + 1)) 54 (g 76 + 1)) (zs_en M (ln x)) (g 76 + 1))) 6 = upd (upd (zb_a S1 6) 54 (g 76 + 1)) (zs_en M (ln x)) (g 76 + 1) from zs_same _ _ _]
      unfold zs_fdd
      rw [if_pos hv]
      exact zr_c (zr_g (j := 4) rS1 (by omega) (by omega)) (by omega) he
    · rw [if_pos (by rw [if_neg hv])]
      refine tail S1 zt.rf okS1 ?_
      unfold zs_fdd
      rw [if_neg hv]
      exact rS1
theorem m_drawn {k : Nat} {sd : Int64 → Int64} {ln : Int64 → Int32} (hl : zc_lim M s J) (hN : 5000 ≤ N) (hk : k ≤ 40) : ∀ (j n i : Nat) (S : zb_S) (g : Nat → Int32), i + j = k → j < n → zm_ok 25 M s J S → zb_a S 25 = g → zr_wf (M + s) g → ∃ S1, fX6_drawn_26q sd ln N n S (nI k) (nI i) = some ((zs_drF sd ln M s J j g (zb_l S 21 21)).1 77 - zb_a S 24 77, S1) ∧ zq S S1 ∧ zb_l S1 21 21 = (zs_drF sd ln M s J j g (zb_l S 21 21)).2 ∧ zb_l S1 0 11 = zb_l S 0 11 := by
  intro j
  obtain ⟨l1, l2, l3, l4, l5⟩ := id hl
  induction j with
  | zero =>
    intro n i S g hi hn hok hg hw
    obtain ⟨n, rfl⟩ : ∃ q, n = q + 1 := ⟨n - 1, by omega⟩
    have e : i = k := by omega
    subst e
    refine ⟨S, ?_, zq.rf, rfl, rfl⟩
    simp only [fX6_drawn_26q, fX6_drawn_26s, zs_drF]
    rw [if_pos (Int32.le_refl _), if_pos (by decide), if_pos (by decide), hg]
    rfl
  | succ j ih =>
    intro n i S g hi hn hok hg hw
    obtain ⟨n, rfl⟩ : ∃ q, n = q + 1 := ⟨n - 1, by omega⟩
    generalize hx : sd (zb_l S 21 21) = x
    generalize hS1 : zb_pl S 21 21 x = S1
    have okS1 : zm_ok 25 M s J S1 := by rw [← hS1]; exact hok
    have gS1 : zb_a S1 25 = g := by rw [← hS1]; exact hg
    have lS1 : zb_l S1 21 21 = x := by rw [← hS1]; rfl
    have qS1 : zq S S1 := by rw [← hS1]; exact ⟨fun _ _ _ _ => rfl, fun _ _ _ _ _ _ _ => rfl, fun _ _ => rfl⟩
    have mS1 : zb_l S1 0 11 = zb_l S 0 11 := by rw [← hS1]; rfl
    have aS1 : zb_a S1 24 = zb_a S 24 := by rw [← hS1]; rfl
    have tail : ∀ (S2 : zb_S), zt S1 S2 → zm_ok 25 M s J S2 → zb_a S2 25 = zs_fdd M s (ln x) g → ∃ S3, fX6_drawn_105 N (fX6_drawn_26q sd ln N n) S2 (nI k) (nI i) = some ((zs_drF sd ln M s J (j + 1) g (zb_l S 21 21)).1 77 - zb_a S 24 77, S3) ∧ zq S S3 ∧ zb_l S3 21 21 = (zs_drF sd ln M s J (j + 1) g (zb_l S 21 21)).2 ∧ zb_l S3 0 11 = zb_l S 0 11 := by
      intro S2 t2 ok2 r2
      obtain ⟨S3, q1, q2, q3, q4, -⟩ := m_tstep (N := N) ok2 hl hN r2 (zr_wf_fdd hl hw)
      simp only [fX6_drawn_105, q1, zb_bind_some, zb_let, zn_ar, zs_drF, hx]
      obtain ⟨S4, u1, u2, u3, u4⟩ := ih n (i + 1) S3 _ (by omega) (by omega) q3 q4 (zr_wf_step hl (zr_wf_fdd hl hw))
      have e1 : zb_l S3 21 21 = x := by rw [q2.2, t2.2, lS1]
      have e2 : zb_a S3 24 = zb_a S 24 := by rw [q2.1.2.1 24 (by omega) (by omega) (by omega) (by omega) (by omega) (by omega), t2.1.2.1 24 (by omega) (by omega) (by omega) (by omega) (by omega) (by omega), aS1]
      rw [e1, e2] at u1
      rw [e1] at u3
      exact ⟨S4, u1, ((qS1.tr t2.1).tr q2.1).tr u2, u3, by rw [u4, q2.2, t2.2, mS1]⟩
    simp only [fX6_drawn_26q, fX6_drawn_26s, zb_let]
    rw [if_neg (by rw [zn_le (by omega) (by omega)]; omega), if_neg (show ¬ (3 : Nat) = 0 by omega)]
    rw [hx, hS1, lS1]
    rw [m_noLine okS1 hl]
    simp only [zb_bind_some]
    by_cases hv : ln x = 0 ∨ (ln x = 1 ∧ 0 < s)
    · have he := zs_en_lt hl hv
      have c0 : Int32.toNatClampNeg (nI (6 * zs_en M (ln x) + 0)) = 6 * zs_en M (ln x) := zn_cl (by omega)
      have i0 : zb_in (nI (6 * zs_en M (ln x) + 0)) (zb_sz 25) := (zn_in (by omega)).mpr (show 6 * zs_en M (ln x) + 0 < 79 by omega)
      rw [if_pos (by rw [if_pos hv]), m_entry okS1]
      simp only [zb_bind_some, zn_ml, zn_ar, c0, if_pos i0, gS1]
      by_cases h1 : g (6 * zs_en M (ln x)) = 0
      · rw [if_pos h1, if_pos (by decide), show Int32.toNatClampNeg 76 = 76 from by decide]
        by_cases h2 : 99 ≤ g 76
        · rw [if_pos h2]
          exact tail S1 zt.rf okS1 (by rw [gS1]; unfold zs_fdd; rw [if_neg (fun q => q.2.2 h2)])
        · rw [if_neg h2, m_feedOn (r := 25) (q := g 76 + 1) okS1 hl hv (by rw [gS1])]
          simp only [zb_bind_some]
          rw [gS1]
          refine tail _ (zt_a25 (fun i hi => ?_)) okS1 ?_
          · rw [upd_n (by omega), upd_n (by omega), gS1]
          · rw [zs_same]; unfold zs_fdd; rw [if_pos ⟨hv, h1, h2⟩]
      · rw [if_neg h1]
        exact tail S1 zt.rf okS1 (by rw [gS1]; unfold zs_fdd; rw [if_neg (fun q => h1 q.2.1)])
    · rw [if_neg (by rw [if_neg hv]; decide)]
      exact tail S1 zt.rf okS1 (by rw [gS1]; unfold zs_fdd; rw [if_neg (fun q => hv q.1)])
theorem e_drawn {a : Int32} (hN : 5000 ≤ N) (h : zi_I S) : zi_E (fun S => fX5_drawn N S a) (fun S => fX6_drawn N S a) S := by
  obtain ⟨M, s, J, tl, na, nx, ns, hP⟩ := h
  obtain ⟨hl, hc, hn, ht, ha, hk, hs, ho⟩ := id hP
  have hw := (hn.rel hl).2
  have hin : ∀ T : zb_S, fX6_in N T a.toInt64 1 40 = some (if 1 ≤ a ∧ a ≤ 40 then 1 else 0, T) := fun T => m_in32 1 40 rfl rfl
  by_cases hb : 1 ≤ a ∧ a ≤ 40
  · obtain ⟨k, k1, rfl⟩ := (zn_bet (n := 40) (by omega)).mp ⟨Int32.le_trans (by decide) hb.1, hb.2⟩
    obtain ⟨S1, x1, x2, x3, x4⟩ := p_tcopy (N := N) hP zq.rf
    obtain ⟨S2, y1, y2, y3, y4⟩ := p_drawn (N := N) (sd := zs_sd) (ln := zs_ln) (k := k) hl hN (by omega) k N 0 S1 (zt_g S) (by omega) (by omega) x3 x4
    have hq1 : zq S (zb_pi S2 21 0 0) := (x2.1.tr y2).tr (zt_thr (v := 0)).1
    obtain ⟨S3, u1, u2, u3, u4⟩ := m_tlay (N := N) hP hN hq1
    obtain ⟨S4, v1, v2, v3, v4⟩ := m_drawn (N := N) (sd := zs_sd) (ln := zs_ln) (k := k) hl hN (by omega) k N 0 S3 (zt_g S) (by omega) (by omega) u3 u4 hw
    have es1 : zb_l S1 0 11 = zb_l S 0 11 := x2.2 0 11
    have es2 : zb_l S3 21 21 = zb_l S 0 11 := by rw [u2.2, show zb_l (zb_pi S2 21 0 0) 21 21 = zb_l S2 21 21 from rfl, y4, x2.2, ho.2]
    have e4 : zb_a S1 4 55 = zb_a S 24 77 := by rw [x2.1.2.1 4 (by omega) (by omega) (by omega) (by omega) (by omega) (by omega)]; exact hn.1.2.2.2 5 (by omega)
    have e24 : zb_a S3 24 = zb_a S 24 := (hq1.tr u2.1).2.1 24 (by omega) (by omega) (by omega) (by omega) (by omega) (by omega)
    rw [es1] at y1 y3
    rw [es2] at v1 v3
    rw [e4] at y1
    rw [e24] at v1
    refine ⟨(zs_drF zs_sd zs_ln M s J k (zt_g S) (zb_l S 0 11)).1 77 - zb_a S 24 77, S2, S4, ?_, ?_, (hP.q ((hq1.tr u2.1).tr v2) ?_).I⟩
    · simp only [fX5_drawn, fX5_drawn_0]
      rw [if_neg (Int32.not_lt.mpr hb.1), if_pos hb.2, x1]
      simp only [zb_bind_some]
      rw [fX5_drawn_27r]
      exact y1
    · simp only [fX6_drawn, fX6_drawn_0, zb_let, hin, zb_bind_some, if_pos hb]
      rw [if_neg (by decide), u1]
      simp only [zb_bind_some]
      rw [fX6_drawn_26r]
      exact v1
    · rw [v4, v3, u2.2, show zb_l (zb_pi S2 21 0 0) 0 11 = zb_l S2 0 11 from rfl, y3]
  · refine ⟨-2, S, zb_pi S 21 0 0, ?_, ?_, hP.thr.I⟩
    · simp only [fX5_drawn, fX5_drawn_0]
      by_cases h1 : a < 1
      · rw [if_pos h1]
      · rw [if_neg h1, if_neg (fun q => hb ⟨Int32.not_lt.mp h1, q⟩)]
    · simp only [fX6_drawn, fX6_drawn_0, zb_let, hin, zb_bind_some, if_neg hb]; rfl
end DR
