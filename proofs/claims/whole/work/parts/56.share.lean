section SH
variable {M s J tl na nx ns N b r n w : Nat} {S T S' S'' : zb_S} {f f' g g' g0 : Nat → Int32} {A : Nat → Bool}
/-- the row where these zones' eyes are mended -/
def zu_row (g0 : Nat → Int32) (Z : Nat) (A : Nat → Bool) : Nat → Int32 := fun i => if i % 6 = 1 ∧ i < 6 * Z ∧ A (i / 6) = true then 0 else g0 i
def zu_G (M s J : Nat) (g0 : Nat → Int32) (A : Nat → Bool) : Int32 := zs_steps M s J 20 (zu_row g0 (M + s) A) 77
def zu_w (A : Nat → Bool) (w : Nat) : Nat → Bool := fun z => A z || decide (z = w)
theorem zu_row_upd {Z u : Nat} (hu : u < Z) : upd (zu_row g0 Z A) (6 * u + 1) 0 = zu_row g0 Z (zu_w A u) := by
  funext i
  unfold zu_row zu_w
  by_cases c : i = 6 * u + 1
  · subst c
    rw [upd_s, if_pos ⟨by omega, by omega, by rw [show (6 * u + 1) / 6 = u by omega]; simp⟩]
  · rw [upd_n c]
    by_cases d : i % 6 = 1 ∧ i < 6 * Z
    · have e : ¬ i / 6 = u := by omega
      simp [d.1, d.2, e]
    · by_cases d1 : i % 6 = 1
      · have d2 : ¬ i < 6 * Z := fun q => d ⟨d1, q⟩
        simp [d2]
      · simp [d1]
theorem zu_row_congr {Z : Nat} {A B : Nat → Bool} (h : ∀ z, z < Z → A z = B z) : zu_row g0 Z A = zu_row g0 Z B := by
  funext i
  unfold zu_row
  by_cases d : i < 6 * Z
  · rw [h (i / 6) (by omega)]
  · have : ¬ (i < 6 * Z) := d
    simp [this]
theorem zu_row_no {Z : Nat} : zu_row g0 Z (fun _ => false) = g0 := by
  funext i; unfold zu_row; simp
theorem zu_row_wf {Z : Nat} (hZ : Z ≤ 12) (h : zr_wf Z g0) : zr_wf Z (zu_row g0 Z A) := by
  have e : ∀ i, i % 6 ≠ 1 → zu_row g0 Z A i = g0 i := fun i hi => by unfold zu_row; rw [if_neg (fun q => hi q.1)]
  have e2 : ∀ i, 72 ≤ i → zu_row g0 Z A i = g0 i := fun i hi => by unfold zu_row; rw [if_neg (fun q => by omega)]
  obtain ⟨h1, h2, h3, h4, h5⟩ := h
  refine ⟨fun z hz => ?_, ?_, ?_, ?_, ?_⟩
  · obtain ⟨a1, a2, a3, a4⟩ := h1 z hz
    rw [e _ (by omega), e (6 * z + 2) (by omega), e (6 * z + 3) (by omega)]
    refine ⟨a1, ?_, a3, a4⟩
    unfold zu_row
    split
    · exact Or.inl rfl
    · exact a2
  · rw [e2 _ (by omega)]; exact h2
  · rw [e2 _ (by omega)]; exact h3
  · rw [e2 _ (by omega)]; exact h4
  · rw [e2 _ (by omega)]; exact h5
theorem zu_G_B (hl : zc_lim M s J) (A B : Nat → Bool) : zu_B 20 (zu_G M s J g0 A - zu_G M s J g0 B) := by
  obtain ⟨l1, l2, l3, l4, l5⟩ := id hl
  have e : ∀ A, ∃ c, c ≤ 20 ∧ zu_G M s J g0 A = g0 77 + nI c := by
    intro A
    refine ⟨zs_ct M s J 20 0 (zu_row g0 (M + s) A), ?_, ?_⟩
    · have := zs_ct_le (M := M) (s := s) (J := J) 20 0 (zu_row g0 (M + s) A); omega
    · unfold zu_G
      exact zs_ct_out hl 20 0 _ (by unfold zu_row; rw [if_neg (fun q => by omega), show nI 0 = 0 from rfl, Int32.add_zero])
  obtain ⟨c, c1, c2⟩ := e A
  obtain ⟨d, d1, d2⟩ := e B
  rw [c2, d2, zu_dif]
  unfold zu_B
  rw [pk_sub_toInt (by omega) (by omega)]
  omega
/-- the zones whose eyes aren't sound -/
def zu_bad (g0 : Nat → Int32) (Z : Nat) : Nat → Bool := fun z => decide (z < Z) && !decide (g0 (6 * z + 1) = 0)
theorem zu_bad_lt {Z z : Nat} (h : zu_bad g0 Z z = true) : z < Z ∧ ¬ g0 (6 * z + 1) = 0 := by
  unfold zu_bad at h; simpa using h
theorem zu_bad_r {Z : Nat} (hZ : Z ≤ 12) : zu_r (zu_bad g0 Z) Z = zu_r (zu_bad g0 Z) 12 := by
  rw [← zu_c_r, ← zu_c_r]
  have := zu_c_more (A := zu_bad g0 Z) (a := Z) (12 - Z) (fun i hi => by unfold zu_bad; rw [decide_eq_false (by omega)]; rfl)
  rw [show Z + (12 - Z) = 12 by omega] at this
  exact this.symm
theorem zu_bad_n {Z z : Nat} (hZ : Z ≤ 12) (h : zu_bad g0 Z z = true) : zu_r (zu_bad g0 Z) z < zu_r (zu_bad g0 Z) 12 := zu_r_lt h (by have := (zu_bad_lt h).1; omega)
/-- what one adds -/
def zu_t (M s J : Nat) (g0 : Nat → Int32) (n w : Nat) (A : Nat → Bool) : Int32 := (zb_fac (zu_c A 12) * zb_fac (n - 1 - zu_c A 12)) * (zu_G M s J g0 (zu_w A w) - zu_G M s J g0 A)
def zu_f (M s J : Nat) (g0 : Nat → Int32) (n w : Nat) (A : Nat → Bool) : Int32 := if zs_all (fun z => !A z || zu_bad g0 (M + s) z) 12 0 = true ∧ A w = false then zu_t M s J g0 n w A else 0
theorem zu_f_sub {P Q : Nat → Bool} : zs_all (fun z => !P z || Q z) 12 0 = true ↔ ∀ z, z < 12 → P z = true → Q z = true := by
  rw [zs_all_iff]
  constructor
  · intro h z hz hp
    have := h z (by omega) (by omega)
    rw [hp] at this
    simpa using this
  · intro h k _ hk
    by_cases c : P k = true
    · rw [h k (by omega) c]; simp
    · simp [c]
theorem zu_f_B (hl : zc_lim M s J) (hn : zu_r (zu_bad g0 (M + s)) 12 = n) (hn6 : n ≤ 6) (hw : zu_bad g0 (M + s) w = true) (A : Nat → Bool) : zu_B 288000 (zu_f M s J g0 n w A) := by
  obtain ⟨l1, l2, l3, l4, l5⟩ := id hl
  unfold zu_f
  by_cases c : zs_all (fun z => !A z || zu_bad g0 (M + s) z) 12 0 = true ∧ A w = false
  · rw [if_pos c]
    have h1 := zu_c_sub1 (b := zu_bad g0 (M + s)) c.2 hw 12 (by have := (zu_bad_lt hw).1; omega) (fun i hi => zu_f_sub.mp c.1 i hi)
    rw [hn] at h1
    unfold zu_t
    exact zu_B_mul (a := 14400) (b := 20) (zu_B_mul (a := 120) (b := 120) (zb_fac_B (by omega)) (zb_fac_B (by omega)) (by omega)) (zu_G_B hl _ _) (by omega)
  · rw [if_neg c]; exact zu_B_le zu_B_0 (by omega)
/-! the class -/
theorem p_copyA (hl : zc_lim M s J) (hok : zc_ok 3 M s J S) (hr : zr_Rel (M + s) (zb_a S 4) g) : ∃ S1, fX1_copy N 5 3 S = some ((), S1) ∧ zt S S1 ∧ zc_ok 5 M s J S1 ∧ zr_Rel (M + s) (zb_a S1 6) g ∧ ∀ o, o ≠ 6 → zb_a S1 o = zb_a S o := by
  obtain ⟨S1, x1, x2, x3, x4⟩ := p_copy (N := N) hl hok hr
  refine ⟨S1, x1, x2, x3, x4, fun o ho => ?_⟩
  have := x1
  unfold fX1_copy fX1_copy_0 at this
  simp only [zb_let] at this
  rw [if_pos (by decide), zs_cp] at this
  have e := (Prod.mk.inj (Option.some.inj this)).2
  rw [← e, zs_ne (show o ≠ 5 + 1 by omega)]
  rfl
theorem p_cu (hok : zc_ok 3 M s J S) (hl : zc_lim M s J) (hN : 5000 ≤ N) (hr : zr_Rel (M + s) (zb_a S 4) g0) : fX1_countUnsound N 3 S = some (nI (zu_r (zu_bad g0 (M + s)) 12), S) := by
  obtain ⟨l1, l2, l3, l4, l5⟩ := id hl
  have loop : ∀ (j n i : Nat), i + j = M + s → j < n → fX1_countUnsound_4 N 3 n S (nI (zu_r (zu_bad g0 (M + s)) i)) (nI i) = some (nI (zu_r (zu_bad g0 (M + s)) (M + s)), S) := by
    intro j
    induction j with
    | zero =>
      intro n i hi hn
      obtain ⟨n, rfl⟩ : ∃ q, n = q + 1 := ⟨n - 1, by omega⟩
      have e : i = M + s := by omega
      subst e
      simp only [fX1_countUnsound_4, fX1_countUnsound_4b, hok.2.2.2.1]
      rw [if_pos (Int32.le_refl _)]
    | succ j ih =>
      intro n i hi hn
      obtain ⟨n, rfl⟩ : ∃ q, n = q + 1 := ⟨n - 1, by omega⟩
      have h := ih n (i + 1) (by omega) (by omega)
      rw [zu_r_s] at h
      simp only [fX1_countUnsound_4, fX1_countUnsound_4b, fX1_countUnsound_27, hok.2.2.2.1, zb_let]
      rw [if_neg (by rw [zn_le (by omega) (by omega)]; omega), show (12 : Int32) + nI i = nI (12 + i) from nI_add 12 i, if_pos (show zb_in (nI (12 + i)) (zb_sz (3 + 1)) from (zn_in (by omega)).mpr (show 12 + i < 57 by omega)), zn_cl (by omega), show zb_a S (3 + 1) (12 + i) = g0 (6 * i + 1) from (hr.1 i (by omega)).2.1, show nI i + 1 = nI (i + 1) from nI_1 i]
      by_cases c : g0 (6 * i + 1) = 0
      · rw [if_pos c]
        rw [if_neg (by unfold zu_bad; simp [c])] at h
        exact h
      · rw [if_neg c]
        rw [if_pos (by unfold zu_bad; simp [c]; omega)] at h
        rw [show nI (zu_r (zu_bad g0 (M + s)) i) + 1 = nI (zu_r (zu_bad g0 (M + s)) i + 1) from nI_1 _]
        exact h
  have := loop (M + s) N 0 (by omega) (by omega)
  rw [zu_bad_r (by omega)] at this
  exact this
theorem p_list (hok : zc_ok 3 M s J S) (hl : zc_lim M s J) (hN : 5000 ≤ N) (hr : zr_Rel (M + s) (zb_a S 4) g0) (hn : zu_r (zu_bad g0 (M + s)) 12 ≤ 6) (hw : zu_bad g0 (M + s) w = true) : ∃ f, fX5_listUnsound N S (nI w) = some (nI (zu_r (zu_bad g0 (M + s)) w), zs_a S 19 f) ∧ ∀ z, zu_bad g0 (M + s) z = true → f (zu_r (zu_bad g0 (M + s)) z) = nI z := by
  obtain ⟨l1, l2, l3, l4, l5⟩ := id hl
  have hwl := (zu_bad_lt hw).1
  generalize hb : zu_bad g0 (M + s) = bd at *
  have hbl : ∀ z, bd z = true → z < M + s ∧ ¬ g0 (6 * z + 1) = 0 := fun z h => zu_bad_lt (by rw [hb]; exact h)
  have hbn : ∀ z, bd z = true → zu_r bd z < zu_r bd 12 := fun z h => zu_r_lt h (by have := (hbl z h).1; omega)
  have loop : ∀ (j n i : Nat) (f : Nat → Int32), i + j = M + s → j < n → (∀ z, z < i → bd z = true → f (zu_r bd z) = nI z) → ∃ f', fX5_listUnsound_7 N n (zs_a S 19 f) (nI w) (nI (zu_r bd i)) (if w < i then nI (zu_r bd w) else 0) (nI i) = some (nI (zu_r bd w), zs_a S 19 f') ∧ ∀ z, bd z = true → f' (zu_r bd z) = nI z := by
    intro j
    induction j with
    | zero =>
      intro n i f hi hn2 hf
      obtain ⟨n, rfl⟩ : ∃ q, n = q + 1 := ⟨n - 1, by omega⟩
      refine ⟨f, ?_, fun z hz => hf z (by have := (hbl z hz).1; omega) hz⟩
      simp only [fX5_listUnsound_7, fX5_listUnsound_7b]
      rw [show zb_i (zs_a S 19 f) 3 2 = nI (M + s) from hok.2.2.2.1, if_pos (by rw [zn_le (by omega) (by omega)]; omega), if_pos (by omega)]
    | succ j ih =>
      intro n i f hi hn2 hf
      obtain ⟨n, rfl⟩ : ∃ q, n = q + 1 := ⟨n - 1, by omega⟩
      have hri := (zu_r_le (b := bd) (z := i) (12 - i)).1
      rw [show i + (12 - i) = 12 by omega] at hri
      simp only [fX5_listUnsound_7, fX5_listUnsound_7b, fX5_listUnsound_60, fX5_listUnsound_49, zb_let]
      rw [show zb_i (zs_a S 19 f) 3 2 = nI (M + s) from hok.2.2.2.1, if_neg (by rw [zn_le (by omega) (by omega)]; omega)]
      by_cases c6 : 6 ≤ zu_r bd i
      · refine ⟨f, ?_, fun z hz => hf z ?_ hz⟩
        · rw [if_pos (show (6 : Int32) ≤ nI (zu_r bd i) from (zn_le (a := 6) (by omega) (by omega)).mpr c6), if_pos ?_]
          by_cases q : w < i
          · exact q
          · have h1 := (zu_r_le (b := bd) (z := i) (w - i)).1
            rw [show i + (w - i) = w by omega] at h1
            have := hbn w hw
            omega
        · by_cases q : z < i
          · exact q
          · have h1 := (zu_r_le (b := bd) (z := i) (z - i)).1
            rw [show i + (z - i) = z by omega] at h1
            have := hbn z hz
            omega
      · have hw1 : (if i = w then nI (zu_r bd i) else (if w < i then nI (zu_r bd w) else 0)) = (if w < i + 1 then nI (zu_r bd w) else (0 : Int32)) := by
          by_cases q : i = w
          · rw [if_pos q, if_pos (by omega), q]
          · rw [if_neg q]
            by_cases q2 : w < i
            · rw [if_pos q2, if_pos (by omega)]
            · rw [if_neg q2, if_neg (by omega)]
        rw [if_neg (show ¬ (6 : Int32) ≤ nI (zu_r bd i) from fun q => c6 ((zn_le (a := 6) (by omega) (by omega)).mp q)), show (12 : Int32) + nI i = nI (12 + i) from nI_add 12 i, if_pos (show zb_in (nI (12 + i)) (zb_sz 4) from (zn_in (by omega)).mpr (show 12 + i < 57 by omega)), zn_cl (show 12 + i < 2147483648 by omega), zs_ne (show (4 : Nat) ≠ 19 by omega), (hr.1 i (by omega)).2.1, show nI i + 1 = nI (i + 1) from nI_1 i]
        have hrs := zu_r_s i bd
        by_cases c : g0 (6 * i + 1) = 0
        · have nb : ¬ bd i = true := fun q => (hbl i q).2 c
          have hrs : zu_r bd (i + 1) = zu_r bd i := by rw [zu_r_s, if_neg nb]; rfl
          have hiw : ¬ i = w := fun q => nb (by rw [q]; exact hw)
          rw [if_neg hiw] at hw1
          obtain ⟨f', y1, y2⟩ := ih n (i + 1) f (by omega) (by omega) (fun z hz hbz => hf z (by
            rcases Nat.lt_or_ge z i with q | q
            · exact q
            · exact absurd hbz (by rw [show z = i by omega]; exact nb)) hbz)
          refine ⟨f', ?_, y2⟩
          rw [if_pos c, hw1, ← hrs]
          exact y1
        · have nb : bd i = true := by rw [← hb]; unfold zu_bad; simp [c]; omega
          rw [if_pos nb] at hrs
          have ci : Int32.toNatClampNeg (nI (zu_r bd i)) = zu_r bd i := zn_cl (by omega)
          have i19 : zb_in (nI (zu_r bd i)) (zb_sz 19) := (zn_in (by omega)).mpr (show zu_r bd i < 6 by omega)
          obtain ⟨f', y1, y2⟩ := ih n (i + 1) (upd f (zu_r bd i) (nI i)) (by omega) (by omega) (fun z hz hbz => by
            by_cases q : z = i
            · rw [q, upd_s]
            · have := zu_r_lt hbz (show z < i by omega)
              rw [upd_n (by omega)]
              exact hf z (by omega) hbz)
          refine ⟨f', ?_, y2⟩
          rw [if_neg c]
          rw [← hw1, hrs] at y1
          have ew : (nI i = nI w) ↔ i = w := zn_eq (by omega) (by omega)
          simp only [if_pos i19, ci, zs_pa, zs_same, zs_aa]
          rw [show nI (zu_r bd i) + 1 = nI (zu_r bd i + 1) from nI_1 _]
          by_cases q : i = w
          · rw [if_pos (ew.mpr q)]
            rw [if_pos q] at y1
            exact y1
          · rw [if_neg (fun x => q (ew.mp x))]
            rw [if_neg q] at y1
            exact y1
  obtain ⟨f', y1, y2⟩ := loop (M + s) N 0 (zb_a S 19) (by omega) (by omega) (fun z hz => absurd hz (by omega))
  refine ⟨f', ?_, y2⟩
  rw [zs_id, if_neg (by omega)] at y1
  exact y1
theorem p_run (hl : zc_lim M s J) (hN : 5000 ≤ N) : ∀ (j n i : Nat) (U : zb_S) (g : Nat → Int32), i + j = 20 → j < n → zc_ok 5 M s J U → zr_Rel (M + s) (zb_a U 6) g → ∃ w f, fX5_outWith_52 N n U (nI i) = some (zs_steps M s J j g 77, zc_t U w f) := by
  have fin : ∀ (U : zb_S) (g : Nat → Int32), zr_Rel (M + s) (zb_a U 6) g → fX5_outWith_81 N U = some (g 77, U) := by
    intro U g hr
    unfold fX5_outWith_81
    rw [if_pos (show zb_in 55 (zb_sz 6) by decide), show Int32.toNatClampNeg 55 = 55 from by decide, show zb_a U 6 55 = g 77 from hr.2.2.2 5 (by omega)]
  intro j
  induction j with
  | zero =>
    intro n i U g hi hn hok hr
    obtain ⟨n, rfl⟩ : ∃ q, n = q + 1 := ⟨n - 1, by omega⟩
    have e : i = 20 := by omega
    subst e
    refine ⟨zb_i U 5 5, zb_a U 6, ?_⟩
    simp only [fX5_outWith_52, fX5_outWith_52b]
    rw [if_pos (show (20 : Int32) ≤ nI 20 by decide), fin U g hr, zc_t_id]
    rfl
  | succ j ih =>
    intro n i U g hi hn hok hr
    obtain ⟨n, rfl⟩ : ∃ q, n = q + 1 := ⟨n - 1, by omega⟩
    obtain ⟨m, e1, e2⟩ := p_tload (N := N) (b := 5) hok hl hN hr
    simp only [fX5_outWith_52, fX5_outWith_52b]
    rw [if_neg (show ¬ (20 : Int32) ≤ nI i by rw [show (20 : Int32) = nI 20 from rfl, zn_le (by omega) (by omega)]; omega), e1]
    simp only [zb_bind_some]
    by_cases c : m = 0
    · refine ⟨zb_i U 5 5, zb_a U 6, ?_⟩
      rw [if_pos c, fin U g hr, zc_t_id, (zs_E_steps hl (j + 1) g (e2.mp c)).2]
    · rw [if_neg c]
      obtain ⟨w, f, y1, y2⟩ := p_adv1 (N := N) hok hl hN hr
      rw [y1]
      simp only [zb_bind_some, zb_let]
      obtain ⟨w2, f2, y3⟩ := ih n (i + 1) (zc_t U w f) _ (by omega) (by omega) (zc_t_ok hok) (by rw [zc_t_6]; exact y2)
      refine ⟨w2, f2, ?_⟩
      rw [show nI i + 1 = nI (i + 1) from nI_1 i, y3, zc_t_t]
      rfl
theorem p_outWith {m : Nat} (hl : zc_lim M s J) (hN : 5000 ≤ N) (hok : zc_ok 3 M s J S) (hr : zr_Rel (M + s) (zb_a S 4) g0) (hn : zu_r (zu_bad g0 (M + s)) 12 = n) (hn6 : n ≤ 6) (h19 : ∀ z, zu_bad g0 (M + s) z = true → zb_a S 19 (zu_r (zu_bad g0 (M + s)) z) = nI z) : ∃ S1, fX5_outWith N S (nI m) (nI n) = some (zu_G M s J g0 (zu_sp (zu_bad g0 (M + s)) (zu_b m)), S1) ∧ zt S S1 ∧ ∀ o, o ≠ 6 → zb_a S1 o = zb_a S o := by
  obtain ⟨l1, l2, l3, l4, l5⟩ := id hl
  generalize hb : zu_bad g0 (M + s) = bd at *
  have hbl : ∀ z, bd z = true → z < M + s ∧ ¬ g0 (6 * z + 1) = 0 := fun z h => zu_bad_lt (by rw [hb]; exact h)
  have hbn : ∀ z, bd z = true → zu_r bd z < zu_r bd 12 := fun z h => zu_r_lt h (by have := (hbl z h).1; omega)
  obtain ⟨S0, x1, x2, x3, x4, x5⟩ := p_copyA (N := N) hl hok hr
  have loop : ∀ (j q i : Nat) (U : zb_S), i + j = n → j < q → zc_ok 5 M s J U → zb_a U 19 = zb_a S 19 → zr_Rel (M + s) (zb_a U 6) (zu_row g0 (M + s) (fun z => zu_sp bd (zu_b m) z && decide (zu_r bd z < i))) → ∃ w f, fX5_outWith_13 N q U (nI m) (nI n) (nI i) = some (zu_G M s J g0 (zu_sp bd (zu_b m)), zc_t U w f) := by
    intro j
    induction j with
    | zero =>
      intro q i U hi hq hok hU hr
      obtain ⟨q, rfl⟩ : ∃ p, q = p + 1 := ⟨q - 1, by omega⟩
      have e : i = n := by omega
      subst e
      simp only [fX5_outWith_13, fX5_outWith_13b]
      rw [if_pos (Int32.le_refl _)]
      have e2 : (fun z => zu_sp bd (zu_b m) z && decide (zu_r bd z < i)) = zu_sp bd (zu_b m) := by
        funext z
        by_cases c : bd z = true
        · rw [decide_eq_true (by have := hbn z c; omega)]; simp
        · simp [zu_sp, c]
      rw [e2] at hr
      exact p_run hl hN 20 N 0 U _ (by omega) (by omega) hok hr
    | succ j ih =>
      intro q i U hi hq hok hU hr
      obtain ⟨q, rfl⟩ : ∃ p, q = p + 1 := ⟨q - 1, by omega⟩
      simp only [fX5_outWith_13, fX5_outWith_13b, fX5_outWith_44, zb_let]
      rw [if_neg (by rw [zn_le (by omega) (by omega)]; omega), p_in (show i < 32 by omega), bt_nI (by omega)]
      simp only [zb_bind_some]
      rw [show nI i + 1 = nI (i + 1) from nI_1 i]
      by_cases c : zu_b m i = true
      · obtain ⟨u, u1, u2, u3⟩ := zu_r_sur (b := bd) (i := i) 12 (by omega)
        have hu := (hbl u u2).1
        rw [if_pos c, if_neg (by decide), if_pos (show zb_in (nI i) (zb_sz 19) from (zn_in (by omega)).mpr (show i < 6 by omega)), zn_cl (show i < 2147483648 by omega), hU, ← u3, h19 u u2, show (12 : Int32) + nI u = nI (12 + u) from nI_add 12 u, if_pos (show zb_in (nI (12 + u)) (zb_sz 6) from (zn_in (by omega)).mpr (show 12 + u < 57 by omega)), zn_cl (show 12 + u < 2147483648 by omega), zs_pa, u3]
        have er : (fun z => zu_sp bd (zu_b m) z && decide (zu_r bd z < i + 1)) = zu_w (fun z => zu_sp bd (zu_b m) z && decide (zu_r bd z < i)) u := by
          funext z
          unfold zu_w
          by_cases d : z = u
          · subst d
            have : zu_sp bd (zu_b m) z = true := by unfold zu_sp; rw [u2, u3, c]; rfl
            rw [this, u3]; simp
          · by_cases d2 : zu_sp bd (zu_b m) z = true
            · have hbz : bd z = true := by unfold zu_sp at d2; simp at d2; exact d2.1
              have : ¬ zu_r bd z = i := fun h => d (zu_r_inj hbz u2 (by omega))
              have e3 : (zu_r bd z < i + 1) ↔ (zu_r bd z < i) := by omega
              simp [d, e3]
            · simp [d, d2]
        obtain ⟨w2, f2, y⟩ := ih q (i + 1) (zs_a U 6 (upd (zb_a U 6) (12 + u) 0)) (by omega) (by omega) hok (by rw [zs_ne (by omega)]; exact hU) (by
          rw [zs_same, er, ← zu_row_upd hu]
          exact zr_e hr (by omega) hu)
        refine ⟨w2, f2, ?_⟩
        rw [y, zc_t_a, zc_t_t]
      · rw [if_neg c, if_pos rfl]
        have er : (fun z => zu_sp bd (zu_b m) z && decide (zu_r bd z < i + 1)) = (fun z => zu_sp bd (zu_b m) z && decide (zu_r bd z < i)) := by
          funext z
          by_cases d2 : zu_sp bd (zu_b m) z = true
          · have : ¬ zu_r bd z = i := by
              intro h
              unfold zu_sp at d2
              simp at d2
              rw [h] at d2
              exact c d2.2
            have e3 : (zu_r bd z < i + 1) ↔ (zu_r bd z < i) := by omega
            simp [e3]
          · simp [d2]
        exact ih q (i + 1) U (by omega) (by omega) hok hU (by rw [er]; exact hr)
  obtain ⟨w, f, y⟩ := loop n N 0 S0 (by omega) (by omega) x3 (x5 19 (by omega)) (by
    rw [show (fun z => zu_sp bd (zu_b m) z && decide (zu_r bd z < 0)) = (fun _ => false) from by funext z; simp, zu_row_no]
    exact x4)
  refine ⟨zc_t S0 w f, ?_, x2.tr zc_t_zt, fun o ho => by rw [zc_t_o ho]; exact x5 o ho⟩
  unfold fX5_outWith fX5_outWith_0
  rw [x1]
  simp only [zb_bind_some]
  exact y
theorem zn_p2 : ∀ n, n < 7 → (1 : Int32) <<< (nI n &&& 31) = nI (2 ^ n) := by decide +kernel
theorem zn_or {m k : Nat} (hk : k < 32) : nI m ||| ((1 : Int32) <<< (nI k &&& 31)) = nI (m ||| 2 ^ k) := by
  apply b_ext
  intro i hi
  rw [b_or, bt_nI hi, zb_one hk hi, bt_nI hi]
  unfold zu_b
  rw [Nat.testBit_or, Nat.testBit_two_pow]
  by_cases c : i = k
  · simp [c]
  · have : ¬ k = i := fun q => c q.symm
    simp [c, this]
theorem zu_b_or {m k : Nat} : zu_b (m ||| 2 ^ k) = zu_w (zu_b m) k := by
  funext i
  unfold zu_b zu_w
  rw [Nat.testBit_or, Nat.testBit_two_pow]
  by_cases c : i = k
  · simp [c]
  · have : ¬ k = i := fun q => c q.symm
    simp [c, this]
theorem zu_sp_w {bd : Nat → Bool} {m : Nat} (hw : bd w = true) : zu_sp bd (zu_w (zu_b m) (zu_r bd w)) = zu_w (zu_sp bd (zu_b m)) w := by
  funext z
  unfold zu_sp zu_w
  by_cases c : z = w
  · subst c; simp [hw]
  · by_cases d : bd z = true
    · have : ¬ zu_r bd z = zu_r bd w := fun q => c (zu_r_inj d hw q)
      simp [c, this]
    · simp [c, d]
theorem p_gain {H : Nat → Int32} (hl : zc_lim M s J) (hN : 5000 ≤ N) (hn : zu_r (zu_bad g0 (M + s)) 12 = n) (hn6 : n ≤ 6) (hw : zu_bad g0 (M + s) w = true) (h20 : ∀ m, m < 2 ^ n → zb_a S 20 m = zu_G M s J g0 (zu_sp (zu_bad g0 (M + s)) (zu_b m))) (hH : H = fun m => zu_f M s J g0 n w (zu_sp (zu_bad g0 (M + s)) (zu_b m))) : fX5_gainInAllOrders N S (nI (zu_r (zu_bad g0 (M + s)) w)) (nI n) = some (zu_s H (2 ^ n), S) := by
  obtain ⟨l1, l2, l3, l4, l5⟩ := id hl
  have hpl := zu_bad_n (g0 := g0) (Z := M + s) (by omega) hw
  rw [hn] at hpl
  have h64 : 2 ^ n ≤ 2 ^ 6 := Nat.pow_le_pow_right (by omega) hn6
  have loop : ∀ (j q m : Nat), m + j = 2 ^ n → j < q → fX5_gainInAllOrders_5 N q S (nI (zu_r (zu_bad g0 (M + s)) w)) (nI n) (zu_s H m) (nI m) = some (zu_s H (2 ^ n), S) := by
    intro j
    induction j with
    | zero =>
      intro q m hm hq
      obtain ⟨q, rfl⟩ : ∃ p, q = p + 1 := ⟨q - 1, by omega⟩
      have e : m = 2 ^ n := by omega
      simp only [fX5_gainInAllOrders_5, fX5_gainInAllOrders_5b]
      rw [zn_p2 n (by omega), if_pos (by rw [zn_le (by omega) (by omega)]; omega), e]
    | succ j ih =>
      intro q m hm hq
      obtain ⟨q, rfl⟩ : ∃ p, q = p + 1 := ⟨q - 1, by omega⟩
      have hi := ih q (m + 1) (by omega) (by omega)
      have hm12 : ∀ k, 12 ≤ k → k < 32 → bt (nI m) k = false := fun k k1 k2 => by rw [bt_nI k2]; exact zu_b_big (k := 6) (by omega) (by omega)
      have hcm : zu_c (zu_b m) 12 = zu_c (zu_sp (zu_bad g0 (M + s)) (zu_b m)) 12 := by
        rw [zu_c_sp, hn]
        have := zu_c_more (A := zu_b m) (a := n) (12 - n) (fun i hi => zu_b_big (k := n) (by omega) hi)
        rw [show n + (12 - n) = 12 by omega] at this
        exact this
      simp only [fX5_gainInAllOrders_5, fX5_gainInAllOrders_5b, fX5_gainInAllOrders_73, zb_let]
      rw [zn_p2 n (by omega), if_neg (by rw [zn_le (by omega) (by omega)]; omega), p_in (show zu_r (zu_bad g0 (M + s)) w < 32 by omega), bt_nI (by omega)]
      simp only [zb_bind_some, p_bitCount]
      rw [zc_bc_eq hm12, zm_ons_c 12 (by omega), show nI m + 1 = nI (m + 1) from nI_1 m]
      have hA : zu_sp (zu_bad g0 (M + s)) (zu_b m) w = zu_b m (zu_r (zu_bad g0 (M + s)) w) := by unfold zu_sp; rw [hw]; rfl
      have hsub : zs_all (fun z => !zu_sp (zu_bad g0 (M + s)) (zu_b m) z || zu_bad g0 (M + s) z) 12 0 = true := zu_f_sub.mpr (fun z _ h => by unfold zu_sp at h; simp at h; exact h.1)
      by_cases c : zu_b m (zu_r (zu_bad g0 (M + s)) w) = true
      · rw [if_pos c, if_neg (by decide)]
        have e0 : zu_s H (m + 1) = zu_s H m := by
          show zu_s H m + H m = _
          rw [hH]
          simp only [zu_f]
          rw [if_neg (fun q => by rw [hA, c] at q; exact absurd q.2 (by decide)), Int32.add_zero]
        rw [← e0]
        exact hi
      · have c0 : zu_b m (zu_r (zu_bad g0 (M + s)) w) = false := by simpa using c
        have hc1 := zu_c_sub1 (A := zu_sp (zu_bad g0 (M + s)) (zu_b m)) (b := zu_bad g0 (M + s)) (w := w) (by rw [hA]; exact c0) hw 12 (by have := (zu_bad_lt hw).1; omega) (fun i hi => zu_f_sub.mp hsub i hi)
        rw [hn, ← hcm] at hc1
        have e1 : nI n - 1 - nI (zu_c (zu_b m) 12) = nI (n - 1 - zu_c (zu_b m) 12) := by rw [zn_sub1 (by omega), pk_sub (by omega)]
        have hor : m ||| 2 ^ (zu_r (zu_bad g0 (M + s)) w) < 2 ^ n := Nat.or_lt_two_pow (by omega) (Nat.pow_lt_pow_right (by omega) (by omega))
        rw [if_neg c, if_pos rfl, if_pos (show zb_in (nI (zu_c (zu_b m) 12)) 7 from (zn_in (by omega)).mpr (by omega)), e1, if_pos (show zb_in (nI (n - 1 - zu_c (zu_b m) 12)) 7 from (zn_in (by omega)).mpr (by omega)), zn_or (by omega), if_pos (show zb_in (nI (m ||| 2 ^ (zu_r (zu_bad g0 (M + s)) w))) (zb_sz 20) from (zn_in (by omega)).mpr (show m ||| 2 ^ (zu_r (zu_bad g0 (M + s)) w) < 64 by omega)), if_pos (show zb_in (nI m) (zb_sz 20) from (zn_in (by omega)).mpr (show m < 64 by omega)), zn_cl (show zu_c (zu_b m) 12 < 2147483648 by omega), zn_cl (show n - 1 - zu_c (zu_b m) 12 < 2147483648 by omega), zn_cl (show m ||| 2 ^ (zu_r (zu_bad g0 (M + s)) w) < 2147483648 by omega), zn_cl (show m < 2147483648 by omega), h20 _ hor, h20 m (by omega), zu_b_or, zu_sp_w hw]
        have e0 : zu_s H (m + 1) = zu_s H m + ((zb_fac (zu_c (zu_b m) 12) * zb_fac (n - 1 - zu_c (zu_b m) 12)) * (zu_G M s J g0 (zu_w (zu_sp (zu_bad g0 (M + s)) (zu_b m)) w) - zu_G M s J g0 (zu_sp (zu_bad g0 (M + s)) (zu_b m)))) := by
          show zu_s H m + H m = _
          rw [hH]
          simp only [zu_f]
          rw [if_pos ⟨hsub, by rw [hA]; exact c0⟩, zu_t, ← hcm]
        rw [← e0]
        exact hi
  exact loop (2 ^ n) N 0 (by omega) (by omega)
/-! the reference -/
theorem m_gone {m : Nat} (hP : zi_P M s J tl na nx ns S) (hN : 5000 ≤ N) (hq : zt S S') : ∃ S1, fX6_goneBy N S' (nI m) = some (zu_G M s J (zt_g S) (zu_b m), S1) ∧ zt S S1 := by
  obtain ⟨hl, hc, hn, ht, ha, hk, hs, ho⟩ := id hP
  obtain ⟨l1, l2, l3, l4, l5⟩ := id hl
  have hw := (hn.rel hl).2
  obtain ⟨S3, u1, u2, u3, u4⟩ := m_tlay (N := N) hP hN hq.1
  have loop : ∀ (j q i : Nat) (X : zb_S), i + j = M + s → j < q → zt S3 X → zb_a X 25 = zu_row (zt_g S) (M + s) (fun z => zu_b m z && decide (z < i)) → ∃ X1, fX6_goneBy_6 N q X (nI m) (nI i) = some (zu_G M s J (zt_g S) (zu_b m), X1) ∧ zt S3 X1 := by
    intro j
    induction j with
    | zero =>
      intro q i X hi hq2 hX hg
      obtain ⟨q, rfl⟩ : ∃ p, q = p + 1 := ⟨q - 1, by omega⟩
      have hm : zm_ok 25 M s J X := hc.m ((hq.tr u2).tr hX).1
      rw [zu_row_congr (B := zu_b m) (fun z hz => by simp; omega)] at hg
      obtain ⟨X1, v1, v2, v3, v4⟩ := m_tsteps (N := N) (k := 20) hm hl hN (by omega) hg (zu_row_wf (by omega) hw)
      refine ⟨X1, ?_, hX.tr v2⟩
      simp only [fX6_goneBy_6, fX6_goneBy_6b, m_zones hm, zb_bind_some]
      rw [if_pos (by rw [zn_le (by omega) (by omega)]; omega), show fX6_stepsOn N 25 X 20 = fX6_stepsOn N 25 X (nI 20) from rfl, v1]
      simp only [zb_bind_some]
      rw [if_pos (show zb_in 77 (zb_sz 25) by decide), show Int32.toNatClampNeg 77 = 77 from by decide, v4]
      rfl
    | succ j ih =>
      intro q i X hi hq2 hX hg
      obtain ⟨q, rfl⟩ : ∃ p, q = p + 1 := ⟨q - 1, by omega⟩
      have hm : zm_ok 25 M s J X := hc.m ((hq.tr u2).tr hX).1
      have c1 : Int32.toNatClampNeg (nI (6 * i + 1)) = 6 * i + 1 := zn_cl (by omega)
      have i1 : zb_in (nI (6 * i + 1)) (zb_sz 25) := (zn_in (by omega)).mpr (show 6 * i + 1 < 79 by omega)
      simp only [fX6_goneBy_6, fX6_goneBy_6b, m_zones hm, zb_bind_some, zn_ml, zn_ar, fX6_goneBy_47, zb_let, if_pos i1, c1]
      rw [if_neg (by rw [zn_le (by omega) (by omega)]; omega), m_has (show i < 32 by omega), bt_nI (by omega), show nI (i + 1) = nI (i + 1) from rfl]
      simp only [zb_bind_some]
      by_cases c : zu_b m i = true
      · rw [if_pos c, if_neg (by decide), zs_pa, hg, zu_row_upd (show i < M + s by omega)]
        have er : zu_w (fun z => zu_b m z && decide (z < i)) i = (fun z => zu_b m z && decide (z < i + 1)) := by
          funext z
          unfold zu_w
          by_cases d : z = i
          · subst d; simp [c]
          · have : (z < i + 1) ↔ (z < i) := by omega
            simp [d, this]
        rw [er]
        exact ih q (i + 1) _ (by omega) (by omega) (hX.tr (zt_a25 (fun p hp => by rw [hg]; unfold zu_row; rw [if_neg (fun x => by omega), if_neg (fun x => by omega)]))) (zs_same _ _ _)
      · rw [if_neg c, if_pos rfl, zs_pa]
        have e5 : upd (zb_a X 25) (6 * i + 1) (zb_a X 25 (6 * i + 1)) = zb_a X 25 := by
          funext p
          by_cases d : p = 6 * i + 1
          · rw [d, upd_s]
          · rw [upd_n d]
        rw [e5, zs_id]
        exact ih q (i + 1) X (by omega) (by omega) hX (by
          rw [hg]
          congr 1
          funext z
          by_cases d : z = i
          · subst d; simp [c]
          · have : (z < i + 1) ↔ (z < i) := by omega
            simp [this])
  obtain ⟨X1, y1, y2⟩ := loop (M + s) N 0 S3 (by omega) (by omega) zt.rf (by
    rw [u4, show (fun z => zu_b m z && decide (z < 0)) = (fun _ => false) from by funext z; simp, zu_row_no])
  refine ⟨X1, ?_, (hq.tr u2).tr y2⟩
  simp only [fX6_goneBy, fX6_goneBy_0, u1, zb_bind_some]
  exact y1
theorem p_shareL {u : Int32} (hP : zi_P M s J tl na nx ns S) (hN : 5000 ≤ N) (hn : zu_r (zu_bad (zt_g S) (M + s)) 12 = n) (hn6 : n ≤ 6) (hw : zu_bad (zt_g S) (M + s) w = true) {X : Int32} (hX : X = zu_s (fun m => zu_f M s J (zt_g S) n w (zu_sp (zu_bad (zt_g S) (M + s)) (zu_b m))) (2 ^ n)) : ∀ (j q m : Nat) (U : zb_S), m + j = 2 ^ n → j < q → zt S U → (∀ z, zu_bad (zt_g S) (M + s) z = true → zb_a U 19 (zu_r (zu_bad (zt_g S) (M + s)) z) = nI z) → (∀ k, k < m → zb_a U 20 k = zu_G M s J (zt_g S) (zu_sp (zu_bad (zt_g S) (M + s)) (zu_b k))) → ∃ U1, zt S U1 ∧ fX5_share_55 N q U u (nI n) (nI (zu_r (zu_bad (zt_g S) (M + s)) w)) (nI m) = zb_bind (fX5_fraction N U1 X (zb_fac n) u) (fun r4 S3 => some (r4, S3)) := by
  obtain ⟨hl, hc, hnw, ht, ha, hk, hs, ho⟩ := id hP
  obtain ⟨l1, l2, l3, l4, l5⟩ := id hl
  have h64 : 2 ^ n ≤ 2 ^ 6 := Nat.pow_le_pow_right (by omega) hn6
  intro j
  induction j with
  | zero =>
    intro q m U hm hq hU h19 h20
    obtain ⟨q, rfl⟩ : ∃ p, q = p + 1 := ⟨q - 1, by omega⟩
    refine ⟨U, hU, ?_⟩
    simp only [fX5_share_55, fX5_share_55b]
    rw [zn_p2 n (by omega), if_pos (by rw [zn_le (by omega) (by omega)]; omega), p_gain hl hN hn hn6 hw (fun k hk => h20 k (by omega)) rfl]
    simp only [zb_bind_some]
    rw [if_pos (show zb_in (nI n) 7 from (zn_in (by omega)).mpr (by omega)), zn_cl (show n < 2147483648 by omega), hX]
  | succ j ih =>
    intro q m U hm hq hU h19 h20
    obtain ⟨q, rfl⟩ : ∃ p, q = p + 1 := ⟨q - 1, by omega⟩
    obtain ⟨U1, y1, y2, y3⟩ := p_outWith (N := N) (m := m) (S := U) (g0 := zt_g S) hl hN (hc.c hU.1) (by rw [hU.1.2.1 4 (by omega) (by omega) (by omega) (by omega) (by omega) (by omega)]; exact (hnw.rel hl).1) hn hn6 h19
    simp only [fX5_share_55, fX5_share_55b, zb_let]
    rw [zn_p2 n (by omega), if_neg (by rw [zn_le (by omega) (by omega)]; omega), y1]
    simp only [zb_bind_some]
    rw [if_pos (show zb_in (nI m) (zb_sz 20) from (zn_in (by omega)).mpr (show m < 64 by omega)), zn_cl (show m < 2147483648 by omega), zs_pa, show nI m + 1 = nI (m + 1) from nI_1 m]
    refine ih q (m + 1) _ (by omega) (by omega) ((hU.tr y2).tr ⟨⟨fun _ _ _ _ => rfl, fun o _ _ _ _ h _ => zs_ne h, fun _ _ => rfl⟩, fun _ _ => rfl⟩) (fun z hz => ?_) (fun k hk => ?_)
    · rw [zs_ne (by omega), y3 19 (by omega)]; exact h19 z hz
    · rw [zs_same]
      by_cases c : k = m
      · rw [c, upd_s]
      · rw [upd_n c, y3 20 (by omega)]; exact h20 k (by omega)
theorem m_shareL {u : Int32} {B : Nat} (hP : zi_P M s J tl na nx ns S) (hN : 5000 ≤ N) (hB : B < 4096) (hBb : ∀ z, z < 12 → zu_b B z = zu_bad (zt_g S) (M + s) z) (hn : zu_r (zu_bad (zt_g S) (M + s)) 12 = n) (hn6 : n ≤ 6) (hw : zu_bad (zt_g S) (M + s) w = true) : ∀ (j q m : Nat) (U : zb_S), m + j = B + 1 → j < q → zt S U → ∃ U1, zt S U1 ∧ fX6_share_55 N q U (nI w) u (nI B) (nI n) (zu_s (fun m => zu_f M s J (zt_g S) n w (zu_b m)) m) (nI m) = zb_bind (fX6_fraction N U1 (zu_s (fun m => zu_f M s J (zt_g S) n w (zu_b m)) (B + 1)) (zb_fac n) u) (fun r4 S3 => some (r4, S3)) := by
  obtain ⟨hl, hc, hnw, ht, ha, hk, hs, ho⟩ := id hP
  obtain ⟨l1, l2, l3, l4, l5⟩ := id hl
  have hwl := (zu_bad_lt hw).1
  intro j
  induction j with
  | zero =>
    intro q m U hm hq hU
    obtain ⟨q, rfl⟩ : ∃ p, q = p + 1 := ⟨q - 1, by omega⟩
    refine ⟨U, hU, ?_⟩
    have e : m = B + 1 := by omega
    subst e
    simp only [fX6_share_55, fX6_share_55b]
    rw [if_pos (by rw [zn_lt (by omega) (by omega)]; omega), m_fact hN hn6]
    simp only [zb_bind_some]
  | succ j ih =>
    intro q m U hm hq hU
    obtain ⟨q, rfl⟩ : ∃ p, q = p + 1 := ⟨q - 1, by omega⟩
    have hsub : (nI m &&& (nI B ^^^ (-1 : Int32))) = 0 ↔ zs_all (fun z => !zu_b m z || zu_bad (zt_g S) (M + s) z) 12 0 = true := by
      rw [zu_f_sub]
      constructor
      · intro h z hz hmz
        have h1 : bt (nI m &&& (nI B ^^^ (-1 : Int32))) z = false := by rw [h, b_0]
        rw [b_and, zb_not _ (show z < 32 by omega), bt_nI (show z < 32 by omega), bt_nI (show z < 32 by omega), hBb z hz, hmz] at h1
        simpa using h1
      · intro h
        apply b_ext
        intro z hz
        rw [b_and, zb_not _ hz, bt_nI hz, bt_nI hz, b_0]
        by_cases c : z < 12
        · by_cases d : zu_b m z = true
          · rw [hBb z c, h z c d]; simp
          · simp [d]
        · rw [zu_b_big (k := 12) (m := m) (by omega) (by omega)]; simp
    simp only [fX6_share_55, fX6_share_55b, fX6_share_125, zb_let]
    rw [if_neg (by rw [zn_lt (by omega) (by omega)]; omega), show nI m + 1 = nI (m + 1) from nI_1 m]
    by_cases c : zs_all (fun z => !zu_b m z || zu_bad (zt_g S) (M + s) z) 12 0 = true
    · rw [if_pos (hsub.mpr c), m_has (show w < 32 by omega), bt_nI (by omega)]
      simp only [zb_bind_some]
      by_cases d : zu_b m w = true
      · rw [if_pos d, if_neg (by decide)]
        obtain ⟨U1, v1, v2⟩ := ih q (m + 1) U (by omega) (by omega) hU
        refine ⟨U1, v1, ?_⟩
        rw [← v2]
        congr 1
        show _ = zu_s (fun m => zu_f M s J (zt_g S) n w (zu_b m)) m + zu_f M s J (zt_g S) n w (zu_b m)
        unfold zu_f
        rw [if_neg (fun x => by rw [d] at x; exact absurd x.2 (by decide)), Int32.add_zero]
      · have d0 : zu_b m w = false := by simpa using d
        have hc1 := zu_c_sub1 (A := zu_b m) (b := zu_bad (zt_g S) (M + s)) (w := w) d0 hw 12 (by omega) (fun i hi => zu_f_sub.mp c i hi)
        rw [hn] at hc1
        have e1 : nI n - 1 - nI (zu_c (zu_b m) 12) = nI (n - 1 - zu_c (zu_b m) 12) := by rw [zn_sub1 (by omega), pk_sub (by omega)]
        rw [if_neg d, if_pos rfl, m_ones (by omega), zm_ons_c 12 (by omega)]
        simp only [zb_bind_some]
        rw [m_fact hN (by omega)]
        simp only [zb_bind_some]
        rw [e1, m_fact hN (by omega)]
        simp only [zb_bind_some]
        rw [zn_or (by omega)]
        obtain ⟨U2, x1, x2⟩ := m_gone (N := N) (m := m ||| 2 ^ w) hP hN hU
        rw [x1]
        simp only [zb_bind_some]
        obtain ⟨U3, x3, x4⟩ := m_gone (N := N) (m := m) hP hN x2
        rw [x3]
        simp only [zb_bind_some]
        obtain ⟨U1, v1, v2⟩ := ih q (m + 1) U3 (by omega) (by omega) x4
        refine ⟨U1, v1, ?_⟩
        rw [← v2, zu_b_or]
        congr 1
        show _ = zu_s (fun m => zu_f M s J (zt_g S) n w (zu_b m)) m + zu_f M s J (zt_g S) n w (zu_b m)
        unfold zu_f
        rw [if_pos ⟨c, d0⟩]
        rfl
    · rw [if_neg (fun x => c (hsub.mp x))]
      obtain ⟨U1, v1, v2⟩ := ih q (m + 1) U (by omega) (by omega) hU
      refine ⟨U1, v1, ?_⟩
      rw [← v2]
      congr 1
      show _ = zu_s (fun m => zu_f M s J (zt_g S) n w (zu_b m)) m + zu_f M s J (zt_g S) n w (zu_b m)
      unfold zu_f
      rw [if_neg (fun x => c x.1), Int32.add_zero]
theorem e_share {a u : Int32} (hN : 5000 ≤ N) (h : zi_I S) : zi_E (fun S => fX5_share N S a u) (fun S => fX6_share N S a u) S := by
  obtain ⟨M, s, J, tl, na, nx, ns, hP⟩ := h
  obtain ⟨hl, hc, hn, ht, ha, hk, hs, ho⟩ := id hP
  obtain ⟨l1, l2, l3, l4, l5⟩ := id hl
  have hrel := (hn.rel hl).1
  have hwf := (hn.rel hl).2
  have hm0 : ∀ X : zb_S, zq S X → zm_ok 24 M s J X := fun X hX => ⟨rfl, (hc.m hX).2.1, (hc.m hX).2.2.1, (hc.m hX).2.2.2⟩
  rcases p_hasZone (N := N) (a := a) hc.1 hl with ⟨w, h1, rfl, h3⟩ | ⟨h2, h3⟩
  · -- the reference's set
    have hm1 := hm0 (zb_pi S 21 0 0) zt_thr.1
    have ebad : ∀ X : zb_S, zt S X → ∃ B, B < 4096 ∧ fX6_those N 24 X 1 = some (nI B, X) ∧ ∀ z, z < 12 → zu_b B z = zu_bad (zt_g S) (M + s) z := by
      intro X hX
      obtain ⟨mm, e1, e2⟩ := m_those (N := N) (r := 24) (w := 1) (hm0 X hX.1) hl (by omega) (by omega)
      obtain ⟨B, b1, b2⟩ := zn_of12 (m := mm) (fun k k1 k2 => by rw [e2 k k2]; simp [show ¬ k < M + s by omega])
      refine ⟨B, b1, by rw [show (1 : Int32) = nI 1 from rfl, e1, b2], fun z hz => ?_⟩
      rw [← bt_nI (by omega), ← b2, e2 z (by omega), hX.1.2.1 24 (by omega) (by omega) (by omega) (by omega) (by omega) (by omega)]
      unfold zu_bad
      by_cases c : z < M + s
      · have h4 := (hn.2.1 z c).2.1
        rw [zt_g_lt (by omega)]
        rcases h4 with q | q | q <;> rw [q] <;> simp
      · simp [c]
    generalize hbd : zu_bad (zt_g S) (M + s) = bd at *
    have hnn : ∀ B, (∀ z, z < 12 → zu_b B z = bd z) → zu_c (zu_b B) 12 = zu_r bd 12 := fun B hB => by rw [zu_c_congr 12 hB, zu_c_r]
    have hn12 := (zu_r_le (b := bd) (z := 0) 12).2
    have hbw : bd w = true ↔ ¬ zt_g S (6 * w + 1) = 0 := by rw [← hbd]; unfold zu_bad; simp [h1]
    have ecu := p_cu (N := N) (S := S) hc.1 hl hN hrel
    rw [hbd] at ecu
    have e12 : zb_a S 4 (12 + w) = zt_g S (6 * w + 1) := (hrel.1 w h1).2.1
    have c12 : Int32.toNatClampNeg (nI (12 + w)) = 12 + w := zn_cl (by omega)
    have i12 : zb_in (nI (12 + w)) (zb_sz 4) := (zn_in (by omega)).mpr (show 12 + w < 57 by omega)
    generalize hnv : zu_r bd 12 = n at *
    have e6 : nI n ≤ 6 ↔ n ≤ 6 := zn_le (b := 6) (by simp [zu_r] at hn12; omega) (by omega)
    have nl : n ≤ 12 := by simp [zu_r] at hn12; omega
    -- the two answers, but for the good case
    by_cases hg : bd w = true ∧ n ≤ 6
    · obtain ⟨hw, hn6⟩ := hg
      have hw' : zu_bad (zt_g S) (M + s) w = true := by rw [hbd]; exact hw
      have hn' : zu_r (zu_bad (zt_g S) (M + s)) 12 = n := by rw [hbd]; exact hnv
      obtain ⟨f, y1, y2⟩ := p_list (N := N) (S := S) (w := w) hc.1 hl hN hrel (by rw [hn']; exact hn6) hw'
      have hz19 : zt S (zs_a S 19 f) := ⟨⟨fun _ _ _ _ => rfl, fun o _ _ _ h _ _ => zs_ne h, fun _ _ => rfl⟩, fun _ _ => rfl⟩
      obtain ⟨U1, v1, v2⟩ := p_shareL (u := u) hP hN hn' hn6 hw' rfl (2 ^ n) N 0 (zs_a S 19 f) (by omega) (by have := Nat.pow_le_pow_right (show 0 < 2 by omega) hn6; omega) hz19 (fun z hz => by rw [zs_same]; exact y2 z hz) (fun k hk => absurd hk (by omega))
      -- the sums agree
      obtain ⟨B, b1, b2, b3⟩ := ebad (zb_pi U1 21 0 0) (v1.tr zt_thr)
      have b3' : ∀ z, z < 12 → zu_b B z = zu_bad (zt_g S) (M + s) z := by rw [hbd]; exact b3
      have hsum : zu_s (fun m => zu_f M s J (zt_g S) n w (zu_sp (zu_bad (zt_g S) (M + s)) (zu_b m))) (2 ^ n) = zu_s (fun m => zu_f M s J (zt_g S) n w (zu_b m)) (B + 1) := by
        have q1 := zu_sp_s n (fun A => zu_f M s J (zt_g S) n w (zu_sp (zu_bad (zt_g S) (M + s)) A))
        have q2 := zu_p_sp 12 (zu_bad (zt_g S) (M + s)) (zu_f M s J (zt_g S) n w) (fun A z hz hA hb => by
          unfold zu_f
          rw [if_neg (fun x => by have := zu_f_sub.mp x.1 z hz hA; rw [hb] at this; exact absurd this (by decide))])
        rw [hn'] at q2
        have q3 := zu_sp_s 12 (zu_f M s J (zt_g S) n w)
        have q4 := zu_s_more (F := fun m => zu_f M s J (zt_g S) n w (zu_b m)) (a := B + 1) (4096 - (B + 1)) (fun m hm1 hm2 => by
          show zu_f M s J (zt_g S) n w (zu_b m) = 0
          unfold zu_f
          rw [if_neg (fun x => ?_)]
          have hs2 := zu_f_sub.mp x.1
          have hle : m ≤ B := by
            have e : m &&& B = m := by
              apply Nat.eq_of_testBit_eq
              intro i
              rw [Nat.testBit_and]
              by_cases d : m.testBit i = true
              · by_cases d2 : i < 12
                · have h5 := hs2 i d2 d
                  rw [← b3' i d2] at h5
                  have h6 : B.testBit i = true := h5
                  rw [d, h6]; rfl
                · have h7 := zu_b_big (k := 12) (m := m) (i := i) (by omega) (by omega)
                  have h8 : m.testBit i = false := h7
                  rw [h8] at d; exact absurd d (by decide)
              · simp [d]
            rw [← e]; exact Nat.and_le_right
          omega)
        rw [show B + 1 + (4096 - (B + 1)) = 2 ^ 12 by omega] at q4
        rw [q1, ← q2, ← q3, q4]
      have hB : zu_B (64 * 288000) (zu_s (fun m => zu_f M s J (zt_g S) n w (zu_sp (zu_bad (zt_g S) (M + s)) (zu_b m))) (2 ^ n)) := by
        rw [zu_sp_s n (fun A => zu_f M s J (zt_g S) n w (zu_sp (zu_bad (zt_g S) (M + s)) A))]
        have h64 : 2 ^ n ≤ 2 ^ 6 := Nat.pow_le_pow_right (by omega) hn6
        have := zu_B_p (c := 288000) n (fun A => zu_f M s J (zt_g S) n w (zu_sp (zu_bad (zt_g S) (M + s)) A)) (fun A => zu_f_B hl hn' hn6 hw' _) (by omega)
        exact zu_B_le this (Nat.mul_le_mul_right _ (by omega))
      obtain ⟨l, q1, q2, q3⟩ := zb_fac_l hn6
      obtain ⟨v, w1, w2⟩ := e_frac (N := N) (l := l) (u := u) hN hB (by omega) q1 (by omega)
      obtain ⟨U4, z1, z2⟩ := m_shareL (u := u) (B := B) hP hN b1 b3' hn' hn6 hw' (B + 1) N 0 (zb_pi U1 21 0 0) (by omega) (by omega) (v1.tr zt_thr)
      rw [← hsum] at z2
      refine ⟨v, U1, U4, ?_, ?_, (hP.t z1).I⟩
      · simp only [fX5_share, fX5_share_0, h3, zb_bind_some]
        rw [if_neg (by decide), ecu]
        simp only [zb_bind_some]
        rw [show (12 : Int32) + nI w = nI (12 + w) from nI_add 12 w, if_pos i12, c12, e12, if_neg (hbw.mp hw), if_pos (e6.mpr hn6), y1]
        simp only [zb_bind_some]
        rw [show fX5_share_55 N N (zs_a S 19 f) u (nI n) (nI (zu_r (zu_bad (zt_g S) (M + s)) w)) 0 = fX5_share_55 N N (zs_a S 19 f) u (nI n) (nI (zu_r (zu_bad (zt_g S) (M + s)) w)) (nI 0) from rfl, v2, q3, w1]
        simp only [zb_bind_some]
      · simp only [fX6_share, fX6_share_0, zb_let]
        rw [(m_noZone (N := N) (hm0 _ (v1.tr zt_thr).1) hl).1 ⟨w, h1, rfl⟩]
        simp only [zb_bind_some]
        rw [if_pos trivial, b2]
        simp only [zb_bind_some]
        rw [m_ones (by omega), zm_ons_c 12 (by omega), hnn B b3]
        simp only [zb_bind_some]
        rw [m_has (show w < 32 by omega), bt_nI (by omega), b3 w (by omega), if_pos hw]
        simp only [zb_bind_some]
        rw [if_neg (by decide), if_pos (e6.mpr hn6), show fX6_share_55 N N (zb_pi U1 21 0 0) (nI w) u (nI B) (nI n) 0 0 = fX6_share_55 N N (zb_pi U1 21 0 0) (nI w) u (nI B) (nI n) (zu_s (fun m => zu_f M s J (zt_g S) n w (zu_b m)) 0) (nI 0) from rfl, z2, q3, w2]
        simp only [zb_bind_some]
    · obtain ⟨B, b1, b2, b3⟩ := ebad (zb_pi S 21 0 0) zt_thr
      refine ⟨-3, S, zb_pi S 21 0 0, ?_, ?_, hP.thr.I⟩
      · simp only [fX5_share, fX5_share_0, h3, zb_bind_some]
        rw [if_neg (by decide), ecu]
        simp only [zb_bind_some]
        rw [show (12 : Int32) + nI w = nI (12 + w) from nI_add 12 w, if_pos i12, c12, e12]
        by_cases c : zt_g S (6 * w + 1) = 0
        · rw [if_pos c]
        · rw [if_neg c, if_neg (fun x => hg ⟨hbw.mpr c, e6.mp x⟩)]
      · simp only [fX6_share, fX6_share_0, zb_let]
        rw [(m_noZone (N := N) hm1 hl).1 ⟨w, h1, rfl⟩]
        simp only [zb_bind_some]
        rw [if_pos trivial, b2]
        simp only [zb_bind_some]
        rw [m_ones (by omega), zm_ons_c 12 (by omega), hnn B b3]
        simp only [zb_bind_some]
        rw [m_has (show w < 32 by omega), bt_nI (by omega), b3 w (by omega)]
        simp only [zb_bind_some]
        by_cases c : bd w = true
        · rw [if_pos c, if_neg (by decide), if_neg (fun x => hg ⟨c, e6.mp x⟩)]
        · rw [if_neg c, if_pos rfl]
  · refine ⟨-1, S, zb_pi S 21 0 0, ?_, ?_, hP.thr.I⟩
    · simp only [fX5_share, fX5_share_0, h3, zb_bind_some]; rfl
    · simp only [fX6_share, fX6_share_0, zb_let, (m_noZone (N := N) (hm0 _ zt_thr.1) hl).2 h2, zb_bind_some]; rfl
end SH
