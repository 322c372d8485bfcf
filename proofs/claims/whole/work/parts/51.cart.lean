section CT
variable {M s J tl na nx ns N b r k n Z i : Nat} {S T S' S'' T' U : zb_S} {f f' g g' R R' : Nat → Int32} {C : Nat → Nat} {m : Int32}
theorem zn_n9 {k : Nat} (h : k < 1000) : ¬ nI k = -9 := by
  intro q
  have h1 : (nI k).toInt = (-9 : Int32).toInt := by rw [q]
  rw [show (nI k).toInt = (k : Int) from nI_toInt (by omega), show (-9 : Int32).toInt = -9 from by decide] at h1
  omega
/-- how many zones have a carton -/
def zf_n (R : Nat → Int32) : Nat → Nat
  | 0 => 0
  | z + 1 => zf_n R z + (if R (6 * z) = 0 then 0 else 1)
theorem zf_n_le : ∀ z, zf_n R z ≤ z := by
  intro z
  induction z with
  | zero => exact Nat.le_refl _
  | succ z ih => simp only [zf_n]; split <;> omega
theorem zf_n_eq : ∀ z, zf_n R z = z ↔ ∀ y, y < z → ¬ R (6 * y) = 0 := by
  intro z
  induction z with
  | zero => exact ⟨fun _ y h => absurd h (by omega), fun _ => rfl⟩
  | succ z ih =>
    have hl := zf_n_le (R := R) z
    simp only [zf_n]
    by_cases c : R (6 * z) = 0
    · rw [if_pos c]
      exact ⟨fun h => absurd h (by omega), fun h => absurd c (h z (by omega))⟩
    · rw [if_neg c]
      constructor
      · intro h y hy
        by_cases e : y = z
        · rw [e]; exact c
        · exact ih.mp (by omega) y (by omega)
      · intro h
        have := ih.mpr (fun y hy => h y (by omega))
        omega
theorem zf_n_76 {v : Int32} : ∀ z, z ≤ 12 → zf_n (upd R 76 v) z = zf_n R z := by
  intro z
  induction z with
  | zero => intro _; rfl
  | succ z ih => intro h; simp only [zf_n]; rw [ih (by omega), upd_n (by omega)]
theorem zf_n_upd {y : Nat} {v : Int32} (hv : ¬ v = 0) (hy : R (6 * y) = 0) : ∀ z, (z ≤ y → zf_n (upd R (6 * y) v) z = zf_n R z) ∧ (y < z → zf_n (upd R (6 * y) v) z = zf_n R z + 1) := by
  intro z
  induction z with
  | zero => exact ⟨fun _ => rfl, fun h => absurd h (by omega)⟩
  | succ z ih =>
    refine ⟨fun h => ?_, fun h => ?_⟩
    · simp only [zf_n]; rw [ih.1 (by omega), upd_n (by omega)]
    · simp only [zf_n]
      by_cases e : z = y
      · rw [ih.1 (by omega), e, upd_s, if_neg hv, if_pos hy]
      · rw [ih.2 (by omega), upd_n (by omega)]; omega
def zf_R (Z : Nat) (R : Nat → Int32) : Prop := R 76 = nI (zf_n R Z) ∧ zr_wf Z (upd R 72 1)
/-- the reader's state -/
def zf_T (tl : Nat) (C : Nat → Nat) (M s i : Nat) (R : Nat → Int32) (T : zb_S) : Prop := zf_m tl C T ∧ zb_i T 21 3 = nI i ∧ zb_i T 21 7 = nI M ∧ zb_i T 21 8 = nI s ∧ zb_a T 23 = R
theorem zf_T.p {j : Nat} (h : zf_T tl C M s i R T) : zf_T tl C M s j R (zb_pi T 21 3 (nI j)) := by
  obtain ⟨⟨h1, h2, h3⟩, h4, h5, h6, h7⟩ := h
  exact ⟨⟨h1, h2, h3⟩, rfl, h5, h6, h7⟩
theorem mf_free {z : Nat} (h : zf_T tl C M s i R T) (hl : zc_lim M s J) (hz : z < 20) : fX6_isFree N T (nI z) = some (if z < M + s ∧ R (6 * z) = 0 then 1 else 0, T) := by
  obtain ⟨l1, l2, l3, l4, l5⟩ := id hl
  obtain ⟨h0, h1, h2, h3, h4⟩ := h
  unfold fX6_isFree fX6_isFree_0
  rw [h2, h3, nI_add, zn_sub1 (by omega), show fX6_in N T (Int32.toInt64 (nI z)) 0 (Int32.toInt64 (nI (M + s - 1))) = some (if (0 : Int32) ≤ nI z ∧ nI z ≤ nI (M + s - 1) then 1 else 0, T) from m_in32 0 (nI (M + s - 1)) rfl rfl, zb_bind_some]
  have hbb : ((0 : Int32) ≤ nI z ∧ nI z ≤ nI (M + s - 1)) ↔ z < M + s := by rw [zn_0le (by omega), zn_le (by omega) (by omega), true_and]; omega
  by_cases c : z < M + s
  · rw [if_pos (hbb.mpr c), if_neg (by decide), show (6 : Int32) * nI z + 0 = nI (6 * z) from by rw [zn_ml, zn_ar]; rfl, if_pos (show zb_in (nI (6 * z)) (zb_sz 23) from (zn_in (by omega)).mpr (show 6 * z < 79 by omega)), zn_cl (by omega), h4]
    by_cases d : R (6 * z) = 0
    · rw [if_pos d, if_pos (show z < M + s ∧ R (6 * z) = 0 from ⟨c, d⟩)]; rfl
    · rw [if_neg d, if_neg (show ¬ (z < M + s ∧ R (6 * z) = 0) from fun q => d q.2)]; rfl
  · rw [if_neg (fun q => c (hbb.mp q)), if_pos rfl, if_neg (show ¬ (z < M + s ∧ R (6 * z) = 0) from fun q => c q.1)]; rfl
theorem mf_any0 {l1 : Int32} (hn : ¬ (0 ≤ l1 ∧ l1 ≤ 1)) : ∀ (j n o : Nat), o + j = 10 → j < n → fX6_readCarton_78 N n T l1 0 (nI o) = some (0, T) := by
  intro j
  induction j with
  | zero =>
    intro n o ho hj
    obtain ⟨n, rfl⟩ : ∃ q, n = q + 1 := ⟨n - 1, by omega⟩
    have e : o = 10 := by omega
    subst e
    simp only [fX6_readCarton_78, fX6_readCarton_78b]
    rw [if_pos (show (10 : Int32) ≤ nI 10 by decide)]; rfl
  | succ j ih =>
    intro n o ho hj
    obtain ⟨n, rfl⟩ : ∃ q, n = q + 1 := ⟨n - 1, by omega⟩
    simp only [fX6_readCarton_78, fX6_readCarton_78b, fX6_readCarton_115, fX6_readCarton_116, zb_let]
    rw [if_neg (fun q => by have := (zn_le (a := 10) (by omega) (by omega)).mp q; omega), if_pos trivial, show fX6_in N T (Int32.toInt64 l1) 0 1 = some (if (0 : Int32) ≤ l1 ∧ l1 ≤ 1 then 1 else 0, T) from m_in32 0 1 rfl rfl, zb_bind_some, if_neg hn, if_pos rfl, show nI o + 1 = nI (o + 1) from nI_1 o]
    exact ih n (o + 1) (by omega) (by omega)
theorem mf_any {t : Nat} (h : zf_T tl C M s i R T) (hl : zc_lim M s J) (ht : t < 2) : ∀ (j n o : Nat) (l2 : Int32), o + j = 10 → j < n → (l2 = 0 ∨ l2 = 1) → ∃ v n', (v = 0 ∨ v = 1) ∧ (v = 1 ↔ l2 = 1 ∨ ∃ o', o ≤ o' ∧ o' < 10 ∧ zf_A (M + s) R (10 * t + o')) ∧ fX6_readCarton_78 N n T (nI t) l2 (nI o) = fX6_readCarton_78 N (n' + 1) T (nI t) v (nI 10) := by
  intro j
  induction j with
  | zero =>
    intro n o l2 ho hj h2
    obtain ⟨n, rfl⟩ : ∃ q, n = q + 1 := ⟨n - 1, by omega⟩
    have e : o = 10 := by omega
    subst e
    refine ⟨l2, n, h2, ⟨fun q => Or.inl q, ?_⟩, rfl⟩
    rintro (q | ⟨o', q1, q2, -⟩)
    · exact q
    · omega
  | succ j ih =>
    intro n o l2 ho hj h2
    obtain ⟨n, rfl⟩ : ∃ q, n = q + 1 := ⟨n - 1, by omega⟩
    simp only [fX6_readCarton_78, fX6_readCarton_78b, fX6_readCarton_115, fX6_readCarton_111, fX6_readCarton_116, zb_let]
    rw [if_neg (show ¬ (10 : Int32) ≤ nI o from fun q => by have := (zn_le (a := 10) (by omega) (by omega)).mp q; omega), show nI o + 1 = nI (o + 1) from nI_1 o]
    rcases h2 with h2 | h2
    · rw [if_pos h2, show fX6_in N T (Int32.toInt64 (nI t)) 0 1 = some (if (0 : Int32) ≤ nI t ∧ nI t ≤ 1 then 1 else 0, T) from m_in32 0 1 rfl rfl, zb_bind_some, if_pos (show (0 : Int32) ≤ nI t ∧ nI t ≤ 1 from ⟨(zn_0le (by omega)).mpr trivial, (zn_le (b := 1) (by omega) (by omega)).mpr (by omega)⟩), if_neg (by decide), show (10 : Int32) * nI t + nI o = nI (10 * t + o) from by rw [zn_ml, nI_add], mf_free h hl (by omega), zb_bind_some]
      by_cases c : 10 * t + o < M + s ∧ R (6 * (10 * t + o)) = 0
      · rw [if_pos c, if_neg (by decide)]
        obtain ⟨v, n', v1, v2, v3⟩ := ih n (o + 1) 1 (by omega) (by omega) (Or.inr rfl)
        refine ⟨v, n', v1, ⟨fun q => Or.inr ⟨o, by omega, by omega, c⟩, fun _ => v2.mpr (Or.inl rfl)⟩, v3⟩
      · rw [if_neg c, if_pos rfl]
        obtain ⟨v, n', v1, v2, v3⟩ := ih n (o + 1) 0 (by omega) (by omega) (Or.inl rfl)
        refine ⟨v, n', v1, v2.trans ⟨?_, ?_⟩, v3⟩
        · rintro (q | ⟨o', q1, q2, q3⟩)
          · exact absurd q (by decide)
          · exact Or.inr ⟨o', by omega, q2, q3⟩
        · rintro (q | ⟨o', q1, q2, q3⟩)
          · exact absurd q (by rw [h2]; decide)
          · refine Or.inr ⟨o', ?_, q2, q3⟩
            by_cases e : o' = o
            · rw [e] at q3; exact absurd q3 c
            · omega
    · rw [if_neg (by rw [h2]; decide)]
      obtain ⟨v, n', v1, v2, v3⟩ := ih n (o + 1) 1 (by omega) (by omega) (Or.inr rfl)
      exact ⟨v, n', v1, ⟨fun q => Or.inl h2, fun _ => v2.mpr (Or.inl rfl)⟩, v3⟩
/-- the letter at a place, as a figure; none beyond the text -/
def zf_x (tl : Nat) (C : Nat → Nat) (k : Nat) : Int32 := if k < tl then nI (C k) - 48 else -9
theorem zf_x_in {hi : Nat} (hC : ∀ k, k < tl → C k ≤ 255) (hh : hi ≤ 20) : (0 ≤ zf_x tl C k ∧ zf_x tl C k ≤ nI hi) ↔ k < tl ∧ ∃ v, v ≤ hi ∧ C k = 48 + v := by
  unfold zf_x
  by_cases c : k < tl
  · rw [if_pos c, show (0 : Int32) = nI 0 from rfl, zf_dig (hC k c) (by omega) hh]
    constructor
    · rintro ⟨h1, h2⟩
      exact ⟨c, C k - 48, by omega, by omega⟩
    · rintro ⟨-, v, h1, h2⟩
      omega
  · rw [if_neg c]
    exact ⟨fun h => absurd h.1 (by decide), fun h => absurd h.1 c⟩
theorem mf_ct0 (h : zf_T tl C M s i R T) (hl : zc_lim M s J) (hi : i < tl) (hn : R 76 = nI (zf_n R (M + s))) : (¬ (C i = 99 ∧ ∃ z, zf_A (M + s) R z) → fX6_readCarton N T = some (0, T)) ∧ (C i = 99 ∧ (∃ z, zf_A (M + s) R z) → fX6_readCarton N T = fX6_readCarton_73 N (zb_pi T 21 3 (nI (i + 1))) (zf_x tl C (i + 1))) := by
  obtain ⟨l1, l2, l3, l4, l5⟩ := id hl
  have h' := h
  obtain ⟨⟨t1, t2, t3⟩, h1, h2, h3, h4⟩ := h
  have e99 : nI (C i) = 99 ↔ C i = 99 := zn_eq (b := 99) (by have := (t3 i hi).2; omega) (by omega)
  have hle := zf_n_le (R := R) (M + s)
  have e76 : (zb_a T 23 (Int32.toNatClampNeg 76) = zb_i T 21 7 + zb_i T 21 8) ↔ ¬ ∃ z, zf_A (M + s) R z := by
    rw [show Int32.toNatClampNeg 76 = 76 from by decide, h4, h2, h3, nI_add, hn, zn_eq (by omega) (by omega), zf_n_eq]
    constructor
    · rintro q ⟨z, z1, z2⟩; exact q z z1 z2
    · intro q y hy e; exact q ⟨y, hy, e⟩
  unfold fX6_readCarton fX6_readCarton_0
  rw [h1, if_pos (show zb_in (nI i) (zb_sz 22) from (zn_in (by omega)).mpr (show i < 40 by omega)), zn_cl (by omega), (t3 i hi).1]
  rw [if_pos (show zb_in 76 (zb_sz 23) by decide)]
  simp only [zb_let]
  rw [show nI i + 1 = nI (i + 1) from nI_1 i]
  refine ⟨fun c => ?_, fun c => ?_⟩
  · by_cases d : C i = 99
    · rw [if_pos (e99.mpr d), if_pos (e76.mpr (fun x => c ⟨d, x⟩))]; rfl
    · rw [if_neg (fun q => d (e99.mp q))]; rfl
  · rw [if_pos (e99.mpr c.1), if_neg (fun q => e76.mp q c.2)]
    unfold zf_x
    rw [show zb_i (zb_pi T 21 3 (nI (i + 1))) 21 2 = nI tl from t2, show zb_i (zb_pi T 21 3 (nI (i + 1))) 21 3 = nI (i + 1) from rfl, show zb_a (zb_pi T 21 3 (nI (i + 1))) 22 = zb_a T 22 from rfl]
    by_cases d : i + 1 < tl
    · rw [if_neg (by rw [zn_le (by omega) (by omega)]; omega), if_pos (show zb_in (nI (i + 1)) (zb_sz 22) from (zn_in (by omega)).mpr (show i + 1 < 40 by omega)), zn_cl (by omega), (t3 _ d).1, if_pos d]
    · rw [if_pos (by rw [zn_le (by omega) (by omega)]; omega), if_neg d]
theorem mf_ct1 (h : zf_T tl C M s i R T) (hl : zc_lim M s J) (hN : 5000 ≤ N) (hi : i < 1000) : (¬ (i < tl ∧ ∃ t, t < 2 ∧ C i = 48 + t ∧ ∃ o, o < 10 ∧ zf_A (M + s) R (10 * t + o)) → fX6_readCarton_73 N T (zf_x tl C i) = some (0, T)) ∧ (∀ t, t < 2 → i < tl → C i = 48 + t → (∃ o, o < 10 ∧ zf_A (M + s) R (10 * t + o)) → fX6_readCarton_73 N T (zf_x tl C i) = fX6_readCarton_167 N (zb_pi T 21 3 (nI (i + 1))) (nI t) (zf_x tl C (i + 1))) := by
  have h' := h
  obtain ⟨⟨t1, t2, t3⟩, h1, h2, h3, h4⟩ := h
  have hx := zf_x_in (tl := tl) (C := C) (k := i) (hi := 1) (fun k hk => (t3 k hk).2) (by omega)
  unfold fX6_readCarton_73
  refine ⟨fun c => ?_, fun t ht hit hc ho => ?_⟩
  · by_cases d : 0 ≤ zf_x tl C i ∧ zf_x tl C i ≤ nI 1
    · obtain ⟨d1, t, d2, d3⟩ := hx.mp d
      have e : zf_x tl C i = nI t := by unfold zf_x; rw [if_pos d1, d3, zf_sub (by omega)]; congr 1; omega
      obtain ⟨v, n', v1, v2, v3⟩ := mf_any (N := N) h' hl (t := t) (by omega) 10 N 0 0 (by omega) (by omega) (Or.inl rfl)
      rw [e, show (0 : Int32) = nI 0 from rfl, show fX6_readCarton_78 N N T (nI t) (nI 0) (nI 0) = fX6_readCarton_78 N N T (nI t) 0 (nI 0) from rfl, v3]
      have v0 : v = 0 := by
        rcases v1 with q | q
        · exact q
        · rcases v2.mp q with x | ⟨o, -, o1, o2⟩
          · exact absurd x (by decide)
          · exact absurd ⟨d1, t, by omega, d3, o, o1, o2⟩ c
      simp only [fX6_readCarton_78, fX6_readCarton_78b]
      rw [if_pos (show (10 : Int32) ≤ nI 10 by decide), if_pos v0]; rfl
    · exact mf_any0 d 10 N 0 (by omega) (by omega)
  · have e : zf_x tl C i = nI t := by unfold zf_x; rw [if_pos hit, hc, zf_sub (by omega)]; congr 1; omega
    obtain ⟨v, n', v1, v2, v3⟩ := mf_any (N := N) h' hl ht 10 N 0 0 (by omega) (by omega) (Or.inl rfl)
    have v0 : v = 1 := v2.mpr (Or.inr (by obtain ⟨o, o1, o2⟩ := ho; exact ⟨o, by omega, o1, o2⟩))
    rw [e, show fX6_readCarton_78 N N T (nI t) 0 0 = fX6_readCarton_78 N N T (nI t) 0 (nI 0) from rfl, v3]
    simp only [fX6_readCarton_78, fX6_readCarton_78b, zb_let]
    rw [if_pos (show (10 : Int32) ≤ nI 10 by decide), if_neg (by rw [v0]; decide), h1, show nI i + 1 = nI (i + 1) from nI_1 i]
    rw [show zb_i (zb_pi T 21 3 (nI (i + 1))) 21 2 = nI tl from t2, show zb_i (zb_pi T 21 3 (nI (i + 1))) 21 3 = nI (i + 1) from rfl, show zb_a (zb_pi T 21 3 (nI (i + 1))) 22 = zb_a T 22 from rfl]
    have ex : zf_x tl C (i + 1) = if i + 1 < tl then nI (C (i + 1)) - 48 else -9 := rfl
    rw [ex]
    by_cases d : i + 1 < tl
    · rw [if_neg (by rw [zn_le (by omega) (by omega)]; omega), if_pos (show zb_in (nI (i + 1)) (zb_sz 22) from (zn_in (by omega)).mpr (show i + 1 < 40 by omega)), zn_cl (by omega), (t3 _ d).1, if_pos d]
    · rw [if_pos (by rw [zn_le (by omega) (by omega)]; omega), if_neg d]
theorem mf_ct2 {t : Nat} (h : zf_T tl C M s i R T) (hl : zc_lim M s J) (hi : i < 1000) (ht : t < 2) : (¬ (i < tl ∧ ∃ o, o < 10 ∧ C i = 48 + o ∧ zf_A (M + s) R (10 * t + o)) → fX6_readCarton_167 N T (nI t) (zf_x tl C i) = some (0, T)) ∧ (∀ o, o < 10 → i < tl → C i = 48 + o → zf_A (M + s) R (10 * t + o) → fX6_readCarton_167 N T (nI t) (zf_x tl C i) = some (1, zs_a (zb_pi T 21 3 (nI (i + 1))) 23 (upd (upd R 76 (R 76 + 1)) (6 * (10 * t + o)) (R 76 + 1)))) := by
  obtain ⟨l1, l2, l3, l4, l5⟩ := id hl
  have h' := h
  obtain ⟨⟨t1, t2, t3⟩, h1, h2, h3, h4⟩ := h
  have hx := zf_x_in (tl := tl) (C := C) (k := i) (hi := 9) (fun k hk => (t3 k hk).2) (by omega)
  unfold fX6_readCarton_167
  rw [show fX6_in N T (Int32.toInt64 (zf_x tl C i)) 0 9 = some (if (0 : Int32) ≤ zf_x tl C i ∧ zf_x tl C i ≤ nI 9 then 1 else 0, T) from m_in32 0 9 rfl rfl, zb_bind_some]
  refine ⟨fun c => ?_, fun o ho hit hc hA => ?_⟩
  · by_cases d : 0 ≤ zf_x tl C i ∧ zf_x tl C i ≤ nI 9
    · obtain ⟨d1, o, d2, d3⟩ := hx.mp d
      have e : zf_x tl C i = nI o := by unfold zf_x; rw [if_pos d1, d3, zf_sub (by omega)]; congr 1; omega
      rw [if_pos d, if_neg (by decide), e, show (10 : Int32) * nI t + nI o = nI (10 * t + o) from by rw [zn_ml, nI_add], mf_free h' hl (by omega), zb_bind_some, if_neg (show ¬ (10 * t + o < M + s ∧ R (6 * (10 * t + o)) = 0) from fun q => c ⟨d1, o, by omega, d3, q⟩), if_pos rfl]; rfl
    · rw [if_neg d, if_pos rfl]; rfl
  · have e : zf_x tl C i = nI o := by unfold zf_x; rw [if_pos hit, hc, zf_sub (by omega)]; congr 1; omega
    have hz := hA.1
    rw [if_pos (hx.mpr ⟨hit, o, by omega, hc⟩), if_neg (by decide), e, show (10 : Int32) * nI t + nI o = nI (10 * t + o) from by rw [zn_ml, nI_add], mf_free h' hl (by omega), zb_bind_some, if_pos (show 10 * t + o < M + s ∧ R (6 * (10 * t + o)) = 0 from hA), if_neg (by decide), h1]
    simp only [zb_let]
    rw [show nI i + 1 = nI (i + 1) from nI_1 i, if_pos (show zb_in 76 (zb_sz 23) by decide), if_pos (show zb_in 76 (zb_sz 23) by decide), if_pos (show zb_in 76 (zb_sz 23) by decide), show Int32.toNatClampNeg 76 = 76 from by decide, show (6 : Int32) * nI (10 * t + o) + 0 = nI (6 * (10 * t + o)) from by rw [zn_ml, zn_ar]; rfl, if_pos (show zb_in (nI (6 * (10 * t + o))) (zb_sz 23) from (zn_in (by omega)).mpr (show 6 * (10 * t + o) < 79 by omega)), zn_cl (by omega)]
    simp only [zs_pa, zs_same, zs_aa, upd_s]
    rw [show zb_a (zb_pi T 21 3 (nI (i + 1))) 23 = R from h4]
    rfl
theorem f_lock (hl : zc_lim M s J) (hN : 5000 ≤ N) (hS : zf_c tl C S) (hC1 : C 1 = 48 + M) (hC2 : C 2 = 48 + s) (h6 : 6 ≤ tl) : ∀ (q i : Nat) (R : Nat → Int32) (m : Int32), tl < i + 3 * q → i ≤ tl → i % 3 = 0 → 6 ≤ i → (∀ z, z < M + s → bt m z = !decide (R (6 * z) = 0)) → zf_R (M + s) R →
    ∃ r R', (∀ n, tl - i < n → fX4_firstFault_4 N n S m (nI i) = some (r, S)) ∧ (∀ n T, tl - i < n → zf_T tl C M s i R T → ∃ p, fX6_readBelt_63 N n T = some (r, zs_a (zb_pi T 21 3 p) 23 R')) ∧ (r = -9 → zf_R (M + s) R' ∧ ∀ n U, tl - i < n → zf_c tl C U → zc_ok 3 M s J U → zr_Rel (M + s) (zb_a U 4) (upd R 72 1) → ∃ f', fX4_layOut_46 N 3 n U (nI (i + 2)) = some ((), zs_a U 4 f') ∧ zr_Rel (M + s) f' (upd R' 72 1)) := by
  obtain ⟨l1, l2, l3, l4, l5⟩ := id hl
  have h40 := hS.1
  intro q
  induction q with
  | zero => intro i R m h1 h2; omega
  | succ q ih =>
    intro i R m hq hit h3 hi6 hm hR
    have Tid : ∀ (T : zb_S) (j : Nat), zf_T tl C M s i R T → zb_pi T 21 3 (nI j) = zs_a (zb_pi T 21 3 (nI j)) 23 R := by
      intro T j hT
      rw [zs_ids]; exact hT.2.2.2.2
    have Tid0 : ∀ (T : zb_S), zf_T tl C M s i R T → T = zs_a (zb_pi T 21 3 (nI i)) 23 R := by
      intro T hT
      rw [← Tid T i hT, ← hT.2.1, zs_pid]
    by_cases c0 : i = tl
    · subst c0
      refine ⟨-9, R, fun n hn => ?_, fun n T hn hT => ⟨nI i, ?_⟩, fun _ => ⟨hR, fun n U hn hU hok hr => ⟨zb_a U 4, ?_, hr⟩⟩⟩
      · obtain ⟨n, rfl⟩ : ∃ q, n = q + 1 := ⟨n - 1, by omega⟩
        rw [pf_stop hS, if_pos ⟨h6, h3⟩]
      · obtain ⟨n, rfl⟩ : ∃ q, n = q + 1 := ⟨n - 1, by omega⟩
        simp only [fX6_readBelt_63, fX6_readBelt_63b]
        rw [hT.1.2.1, hT.2.1, if_pos (Int32.le_refl _), ← Tid0 T hT]
      · obtain ⟨n, rfl⟩ : ∃ q, n = q + 1 := ⟨n - 1, by omega⟩
        simp only [fX4_layOut_46, fX4_layOut_46b]
        rw [hU.2.1, if_pos (by rw [zn_le (by omega) (by omega)]; omega), zs_id]
    · have hi : i < tl := by omega
      have nle : ¬ nI tl ≤ nI i := by rw [zn_le (by omega) (by omega)]; omega
      obtain ⟨v0, a1, a2, a3⟩ := pf_c0 (N := N) hS hi h3 (show M + s < 13 by omega) hm
      have f0 := pf_fits6 (N := N) hS hi hi6 hC1 hC2 a2 a1
      by_cases c1 : C i = 99 ∧ ∃ z, zf_A (M + s) R z
      · have f0' : fX4_fits N S (nI i) m = some (1, S) := by rw [f0, a3.mpr c1]
        by_cases c2 : i + 1 < tl ∧ ∃ t, t < 2 ∧ C (i + 1) = 48 + t ∧ ∃ o, o < 10 ∧ zf_A (M + s) R (10 * t + o)
        · obtain ⟨hi1, t, ht, hCt, hto⟩ := c2
          obtain ⟨v1, b1, b2, b3⟩ := pf_c1 (N := N) hS hi1 (show (i + 1) % 3 = 1 by omega) (show M + s < 13 by omega) hm
          have f1 := pf_fits6 (N := N) hS hi1 (by omega) hC1 hC2 b2 b1
          have f1' : fX4_fits N S (nI (i + 1)) m = some (1, S) := by rw [f1, b3.mpr ⟨t, ht, hCt, hto⟩]
          by_cases c3 : i + 2 < tl ∧ ∃ o, o < 10 ∧ C (i + 2) = 48 + o ∧ zf_A (M + s) R (10 * t + o)
          · obtain ⟨hi2, o, ho, hCo, hA⟩ := c3
            obtain ⟨v2, d1, d2, d3⟩ := pf_c2 (N := N) (k := i + 1) hS hi2 (by omega) (show M + s < 13 by omega) ht hCt hm
            have f2 := pf_fits6 (N := N) (k := i + 1 + 1) hS hi2 (by omega) hC1 hC2 d2 d1
            have f2' : fX4_fits N S (nI (i + 1 + 1)) m = some (1, S) := by rw [f2, d3.mpr ⟨o, ho, hCo, hA⟩]
            have hle := zf_n_le (R := R) (M + s)
            have hv : R 76 + 1 = nI (zf_n R (M + s) + 1) := by rw [hR.1]; exact nI_1 _
            have hv0 : ¬ R 76 + 1 = 0 := by rw [hv, zn_eq0 (by omega)]; omega
            have hz := hA.1
            have hA2 : R (6 * (10 * t + o)) = 0 := hA.2
            generalize hzz : 10 * t + o = z at *
            have hlt : zf_n R (M + s) < M + s := by
              have : ¬ zf_n R (M + s) = M + s := fun e => (zf_n_eq (M + s)).mp e z hz hA2
              omega
            have hR1 : zf_R (M + s) (upd (upd R 76 (R 76 + 1)) (6 * z) (R 76 + 1)) := by
              refine ⟨?_, ?_⟩
              · rw [upd_n (by omega), upd_s, hv, (zf_n_upd (by rw [← hv]; exact hv0) (by rw [upd_n (by omega)]; exact hA2) (M + s)).2 hz, zf_n_76 _ (by omega)]
              · rw [upd_comm (show 6 * z ≠ 72 by omega), upd_comm (show (76 : Nat) ≠ 72 by omega), hv]
                exact zr_wf_upd (zr_wf_76 hR.2 (by omega) (by omega)) (by omega) (fun _ => by rw [zn_lt0 (by omega)]; exact fun h => h) (by omega) (by omega) (by omega) (by omega)
            have hm1 : ∀ y, y < M + s → bt (m ||| ((1 : Int32) <<< (nI z &&& 31))) y = !decide (upd (upd R 76 (R 76 + 1)) (6 * z) (R 76 + 1) (6 * y) = 0) := by
              intro y hy
              rw [zr_or1 (by omega) y (by omega)]
              by_cases e : y = z
              · rw [if_pos e, e, upd_s]; simp [hv0]
              · rw [if_neg e, upd_n (by omega), upd_n (by omega)]; exact hm y hy
            obtain ⟨r, R', x1, x2, x3⟩ := ih (i + 3) _ _ (by omega) (by omega) (by omega) (by omega) hm1 hR1
            refine ⟨r, R', fun n hn => ?_, fun n T hn hT => ?_, fun hr9 => ?_⟩
            · obtain ⟨n, rfl⟩ : ∃ q, n = q + 3 := ⟨n - 3, by omega⟩
              rw [pf_yes (n := n + 2) hS hi f0' (Or.inr (by omega)), pf_yes (n := n + 1) hS hi1 f1' (Or.inr (by omega)), pf_yes2 (n := n) (k := i + 1) hS hi2 (by omega) (by omega) hCt hCo f2', hzz]
              exact x1 n (by omega)
            · obtain ⟨n, rfl⟩ : ∃ q, n = q + 1 := ⟨n - 1, by omega⟩
              have hc : fX6_readCarton N T = some (1, zs_a (zb_pi T 21 3 (nI (i + 3))) 23 (upd (upd R 76 (R 76 + 1)) (6 * z) (R 76 + 1))) := by
                rw [(mf_ct0 (N := N) hT hl hi hR.1).2 c1, (mf_ct1 (N := N) hT.p hl hN (by omega)).2 t ht hi1 hCt hto, (mf_ct2 (N := N) hT.p.p hl (by omega) ht).2 o ho hi2 hCo (by rw [hzz]; exact hA), hzz, zs_pipi, zs_pipi]
              have hT1 : zf_T tl C M s (i + 3) (upd (upd R 76 (R 76 + 1)) (6 * z) (R 76 + 1)) (zs_a (zb_pi T 21 3 (nI (i + 3))) 23 (upd (upd R 76 (R 76 + 1)) (6 * z) (R 76 + 1))) := ⟨hT.1, rfl, hT.2.2.1, hT.2.2.2.1, zs_same _ _ _⟩
              obtain ⟨p, y⟩ := x2 n _ (by omega) hT1
              refine ⟨p, ?_⟩
              simp only [fX6_readBelt_63, fX6_readBelt_63b]
              rw [hT.1.2.1, hT.2.1, if_neg nle, hc, zb_bind_some, if_neg (by decide), y, zs_api, zs_aa, zs_pipi]
            · obtain ⟨y1, y2⟩ := x3 hr9
              refine ⟨y1, fun n U hn hU hok hr => ?_⟩
              obtain ⟨n, rfl⟩ : ∃ q, n = q + 1 := ⟨n - 1, by omega⟩
              have e54 : zb_a U (3 + 1) 54 = R 76 := (hr.2.2.2 4 (by omega)).trans (upd_n (by omega))
              have hr1 : zr_Rel (M + s) (upd (upd (zb_a U 4) 54 (R 76 + 1)) z (R 76 + 1)) (upd (upd (upd R 76 (R 76 + 1)) (6 * z) (R 76 + 1)) 72 1) := by
                rw [upd_comm (show 6 * z ≠ 72 by omega), upd_comm (show (76 : Nat) ≠ 72 by omega)]
                exact zr_c (zr_g (j := 4) hr (by omega) (by omega)) (by omega) hz
              obtain ⟨f', w1, w2⟩ := y2 n (zs_a U 4 (upd (upd (zb_a U 4) 54 (R 76 + 1)) z (R 76 + 1))) (by omega) hU hok (by rw [zs_same]; exact hr1)
              refine ⟨f', ?_, w2⟩
              simp only [fX4_layOut_46, fX4_layOut_46b, fX4_layOut_74, zb_let]
              rw [hU.2.1, if_neg (by rw [zn_le (by omega) (by omega)]; omega), pf_zone (k := i + 1) hU hi2 hCt hCo, zb_bind_some, hzz, p_hz hok hl (by omega), zb_bind_some, if_pos hz, if_neg (by decide), p_putNext (b := 3) (q := R 76 + 1) hok (by omega) (by rw [e54]), zb_bind_some, show nI (i + 2) + 3 = nI (i + 3 + 2) from nI_add (i + 2) 3]
              rw [show zs_a U (3 + 1) (upd (upd (zb_a U (3 + 1)) 54 (R 76 + 1)) z (R 76 + 1)) = zs_a U 4 (upd (upd (zb_a U 4) 54 (R 76 + 1)) z (R 76 + 1)) from rfl, w1, zs_aa]
          · refine ⟨nI (i + 2), R, fun n hn => ?_, fun n T hn hT => ⟨nI (i + 2), ?_⟩, fun h => absurd h (zn_n9 (by omega))⟩
            · obtain ⟨n, rfl⟩ : ∃ q, n = q + 3 := ⟨n - 3, by omega⟩
              rw [pf_yes (n := n + 2) hS hi f0' (Or.inr (by omega)), pf_yes (n := n + 1) hS hi1 f1' (Or.inr (by omega))]
              by_cases e : i + 1 + 1 = tl
              · rw [e, pf_stop hS, if_neg (by omega), ← e]
              · obtain ⟨v2, d1, d2, d3⟩ := pf_c2 (N := N) (k := i + 1) hS (by omega) (by omega) (show M + s < 13 by omega) ht hCt hm
                have f2 := pf_fits6 (N := N) (k := i + 1 + 1) hS (by omega) (by omega) hC1 hC2 d2 d1
                have hv : v2 = 0 := by
                  rcases d2 with x | x
                  · exact x
                  · exact absurd ⟨by omega, d3.mp x⟩ c3
                rw [hv] at f2
                exact pf_no hS (by omega) f2
            · obtain ⟨n, rfl⟩ : ∃ q, n = q + 1 := ⟨n - 1, by omega⟩
              simp only [fX6_readBelt_63, fX6_readBelt_63b]
              rw [hT.1.2.1, hT.2.1, if_neg nle, (mf_ct0 (N := N) hT hl hi hR.1).2 c1, (mf_ct1 (N := N) hT.p hl hN (by omega)).2 t ht hi1 hCt hto, (mf_ct2 (N := N) hT.p.p hl (by omega) ht).1 c3, zb_bind_some, if_pos rfl, zs_pipi, ← Tid T (i + 2) hT]
              rfl
        · refine ⟨nI (i + 1), R, fun n hn => ?_, fun n T hn hT => ⟨nI (i + 1), ?_⟩, fun h => absurd h (zn_n9 (by omega))⟩
          · obtain ⟨n, rfl⟩ : ∃ q, n = q + 2 := ⟨n - 2, by omega⟩
            rw [pf_yes (n := n + 1) hS hi f0' (Or.inr (by omega))]
            by_cases e : i + 1 = tl
            · rw [e, pf_stop hS, if_neg (by omega)]
            · obtain ⟨v1, b1, b2, b3⟩ := pf_c1 (N := N) hS (show i + 1 < tl by omega) (show (i + 1) % 3 = 1 by omega) (show M + s < 13 by omega) hm
              have f1 := pf_fits6 (N := N) hS (show i + 1 < tl by omega) (by omega) hC1 hC2 b2 b1
              have hv : v1 = 0 := by
                rcases b2 with x | x
                · exact x
                · exact absurd ⟨by omega, b3.mp x⟩ c2
              rw [hv] at f1
              exact pf_no hS (by omega) f1
          · obtain ⟨n, rfl⟩ : ∃ q, n = q + 1 := ⟨n - 1, by omega⟩
            simp only [fX6_readBelt_63, fX6_readBelt_63b]
            rw [hT.1.2.1, hT.2.1, if_neg nle, (mf_ct0 (N := N) hT hl hi hR.1).2 c1, (mf_ct1 (N := N) hT.p hl hN (by omega)).1 c2, zb_bind_some, if_pos rfl, ← Tid T (i + 1) hT]
            rfl
      · refine ⟨nI i, R, fun n hn => ?_, fun n T hn hT => ⟨nI i, ?_⟩, fun h => absurd h (zn_n9 (by omega))⟩
        · obtain ⟨n, rfl⟩ : ∃ q, n = q + 1 := ⟨n - 1, by omega⟩
          have hv : v0 = 0 := by
            rcases a2 with x | x
            · exact x
            · exact absurd (a3.mp x) c1
          rw [hv] at f0
          exact pf_no hS hi f0
        · obtain ⟨n, rfl⟩ : ∃ q, n = q + 1 := ⟨n - 1, by omega⟩
          simp only [fX6_readBelt_63, fX6_readBelt_63b]
          rw [hT.1.2.1, hT.2.1, if_neg nle, (mf_ct0 (N := N) hT hl hi hR.1).1 c1, zb_bind_some, if_pos rfl, ← Tid0 T hT, hT.2.1]
end CT
