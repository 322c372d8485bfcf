section TX
variable {M s J tl na nx ns N b r k n : Nat} {S T S' S'' T' : zb_S} {f f' g g' R : Nat → Int32} {C : Nat → Nat} {m : Int32}
/-! the letters -/
def zf_c (tl : Nat) (C : Nat → Nat) (S : zb_S) : Prop := tl ≤ 40 ∧ zb_i S 1 1 = nI tl ∧ ∀ k, k < tl → zb_a S 2 k = nI (C k) ∧ C k ≤ 255
def zf_m (tl : Nat) (C : Nat → Nat) (S : zb_S) : Prop := tl ≤ 40 ∧ zb_i S 21 2 = nI tl ∧ ∀ k, k < tl → zb_a S 22 k = nI (C k) ∧ C k ≤ 255
theorem zf_toInt {ch : Nat} (hc : ch ≤ 255) : (nI ch - 48).toInt = (ch : Int) - 48 := pk_sub_toInt (a := ch) (b := 48) (by omega) (by omega)
theorem zf_dig {ch lo hi : Nat} (hc : ch ≤ 255) (hl : lo ≤ 20) (hh : hi ≤ 20) : (nI lo ≤ nI ch - 48 ∧ nI ch - 48 ≤ nI hi) ↔ (48 + lo ≤ ch ∧ ch ≤ 48 + hi) := by
  rw [Int32.le_iff_toInt_le, Int32.le_iff_toInt_le, zf_toInt hc, show (nI lo).toInt = (lo : Int) from nI_toInt (by omega), show (nI hi).toInt = (hi : Int) from nI_toInt (by omega)]
  omega
theorem zf_sub {ch : Nat} (h : 48 ≤ ch) : nI ch - 48 = nI (ch - 48) := pk_sub (b := 48) h
theorem pf_figure (hz : zf_c tl C S) (hk : k < tl) : fX4_figure N S (nI k) = some (nI (C k) - 48, S) := by
  obtain ⟨h1, h2, h3⟩ := hz
  unfold fX4_figure fX4_figure_0
  rw [if_pos (show zb_in (nI k) (zb_sz 2) from (zn_in (by omega)).mpr (show k < 40 by omega)), zn_cl (by omega), (h3 k hk).1]
theorem pf_isFig {lo hi : Nat} (hz : zf_c tl C S) (hk : k < tl) (hl : lo ≤ 20) (hh : hi ≤ 20) : fX4_isFigure N S (nI k) (nI lo) (nI hi) = some (if 48 + lo ≤ C k ∧ C k ≤ 48 + hi then 1 else 0, S) := by
  have hd := zf_dig (hz.2.2 k hk).2 hl hh
  unfold fX4_isFigure fX4_isFigure_0
  simp only [pf_figure hz hk, zb_bind_some]
  by_cases c1 : nI (C k) - 48 < nI lo
  · rw [if_pos c1, if_neg (fun q => absurd c1 (Int32.not_lt.mpr (hd.mpr q).1))]; rfl
  · rw [if_neg c1]
    by_cases c2 : nI hi < nI (C k) - 48
    · rw [if_pos c2, if_neg (fun q => absurd c2 (Int32.not_lt.mpr (hd.mpr q).2))]; rfl
    · rw [if_neg c2, if_pos (hd.mp ⟨Int32.not_lt.mp c1, Int32.not_lt.mp c2⟩)]; rfl
theorem mf_figure {lo hi : Nat} (hz : zf_m tl C T) (hp : zb_i T 21 3 = nI k) (hk : k ≤ tl) (hl : lo ≤ 20) (hh : hi ≤ 20) : fX6_figure N T (nI lo) (nI hi) = if k < tl ∧ 48 + lo ≤ C k ∧ C k ≤ 48 + hi then some (nI (C k - 48), zb_pi T 21 3 (nI (k + 1))) else some (-9, T) := by
  obtain ⟨h1, h2, h3⟩ := hz
  unfold fX6_figure fX6_figure_0
  rw [h2, hp]
  by_cases c : k < tl
  · rw [if_neg (by rw [zn_le (by omega) (by omega)]; omega), if_pos (show zb_in (nI k) (zb_sz 22) from (zn_in (by omega)).mpr (show k < 40 by omega)), zn_cl (by omega), (h3 k c).1]
    have hd := zf_dig (h3 k c).2 hl hh
    unfold fX6_figure_28
    rw [m_in32 (nI lo) (nI hi) rfl rfl]
    simp only [zb_bind_some, hp, zb_let, hd]
    by_cases d : 48 + lo ≤ C k ∧ C k ≤ 48 + hi
    · rw [if_pos d, if_neg (by decide), if_pos ⟨c, d⟩, zf_sub (by omega), show nI k + 1 = nI (k + 1) from nI_1 k]
    · rw [if_neg d, if_pos rfl, if_neg (fun q => d q.2)]
  · rw [if_pos (by rw [zn_le (by omega) (by omega)]; omega), if_neg (fun q => c q.1)]
    unfold fX6_figure_28
    rw [m_in32 (nI lo) (nI hi) rfl rfl]
    simp only [zb_bind_some]
    have h9 : ¬ (nI lo ≤ -9 ∧ -9 ≤ nI hi) := by
      rintro ⟨q, -⟩
      rw [Int32.le_iff_toInt_le, show (nI lo).toInt = (lo : Int) from nI_toInt (by omega), show (-9 : Int32).toInt = -9 from by decide] at q
      omega
    rw [if_neg h9, if_pos rfl]
/-! class: the loop over places -/
theorem pf_stop (hz : zf_c tl C S) : fX4_firstFault_4 N (n + 1) S m (nI tl) = some (if 6 ≤ tl ∧ tl % 3 = 0 then -9 else nI tl, S) := by
  obtain ⟨h1, h2, h3⟩ := hz
  simp only [fX4_firstFault_4, fX4_firstFault_4b, fX4_firstFault_75, h2]
  rw [if_pos (Int32.le_refl _), if_neg (show ¬ (3 : Nat) = 0 by decide), show nI tl - nI tl / 3 * 3 = nI (tl % 3) from pk_rem (d := 3) (by omega) (by omega) (by omega)]
  have e1 : nI tl < 6 ↔ tl < 6 := zn_lt (b := 6) (by omega) (by omega)
  have e2 : nI (tl % 3) = 0 ↔ tl % 3 = 0 := zn_eq0 (by omega)
  by_cases c1 : tl < 6
  · rw [if_pos (e1.mpr c1), if_neg (by omega)]
  · rw [if_neg (fun q => c1 (e1.mp q))]
    by_cases c2 : tl % 3 = 0
    · rw [if_pos (e2.mpr c2), if_pos ⟨by omega, c2⟩]
    · rw [if_neg (fun q => c2 (e2.mp q)), if_neg (fun q => c2 q.2)]
theorem pf_no (hz : zf_c tl C S) (hk : k < tl) (hf : fX4_fits N S (nI k) m = some (0, S)) : fX4_firstFault_4 N (n + 1) S m (nI k) = some (nI k, S) := by
  obtain ⟨h1, h2, h3⟩ := hz
  simp only [fX4_firstFault_4, fX4_firstFault_4b, h2, hf, zb_bind_some]
  rw [if_neg (by rw [zn_le (by omega) (by omega)]; omega), if_pos trivial]
theorem pf_yes (hz : zf_c tl C S) (hk : k < tl) (hf : fX4_fits N S (nI k) m = some (1, S)) (hd : k < 6 ∨ k % 3 ≠ 2) : fX4_firstFault_4 N (n + 1) S m (nI k) = fX4_firstFault_4 N n S m (nI (k + 1)) := by
  obtain ⟨h1, h2, h3⟩ := hz
  simp only [fX4_firstFault_4, fX4_firstFault_4b, h2, hf, zb_bind_some, fX4_firstFault_46, zb_let]
  rw [if_neg (by rw [zn_le (by omega) (by omega)]; omega), if_neg (by decide), show nI k + 1 = nI (k + 1) from nI_1 k]
  have e1 : nI k < 6 ↔ k < 6 := zn_lt (b := 6) (by omega) (by omega)
  by_cases c : k < 6
  · rw [if_pos (e1.mpr c)]
  · rw [if_neg (fun q => c (e1.mp q)), if_neg (show ¬ (3 : Nat) = 0 by decide), show nI k - nI k / 3 * 3 = nI (k % 3) from pk_rem (d := 3) (by omega) (by omega) (by omega)]
    rw [if_neg (fun q => by have := (zn_eq (b := 2) (by omega) (by omega)).mp q; omega)]
theorem pf_zone {t o : Nat} (hz : zf_c tl C S) (hk : k + 1 < tl) (h1 : C k = 48 + t) (h2 : C (k + 1) = 48 + o) : fX4_zoneEndingAt N S (nI (k + 1)) = some (nI (10 * t + o), S) := by
  unfold fX4_zoneEndingAt fX4_zoneEndingAt_0
  rw [zn_s1, pf_figure hz (by omega), zb_bind_some, pf_figure hz hk, zb_bind_some, h1, h2, zf_sub (by omega), zf_sub (by omega), show 48 + t - 48 = t by omega, show 48 + o - 48 = o by omega, zn_mr, nI_add, Nat.mul_comm]
theorem pf_yes2 {t o : Nat} (hz : zf_c tl C S) (hk : k + 1 < tl) (hk6 : 6 ≤ k) (hk3 : (k + 1) % 3 = 2) (h1 : C k = 48 + t) (h2 : C (k + 1) = 48 + o) (hf : fX4_fits N S (nI (k + 1)) m = some (1, S)) : fX4_firstFault_4 N (n + 1) S m (nI (k + 1)) = fX4_firstFault_4 N n S (m ||| ((1 : Int32) <<< (nI (10 * t + o) &&& 31))) (nI (k + 2)) := by
  have hz' := hz
  obtain ⟨h3, h4, h5⟩ := hz
  simp only [fX4_firstFault_4, fX4_firstFault_4b, h4, hf, zb_bind_some, fX4_firstFault_46, zb_let, pf_zone hz' hk h1 h2]
  have e1 : nI (k + 1) < 6 ↔ k + 1 < 6 := zn_lt (b := 6) (by omega) (by omega)
  rw [if_neg (by rw [zn_le (by omega) (by omega)]; omega), if_neg (by decide), if_neg (fun q => by have := e1.mp q; omega), if_neg (show ¬ (3 : Nat) = 0 by decide), show nI (k + 1) - nI (k + 1) / 3 * 3 = nI ((k + 1) % 3) from pk_rem (d := 3) (by omega) (by omega) (by omega), hk3, if_pos (show nI 2 = 2 from rfl), show nI (k + 1) + 1 = nI (k + 2) from nI_1 (k + 1)]
/-! class: fits -/
theorem pf_fits0 (hz : zf_c tl C S) (hk : 0 < tl) : fX4_fits N S (nI 0) m = some (if C 0 = 90 then 1 else 0, S) := by
  unfold fX4_fits fX4_fits_0
  rw [if_pos (show nI 0 = 0 from rfl), if_pos (show zb_in (nI 0) (zb_sz 2) by decide), show Int32.toNatClampNeg (nI 0) = 0 from zn_cl (by omega), (hz.2.2 0 hk).1]
  have e : nI (C 0) = 90 ↔ C 0 = 90 := zn_eq (a := C 0) (b := 90) (by have := (hz.2.2 0 hk).2; omega) (by omega)
  by_cases c : C 0 = 90
  · rw [if_pos (e.mpr c), if_pos c]; rfl
  · rw [if_neg (fun q => c (e.mp q)), if_neg c]; rfl
theorem pf_r (v : Prop) [Decidable v] : (if (if v then (1 : Int32) else 0) = 0 ∨ (if v then (1 : Int32) else 0) = 1 then some ((if v then (1 : Int32) else 0), S) else none) = some (if v then 1 else 0, S) := by
  by_cases c : v <;> simp [c]
theorem pf_fits1 (hz : zf_c tl C S) (hk : 1 < tl) : fX4_fits N S (nI 1) m = some (if 50 ≤ C 1 ∧ C 1 ≤ 56 then 1 else 0, S) := by
  unfold fX4_fits fX4_fits_0
  rw [if_neg (by decide), if_pos (show nI 1 = 1 from rfl), show (2 : Int32) = nI 2 from rfl, show (8 : Int32) = nI 8 from rfl, pf_isFig hz hk (by omega) (by omega), zb_bind_some]
  exact pf_r _
theorem pf_fits2 (hz : zf_c tl C S) (hk : 2 < tl) : fX4_fits N S (nI 2) m = some (if 48 ≤ C 2 ∧ C 2 ≤ 52 then 1 else 0, S) := by
  unfold fX4_fits fX4_fits_0
  rw [if_neg (by decide), if_neg (by decide), if_pos (show nI 2 = 2 from rfl), show (0 : Int32) = nI 0 from rfl, show (4 : Int32) = nI 4 from rfl, pf_isFig hz hk (by omega) (by omega), zb_bind_some]
  exact pf_r _
theorem pf_fits3 (hz : zf_c tl C S) (hk : 3 < tl) (h1 : 50 ≤ C 1 ∧ C 1 ≤ 56) : fX4_fits N S (nI 3) m = some (if 49 ≤ C 3 ∧ C 3 ≤ C 1 - 1 then 1 else 0, S) := by
  unfold fX4_fits fX4_fits_0
  rw [if_neg (by decide), if_neg (by decide), if_neg (by decide), if_pos (show nI 3 = 3 from rfl), show fX4_figure N S 1 = fX4_figure N S (nI 1) from rfl, pf_figure hz (by omega), zb_bind_some, zf_sub (by omega), zn_sub1 (by omega), show (1 : Int32) = nI 1 from rfl, pf_isFig hz hk (by omega) (by omega), zb_bind_some]
  have : (48 + 1 ≤ C 3 ∧ C 3 ≤ 48 + (C 1 - 48 - 1)) = (49 ≤ C 3 ∧ C 3 ≤ C 1 - 1) := by apply propext; omega
  simp only [this]
  exact pf_r _
theorem pf_fits4 (hz : zf_c tl C S) (hk : 4 < tl) : fX4_fits N S (nI 4) m = some (if 48 ≤ C 4 ∧ C 4 ≤ 49 then 1 else 0, S) := by
  unfold fX4_fits fX4_fits_0
  rw [if_neg (by decide), if_neg (by decide), if_neg (by decide), if_neg (by decide), if_pos (show nI 4 = 4 from rfl), show fX4_isFigure N S (nI 4) 0 1 = fX4_isFigure N S (nI 4) (nI 0) (nI 1) from rfl, pf_isFig hz hk (by omega) (by omega), zb_bind_some]
  exact pf_r _
theorem pf_fits5 (hz : zf_c tl C S) (hk : 5 < tl) : fX4_fits N S (nI 5) m = some (if 48 ≤ C 5 ∧ C 5 ≤ 57 then 1 else 0, S) := by
  unfold fX4_fits fX4_fits_0
  rw [if_neg (by decide), if_neg (by decide), if_neg (by decide), if_neg (by decide), if_neg (by decide), if_pos (show nI 5 = 5 from rfl), show fX4_isFigure N S (nI 5) 0 9 = fX4_isFigure N S (nI 5) (nI 0) (nI 9) from rfl, pf_isFig hz hk (by omega) (by omega), zb_bind_some]
  exact pf_r _
theorem zf_mask : ∀ Z, Z < 13 → ∀ z, z < 32 → bt (((1 : Int32) <<< (nI Z &&& 31)) - 1) z = decide (z < Z) := by decide +kernel
/-- the free zones, as a set -/
def zf_free (m : Int32) (Z : Nat) : Int32 := (m ^^^ (-1 : Int32)) &&& (((1 : Int32) <<< (nI Z &&& 31)) - 1)
theorem zf_fr {Z z : Nat} (hZ : Z < 13) (hz : z < 32) : bt (zf_free m Z) z = (!bt m z && decide (z < Z)) := by
  unfold zf_free; rw [b_and, zb_not _ hz, zf_mask Z hZ z hz]
theorem pf_fits6 {v : Int32} (hz : zf_c tl C S) (hk : k < tl) (hk6 : 6 ≤ k) (h1 : C 1 = 48 + M) (h2 : C 2 = 48 + s) (hv : v = 0 ∨ v = 1) (h : fX4_fitsCarton N S (nI k) (zf_free m (M + s)) = some (v, S)) : fX4_fits N S (nI k) m = some (v, S) := by
  have h40 := hz.1
  have q : ∀ j, j < 6 → ¬ nI k = nI j := fun j hj e => by have := (zn_eq (by omega) (by omega)).mp e; omega
  unfold fX4_fits fX4_fits_0
  rw [if_neg (show ¬ nI k = 0 from q 0 (by omega)), if_neg (show ¬ nI k = 1 from q 1 (by omega)), if_neg (show ¬ nI k = 2 from q 2 (by omega)), if_neg (show ¬ nI k = 3 from q 3 (by omega)), if_neg (show ¬ nI k = 4 from q 4 (by omega)), if_neg (show ¬ nI k = 5 from q 5 (by omega)), show fX4_figure N S 1 = fX4_figure N S (nI 1) from rfl, pf_figure hz (by omega), zb_bind_some, show fX4_figure N S 2 = fX4_figure N S (nI 2) from rfl, pf_figure hz (by omega), zb_bind_some, h1, h2, zf_sub (by omega), zf_sub (by omega), show 48 + M - 48 = M by omega, show 48 + s - 48 = s by omega, nI_add]
  rw [show (m ^^^ (-1 : Int32)) &&& (((1 : Int32) <<< (nI (M + s) &&& 31)) - 1) = zf_free m (M + s) from rfl, h, zb_bind_some, if_pos hv]
/-- zone z is free in the row that is read -/
def zf_A (Z : Nat) (R : Nat → Int32) (z : Nat) : Prop := z < Z ∧ R (6 * z) = 0
theorem pf_c0 {Z : Nat} (hz : zf_c tl C S) (hk : k < tl) (hk3 : k % 3 = 0) (hZ : Z < 13) (hm : ∀ z, z < Z → bt m z = !decide (R (6 * z) = 0)) : ∃ v, fX4_fitsCarton N S (nI k) (zf_free m Z) = some (v, S) ∧ (v = 0 ∨ v = 1) ∧ (v = 1 ↔ C k = 99 ∧ ∃ z, zf_A Z R z) := by
  have h40 := hz.1
  have hf : zf_free m Z = 0 ↔ ¬ ∃ z, zf_A Z R z := by
    constructor
    · rintro h ⟨z, z1, z2⟩
      have := zf_fr (m := m) hZ (show z < 32 by omega)
      rw [h, b_0, hm z z1] at this
      simp [z1, z2] at this
    · intro h
      apply b_ext
      intro z hz
      rw [zf_fr hZ hz, b_0]
      by_cases c : z < Z
      · rw [hm z c]
        have : ¬ R (6 * z) = 0 := fun q => h ⟨z, c, q⟩
        simp [this]
      · simp [c]
  unfold fX4_fitsCarton fX4_fitsCarton_0
  rw [if_neg (show ¬ (3 : Nat) = 0 by decide), show nI k - nI k / 3 * 3 = nI (k % 3) from pk_rem (d := 3) (by omega) (by omega) (by omega), hk3, if_pos (show nI 0 = 0 from rfl), if_pos (show zb_in (nI k) (zb_sz 2) from (zn_in (by omega)).mpr (show k < 40 by omega)), zn_cl (by omega), (hz.2.2 k hk).1]
  have e : nI (C k) = 99 ↔ C k = 99 := zn_eq (a := C k) (b := 99) (by have := (hz.2.2 k hk).2; omega) (by omega)
  by_cases c : C k = 99
  · rw [if_pos (e.mpr c)]
    by_cases d : zf_free m Z = 0
    · rw [if_pos d]
      exact ⟨0, rfl, Or.inl rfl, ⟨fun q => absurd q (by decide), fun q => absurd q.2 (hf.mp d)⟩⟩
    · rw [if_neg d]
      refine ⟨1, rfl, Or.inr rfl, ⟨fun _ => ⟨c, ?_⟩, fun _ => rfl⟩⟩
      by_cases x : ∃ z, zf_A Z R z
      · exact x
      · exact absurd (hf.mpr x) d
  · rw [if_neg (fun q => c (e.mp q))]
    exact ⟨0, rfl, Or.inl rfl, ⟨fun q => absurd q (by decide), fun q => absurd q.1 c⟩⟩
theorem zf_1023 : ∀ z, z < 32 → bt 1023 z = decide (z < 10) := by decide +kernel
theorem pf_c1 {Z : Nat} (hz : zf_c tl C S) (hk : k < tl) (hk3 : k % 3 = 1) (hZ : Z < 13) (hm : ∀ z, z < Z → bt m z = !decide (R (6 * z) = 0)) : ∃ v, fX4_fitsCarton N S (nI k) (zf_free m Z) = some (v, S) ∧ (v = 0 ∨ v = 1) ∧ (v = 1 ↔ ∃ t, t < 2 ∧ C k = 48 + t ∧ ∃ o, o < 10 ∧ zf_A Z R (10 * t + o)) := by
  have h40 := hz.1
  unfold fX4_fitsCarton fX4_fitsCarton_0
  rw [if_neg (show ¬ (3 : Nat) = 0 by decide), show nI k - nI k / 3 * 3 = nI (k % 3) from pk_rem (d := 3) (by omega) (by omega) (by omega), hk3, if_neg (by decide), if_pos (show nI 1 = 1 from rfl), show fX4_isFigure N S (nI k) 0 1 = fX4_isFigure N S (nI k) (nI 0) (nI 1) from rfl, pf_isFig hz hk (by omega) (by omega), zb_bind_some]
  by_cases c : 48 + 0 ≤ C k ∧ C k ≤ 48 + 1
  · obtain ⟨t, ht⟩ : ∃ t, C k = 48 + t := ⟨C k - 48, by omega⟩
    have t2 : t < 2 := by omega
    rw [if_pos c, if_neg (by decide), pf_figure hz hk, zb_bind_some, ht, zf_sub (by omega), show 48 + t - 48 = t by omega, zn_mr]
    have hf : ((zf_free m Z >>> (nI (t * 10) &&& 31)) &&& (1023 : Int32)) = 0 ↔ ¬ ∃ o, o < 10 ∧ zf_A Z R (10 * t + o) := by
      constructor
      · rintro h ⟨o, o1, z1, z2⟩
        have : bt ((zf_free m Z >>> (nI (t * 10) &&& 31)) &&& (1023 : Int32)) o = false := by rw [h, b_0]
        rw [b_and, b_sshr (t * 10) (by omega) _ (by omega), if_pos (by omega), zf_1023 o (by omega), zf_fr hZ (by omega), show t * 10 + o = 10 * t + o by omega, hm _ z1] at this
        simp [z1, z2, o1] at this
      · intro h
        apply b_ext
        intro z hz
        rw [b_and, b_sshr (t * 10) (by omega) _ hz, zf_1023 z hz, b_0]
        by_cases d : z < 10
        · rw [if_pos (by omega), zf_fr hZ (by omega)]
          by_cases c2 : t * 10 + z < Z
          · rw [hm _ c2]
            have : ¬ R (6 * (t * 10 + z)) = 0 := fun q => h ⟨z, d, by rw [show 10 * t + z = t * 10 + z by omega]; exact ⟨c2, q⟩⟩
            simp [this]
          · simp [c2]
        · simp [d]
    by_cases d : ((zf_free m Z >>> (nI (t * 10) &&& 31)) &&& (1023 : Int32)) = 0
    · rw [if_pos d]
      refine ⟨0, rfl, Or.inl rfl, ⟨fun q => absurd q (by decide), ?_⟩⟩
      rintro ⟨t', -, e1, e2⟩
      have : t' = t := by omega
      rw [this] at e2
      exact absurd e2 (hf.mp d)
    · rw [if_neg d]
      refine ⟨1, rfl, Or.inr rfl, ⟨fun _ => ⟨t, t2, rfl, ?_⟩, fun _ => rfl⟩⟩
      by_cases x : ∃ o, o < 10 ∧ zf_A Z R (10 * t + o)
      · exact x
      · exact absurd (hf.mpr x) d
  · rw [if_neg c, if_pos rfl]
    refine ⟨0, rfl, Or.inl rfl, ⟨fun q => absurd q (by decide), ?_⟩⟩
    rintro ⟨t', e0, e1, e2⟩
    exact absurd (by omega) c
theorem pf_c2 {Z t : Nat} (hz : zf_c tl C S) (hk : k + 1 < tl) (hk3 : (k + 1) % 3 = 2) (hZ : Z < 13) (ht : t < 2) (hCt : C k = 48 + t) (hm : ∀ z, z < Z → bt m z = !decide (R (6 * z) = 0)) : ∃ v, fX4_fitsCarton N S (nI (k + 1)) (zf_free m Z) = some (v, S) ∧ (v = 0 ∨ v = 1) ∧ (v = 1 ↔ ∃ o, o < 10 ∧ C (k + 1) = 48 + o ∧ zf_A Z R (10 * t + o)) := by
  have h40 := hz.1
  unfold fX4_fitsCarton fX4_fitsCarton_0
  rw [if_neg (show ¬ (3 : Nat) = 0 by decide), show nI (k + 1) - nI (k + 1) / 3 * 3 = nI ((k + 1) % 3) from pk_rem (d := 3) (by omega) (by omega) (by omega), hk3, if_neg (by decide), if_neg (by decide), show fX4_isFigure N S (nI (k + 1)) 0 9 = fX4_isFigure N S (nI (k + 1)) (nI 0) (nI 9) from rfl, pf_isFig hz hk (by omega) (by omega), zb_bind_some]
  by_cases c : 48 + 0 ≤ C (k + 1) ∧ C (k + 1) ≤ 48 + 9
  · obtain ⟨o, ho⟩ : ∃ o, C (k + 1) = 48 + o := ⟨C (k + 1) - 48, by omega⟩
    rw [if_pos c, if_neg (by decide), pf_zone hz hk hCt ho, zb_bind_some, p_in (show 10 * t + o < 32 by omega), zb_bind_some, zf_fr hZ (by omega)]
    by_cases d : zf_A Z R (10 * t + o)
    · rw [hm _ d.1]
      refine ⟨1, ?_, Or.inr rfl, ⟨fun _ => ⟨o, by omega, ho, d⟩, fun _ => rfl⟩⟩
      simp [d.1, d.2]
    · refine ⟨0, ?_, Or.inl rfl, ⟨fun q => absurd q (by decide), ?_⟩⟩
      · by_cases e : 10 * t + o < Z
        · rw [hm _ e]
          have : ¬ R (6 * (10 * t + o)) = 0 := fun q => d ⟨e, q⟩
          simp [this]
        · simp [e]
      · rintro ⟨o', -, e1, e2⟩
        have : o' = o := by omega
        rw [this] at e2
        exact absurd e2 d
  · rw [if_neg c, if_pos rfl]
    refine ⟨0, rfl, Or.inl rfl, ⟨fun q => absurd q (by decide), ?_⟩⟩
    rintro ⟨t', e0, e1, e2⟩
    exact absurd (by omega) c
end TX
