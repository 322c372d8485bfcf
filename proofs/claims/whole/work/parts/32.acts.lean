section AC
variable {M s J tl na nx ns N b r : Nat} {S T : zb_S} {f f' g g' : Nat → Int32}
theorem zr_Rel.ext {Z : Nat} (hZ : Z ≤ 12) (h : zr_Rel Z f g) (hf : ∀ i, i < 57 → f' i = f i) (hg : ∀ i, i < 79 → g' i = g i) : zr_Rel Z f' g' := by
  obtain ⟨h1, h2, h3, h4⟩ := h
  refine ⟨fun z hz => ?_, fun z hz => ?_, fun z hz => ?_, fun j hj => ?_⟩
  · rw [hf z (by omega), hf (12 + z) (by omega), hf (24 + z) (by omega), hf (36 + z) (by omega), hg (6 * z) (by omega), hg (6 * z + 1) (by omega), hg (6 * z + 4) (by omega), hg (6 * z + 5) (by omega)]
    exact h1 z hz
  · rw [hf 48 (by omega), h2 z hz]
    by_cases c : z < Z
    · rw [hg _ (by omega)]
    · simp [c]
  · rw [hf 49 (by omega), h3 z hz]
    by_cases c : z < Z
    · rw [hg _ (by omega)]
    · simp [c]
  · rw [hf _ (by omega), hg _ (by omega)]; exact h4 j hj
theorem zr_wf.ext {Z : Nat} (hZ : Z ≤ 12) (h : zr_wf Z g) (hg : ∀ i, i < 79 → g' i = g i) : zr_wf Z g' := by
  obtain ⟨h1, h2, h3, h4, h5⟩ := h
  refine ⟨fun z hz => ?_, ?_, ?_, ?_, ?_⟩
  · rw [hg _ (by omega), hg (6 * z + 1) (by omega), hg (6 * z + 2) (by omega), hg (6 * z + 3) (by omega)]; exact h1 z hz
  · rw [hg _ (by omega)]; exact h2
  · rw [hg _ (by omega)]; exact h3
  · rw [hg _ (by omega)]; exact h4
  · rw [hg _ (by omega)]; exact h5
theorem zn_mr (a k : Nat) : nI k * (no_index (OfNat.ofNat a : Int32)) = nI (k * a) := pk_mul k a
theorem zn_mod {a : Nat} (h : a < 2147483648) : nI a - nI a / 14 * 14 = nI (a % 14) := pk_rem (d := 14) h (by omega) (by omega)
theorem p_put {b k q : Nat} (hk : zb_i S b 0 = nI q) (h1 : k < q) (h2 : q ≤ 14) (h3 : zb_sz (b + 1) = 57 * q) : fX3_put N b 3 S (nI k) = some ((), zs_a S (b + 1) (va_cpy (zb_a S 4) (zb_a S (b + 1)) 0 (k * 57) 57)) := by
  unfold fX3_put fX3_put_0
  rw [if_neg (by rw [zn_lt0 (by omega)]; exact fun h => h), hk, if_neg (by rw [zn_le (by omega) (by omega)]; omega), show nI k * 57 = nI (k * 57) from pk_mul k 57]
  have c : Int32.toNatClampNeg (nI (k * 57)) = k * 57 := zn_cl (by omega)
  rw [if_pos]
  · simp only [zb_let, zs_cp, c]; rfl
  · rw [h3]
    refine ⟨by decide, by rw [zn_lt0 (by omega)]; exact fun h => h, by decide, by decide, ?_⟩
    rw [c, show Int32.toNatClampNeg 57 = 57 from by decide]
    omega
theorem p_get {b k q : Nat} (hk : zb_i S b 0 = nI q) (h1 : k < q) (h2 : q ≤ 14) (h3 : zb_sz (b + 1) = 57 * q) (d : Nat) (hd : zb_sz (d + 1) = 57) : fX3_get N b d S (nI k) = some ((), zs_a S (d + 1) (va_cpy (zb_a S (b + 1)) (zb_a S (d + 1)) (k * 57) 0 57)) := by
  unfold fX3_get fX3_get_0
  rw [if_neg (by rw [zn_lt0 (by omega)]; exact fun h => h), hk, if_neg (by rw [zn_le (by omega) (by omega)]; omega), show nI k * 57 = nI (k * 57) from pk_mul k 57]
  have c : Int32.toNatClampNeg (nI (k * 57)) = k * 57 := zn_cl (by omega)
  rw [if_pos]
  · simp only [zb_let, zs_cp, c]; rfl
  · rw [h3, hd]
    refine ⟨by rw [zn_lt0 (by omega)]; exact fun h => h, by decide, by decide, ?_, by decide⟩
    rw [c, show Int32.toNatClampNeg 57 = 57 from by decide]
    omega
def zc_rem (S : zb_S) (na nx : Nat) : zb_S := zb_pi (zb_pi (zs_a S 9 (va_cpy (zb_a S 4) (zb_a S 9) 0 (nx * 57) 57)) 7 1 (nI ((nx + 1) % 14))) 7 2 (nI (if na < 14 then na + 1 else 14))
theorem p_remember (h : zi_act M s na nx S) : fX0_remember N 3 S = some ((), zc_rem S na nx) := by
  obtain ⟨a1, a2, a3, a4, a5, a6, a7⟩ := h
  unfold fX0_remember fX0_remember_0
  rw [a4, p_put (b := 8) a6 a2 (by omega) rfl]
  simp only [zb_bind_some, zb_let]
  rw [if_neg (by decide)]
  have e1 : zb_i (zs_a S (8 + 1) (va_cpy (zb_a S 4) (zb_a S (8 + 1)) 0 (nx * 57) 57)) 7 1 = nI nx := a4
  rw [e1, show nI nx + 1 = nI (nx + 1) from nI_1 nx, zn_mod (by omega)]
  have e2 : zb_i (zb_pi (zs_a S (8 + 1) (va_cpy (zb_a S 4) (zb_a S (8 + 1)) 0 (nx * 57) 57)) 7 1 (nI ((nx + 1) % 14))) 7 2 = nI na := a3
  rw [e2, show nI na + 1 = nI (na + 1) from nI_1 na]
  unfold zc_rem
  by_cases h : na < 14
  · rw [if_pos h, if_neg (show ¬ (14 : Int32) < nI (na + 1) by rw [show (14 : Int32) = nI 14 from rfl, zn_lt (by omega) (by omega)]; omega)]
  · rw [if_neg h, if_pos (show (14 : Int32) < nI (na + 1) by rw [show (14 : Int32) = nI 14 from rfl, zn_lt (by omega) (by omega)]; omega)]
    rfl
theorem zc_cpy {sp dp i : Nat} : upd (va_cpy f g sp dp i) (dp + i) (f (sp + i)) = va_cpy f g sp dp (i + 1) := by
  funext q
  unfold upd va_cpy
  by_cases h : q = dp + i
  · subst h
    rw [if_pos rfl, if_pos (by omega)]
    congr 1; omega
  · rw [if_neg h]
    by_cases h2 : dp ≤ q ∧ q < dp + i
    · rw [if_pos h2, if_pos (by omega)]
    · rw [if_neg h2, if_neg (by omega)]
theorem zc_cpy0 {sp dp : Nat} : va_cpy f g sp dp 0 = g := by
  funext q; unfold va_cpy; rw [if_neg (by omega)]
def zm_sh (B : Nat → Int32) (i : Nat) : Nat → Int32 := fun q => if q < i then B (q + 79) else B q
theorem zm_sh_s {B : Nat → Int32} {i : Nat} : upd (zm_sh B i) i (zm_sh B i (i + 79)) = zm_sh B (i + 1) := by
  funext q
  unfold upd zm_sh
  by_cases h : q = i
  · subst h
    rw [if_pos rfl, if_neg (by omega), if_pos (by omega)]
  · rw [if_neg h]
    by_cases h2 : q < i
    · rw [if_pos h2, if_pos (by omega)]
    · rw [if_neg h2, if_neg (by omega)]
/-- the row of acts told anew, in the reference -/
def zm_bk (G B : Nat → Int32) (na : Nat) : Nat → Int32 := if na < 14 then va_cpy G B 0 (79 * na) 79 else va_cpy G (zm_sh B 1027) 0 (79 * 13) 79
def zm_note (S : zb_S) (na : Nat) : zb_S := zb_pi (zs_a S 26 (zm_bk (zb_a S 24) (zb_a S 26) na)) 21 14 (nI (if na < 14 then na + 1 else 14))
theorem m_note (hN : 5000 ≤ N) (h1 : zb_i S 21 14 = nI na) (h2 : na ≤ 14) : fX6_note N S = some ((), zm_note S na) := by
  have copy : ∀ (T : zb_S) (d : Nat), zb_i T 21 14 = nI d → d < 14 → ∀ (j n i : Nat), i + j = 79 → j < n → fX6_note_51 N n (zs_a T 26 (va_cpy (zb_a T 24) (zb_a T 26) 0 (79 * d) i)) (nI i) = some ((), zb_pi (zs_a T 26 (va_cpy (zb_a T 24) (zb_a T 26) 0 (79 * d) 79)) 21 14 (nI (d + 1))) := by
    intro T d hT hd j
    induction j with
    | zero =>
      intro n i hi hn
      obtain ⟨n, rfl⟩ : ∃ q, n = q + 1 := ⟨n - 1, by omega⟩
      have e : i = 79 := by omega
      subst e
      simp only [fX6_note_51, fX6_note_51b, zb_let]
      rw [if_pos (by decide), zs_i, hT, zn_ar]
    | succ j ih =>
      intro n i hi hn
      obtain ⟨n, rfl⟩ : ∃ q, n = q + 1 := ⟨n - 1, by omega⟩
      simp only [fX6_note_51, fX6_note_51b, zb_let, zs_i, hT, zn_ml, nI_add, zn_ar]
      rw [if_neg (show ¬ (79 : Int32) ≤ nI i by rw [show (79 : Int32) = nI 79 from rfl, zn_le (by omega) (by omega)]; omega), if_pos (show zb_in (nI i) (zb_sz 24) from (zn_in (by omega)).mpr (show i < 79 by omega)), if_pos (show zb_in (nI (79 * d + i)) (zb_sz 26) from (zn_in (by omega)).mpr (show 79 * d + i < 1106 by omega)), zn_cl (by omega), zn_cl (by omega), zs_pa, zs_same, zs_aa, zs_ne (by omega)]
      have := zc_cpy (f := zb_a T 24) (g := zb_a T 26) (sp := 0) (dp := 79 * d) (i := i)
      rw [Nat.zero_add] at this
      rw [this]
      exact ih n (i + 1) (by omega) (by omega)
  have copy0 : ∀ (T : zb_S) (d : Nat), zb_i T 21 14 = nI d → d < 14 → fX6_note_49 N T = some ((), zb_pi (zs_a T 26 (va_cpy (zb_a T 24) (zb_a T 26) 0 (79 * d) 79)) 21 14 (nI (d + 1))) := by
    intro T d hT hd
    unfold fX6_note_49
    have := copy T d hT hd 79 N 0 (by omega) (by omega)
    rw [zc_cpy0, zs_id] at this
    exact this
  unfold fX6_note fX6_note_0 zm_note zm_bk
  rw [h1]
  by_cases h : na < 14
  · rw [if_neg (show ¬ nI na = 14 by rw [show (14 : Int32) = nI 14 from rfl, zn_eq (by omega) (by omega)]; omega), if_pos h, if_pos h]
    exact copy0 S na h1 h
  · have e : na = 14 := by omega
    subst e
    rw [if_pos (by rfl), if_neg h, if_neg h]
    have shift : ∀ (j n i : Nat), i + j = 1027 → j < n → fX6_note_11 N n (zs_a S 26 (zm_sh (zb_a S 26) i)) (nI i) = fX6_note_49 N (zb_pi (zs_a S 26 (zm_sh (zb_a S 26) 1027)) 21 14 (nI 13)) := by
      intro j
      induction j with
      | zero =>
        intro n i hi hn
        obtain ⟨n, rfl⟩ : ∃ q, n = q + 1 := ⟨n - 1, by omega⟩
        have e : i = 1027 := by omega
        subst e
        simp only [fX6_note_11, fX6_note_11b, zb_let]
        rw [if_pos (by decide), zs_i, h1]
        rfl
      | succ j ih =>
        intro n i hi hn
        obtain ⟨n, rfl⟩ : ∃ q, n = q + 1 := ⟨n - 1, by omega⟩
        simp only [fX6_note_11, fX6_note_11b, zb_let, zn_ar]
        rw [if_neg (show ¬ (1027 : Int32) ≤ nI i by rw [show (1027 : Int32) = nI 1027 from rfl, zn_le (by omega) (by omega)]; omega), if_pos (show zb_in (nI (i + 79)) (zb_sz 26) from (zn_in (by omega)).mpr (show i + 79 < 1106 by omega)), if_pos (show zb_in (nI i) (zb_sz 26) from (zn_in (by omega)).mpr (show i < 1106 by omega)), zn_cl (by omega), zn_cl (by omega), zs_pa, zs_same, zs_aa, zm_sh_s]
        exact ih n (i + 1) (by omega) (by omega)
    have e0 := shift 1027 N 0 (by omega) (by omega)
    have e1 : zm_sh (zb_a S 26) 0 = zb_a S 26 := by funext q; unfold zm_sh; rw [if_neg (by omega)]
    rw [e1, zs_id] at e0
    rw [show fX6_note_11 N N S 0 = _ from e0]
    have e2 := copy0 (zb_pi (zs_a S 26 (zm_sh (zb_a S 26) 1027)) 21 14 (nI 13)) 13 rfl (by omega)
    rw [e2]
    have e3 : zb_a (zb_pi (zs_a S 26 (zm_sh (zb_a S 26) 1027)) 21 14 (nI 13)) 24 = zb_a S 24 := rfl
    have e4 : zb_a (zb_pi (zs_a S 26 (zm_sh (zb_a S 26) 1027)) 21 14 (nI 13)) 26 = zm_sh (zb_a S 26) 1027 := by rw [zs_pi_a, zs_same]
    rw [e3, e4]
    simp only [zs_api, zs_pipi, zs_aa]
theorem zi_act.push (h : zi_act M s na nx S) (hn : zi_now M s S) (hl : zc_lim M s J) (h1 : zb_i T 7 2 = nI (if na < 14 then na + 1 else 14)) (h2 : zb_i T 7 1 = nI ((nx + 1) % 14)) (h3 : zb_i T 21 14 = nI (if na < 14 then na + 1 else 14)) (h4 : zb_i T 8 0 = zb_i S 8 0) (h5 : zb_a T 9 = va_cpy (zb_a S 4) (zb_a S 9) 0 (nx * 57) 57) (h6 : zb_a T 26 = zm_bk (zb_a S 24) (zb_a S 26) na) : zi_act M s (if na < 14 then na + 1 else 14) ((nx + 1) % 14) T := by
  obtain ⟨a1, a2, a3, a4, a5, a6, a7⟩ := h
  obtain ⟨l1, l2, l3, l4, l5⟩ := hl
  refine ⟨by split <;> omega, by omega, h1, h2, h3, by rw [h4]; exact a6, fun k hk => ?_⟩
  rw [h5, h6]
  unfold zm_bk
  by_cases c : na < 14
  · simp only [if_pos c] at hk ⊢
    by_cases e : k = na
    · subst e
      have es : ((nx + 1) % 14 + 14 - (k + 1) + k) % 14 = nx := by omega
      simp only [es]
      refine ⟨hn.1.ext (by omega) (fun i hi => ?_) (fun i hi => ?_), hn.2.ext (by omega) (fun i hi => ?_)⟩
      · unfold va_cpy; rw [if_pos (by omega)]; congr 1; omega
      · unfold va_cpy; rw [if_pos (by omega)]; congr 1; omega
      · unfold va_cpy; rw [if_pos (by omega)]; congr 1; omega
    · obtain ⟨b1, b2⟩ := a7 k (by omega)
      have es : ((nx + 1) % 14 + 14 - (na + 1) + k) % 14 = (nx + 14 - na + k) % 14 := by omega
      have en : (nx + 14 - na + k) % 14 ≠ nx := by omega
      simp only [es]
      generalize (nx + 14 - na + k) % 14 = q at b1 en ⊢
      refine ⟨b1.ext (by omega) (fun i hi => ?_) (fun i hi => ?_), b2.ext (by omega) (fun i hi => ?_)⟩
      · unfold va_cpy; rw [if_neg (by omega)]
      · unfold va_cpy; rw [if_neg (by omega)]
      · unfold va_cpy; rw [if_neg (by omega)]
  · simp only [if_neg c] at hk ⊢
    have e14 : na = 14 := by omega
    subst e14
    by_cases e : k = 13
    · subst e
      have es : ((nx + 1) % 14 + 14 - 14 + 13) % 14 = nx := by omega
      simp only [es]
      refine ⟨hn.1.ext (by omega) (fun i hi => ?_) (fun i hi => ?_), hn.2.ext (by omega) (fun i hi => ?_)⟩
      · unfold va_cpy; rw [if_pos (by omega), show 0 + (57 * nx + i - nx * 57) = i by omega]
      · unfold va_cpy; rw [if_pos (by omega), show 0 + (79 * 13 + i - 79 * 13) = i by omega]
      · unfold va_cpy; rw [if_pos (by omega), show 0 + (79 * 13 + i - 79 * 13) = i by omega]
    · obtain ⟨b1, b2⟩ := a7 (k + 1) (by omega)
      have es : ((nx + 1) % 14 + 14 - 14 + k) % 14 = (nx + 14 - 14 + (k + 1)) % 14 := by omega
      have en : (nx + 14 - 14 + (k + 1)) % 14 ≠ nx := by omega
      simp only [es]
      generalize (nx + 14 - 14 + (k + 1)) % 14 = q at b1 en ⊢
      refine ⟨b1.ext (by omega) (fun i hi => ?_) (fun i hi => ?_), b2.ext (by omega) (fun i hi => ?_)⟩
      · unfold va_cpy; rw [if_neg (by omega)]
      · unfold va_cpy zm_sh; rw [if_neg (by omega), if_pos (by omega)]; congr 1; omega
      · unfold va_cpy zm_sh; rw [if_neg (by omega), if_pos (by omega)]; congr 1; omega
end AC
