/-! the class's belt, in plain terms -/
def zf_see (f : Nat → Int32) (k : Nat) : Bool := decide (f (12 + k) = 2) || (decide (f (12 + k) = 0) && !decide (f k = 0))
theorem p_in {N k : Nat} {S : zb_S} {a : Int32} (hk : k < 32) : fX1_in N S a (nI k) = some (if bt a k then 1 else 0, S) := by
  unfold fX1_in fX1_in_0
  by_cases h : bt a k = true
  · rw [if_pos ((zb_1 hk).mpr h)]; simp [h]
  · rw [if_neg (fun q => h ((zb_1 hk).mp q))]; simp [h]
section CB
variable {N b M s J : Nat} {S : zb_S}
abbrev zc_ok (b M s J : Nat) (S : zb_S) : Prop := zb_kd b = 1 ∧ zb_i S b 0 = nI M ∧ zb_i S b 1 = nI s ∧ zb_i S b 2 = nI (M + s) ∧ zb_i S b 3 = nI J
abbrev zc_lim (M s J : Nat) : Prop := 2 ≤ M ∧ M ≤ 8 ∧ s ≤ 4 ∧ 1 ≤ J ∧ J < M
theorem p_hasCarton {k : Nat} (hok : zc_ok b M s J S) (hk : k < 57) : fX1_hasCarton N b S (nI k) = some (if zb_a S (b + 1) k = 0 then 0 else 1, S) := by
  have hs := (zk_X1_4 hok.1).2.2
  unfold fX1_hasCarton fX1_hasCarton_0
  simp (disch := omega) only [zn_al, zn_in, zn_cl, hs, Nat.zero_add]
  rw [if_pos hk]
  by_cases h : zb_a S (b + 1) k = 0 <;> simp [h]
theorem p_seeing_step {n i : Nat} {m : Int32} (hok : zc_ok b M s J S) (hl : zc_lim M s J) (hi : i < M + s) : fX1_seeing_4 N b (n + 1) S m (nI i) = fX1_seeing_4 N b n S (if zf_see (zb_a S (b + 1)) i then m ||| ((1 : Int32) <<< (nI i &&& 31)) else m) (nI (i + 1)) := by
  have hs := (zk_X1_4 hok.1).2.2
  obtain ⟨l1, l2, l3, l4, l5⟩ := hl
  simp only [fX1_seeing_4, fX1_seeing_4b, fX1_seeing_39, fX1_seeing_45, zb_let, hok.2.2.2.1]
  rw [if_neg (by rw [zn_le (by omega) (by omega)]; omega)]
  simp (disch := omega) only [zn_al, zn_ar, zn_in, zn_cl, hs, p_hasCarton hok (show i < 57 by omega), zb_bind_some]
  rw [if_pos (by omega)]
  unfold zf_see
  by_cases h1 : zb_a S (b + 1) (12 + i) = 2
  · simp [h1]
  · by_cases h2 : zb_a S (b + 1) (12 + i) = 0
    · by_cases h3 : zb_a S (b + 1) i = 0 <;> simp [h2, h3]
    · simp [h1, h2]
theorem p_seeing_loop (hok : zc_ok b M s J S) (hl : zc_lim M s J) : ∀ (j n i : Nat) (m : Int32), i + j = M + s → j < n → ∃ m', fX1_seeing_4 N b n S m (nI i) = some (m', S) ∧ ∀ k, k < 32 → bt m' k = (bt m k || (decide (i ≤ k ∧ k < M + s) && zf_see (zb_a S (b + 1)) k)) := by
  intro j
  induction j with
  | zero =>
    intro n i m hi hn
    obtain ⟨n, rfl⟩ : ∃ q, n = q + 1 := ⟨n - 1, by omega⟩
    refine ⟨m, ?_, fun k hk => ?_⟩
    · simp only [fX1_seeing_4, fX1_seeing_4b, hok.2.2.2.1]
      rw [if_pos (by obtain ⟨l1, l2, l3, l4, l5⟩ := hl; rw [zn_le (by omega) (by omega)]; omega)]
    · have : ¬ (i ≤ k ∧ k < M + s) := by omega
      simp [this]
  | succ j ih =>
    intro n i m hi hn
    obtain ⟨n, rfl⟩ : ∃ q, n = q + 1 := ⟨n - 1, by omega⟩
    rw [p_seeing_step hok hl (by omega)]
    obtain ⟨m', e1, e2⟩ := ih n (i + 1) (if zf_see (zb_a S (b + 1)) i then m ||| ((1 : Int32) <<< (nI i &&& 31)) else m) (by omega) (by omega)
    refine ⟨m', e1, fun k hk => ?_⟩
    rw [e2 k hk]
    have hi32 : i < 32 := by obtain ⟨l1, l2, l3, l4, l5⟩ := hl; omega
    by_cases hk2 : k = i
    · subst hk2
      have a1 : ¬ (k + 1 ≤ k ∧ k < M + s) := by omega
      have a2 : (k ≤ k ∧ k < M + s) := by omega
      by_cases h : zf_see (zb_a S (b + 1)) k = true
      · simp [a2, h, b_or, zb_one hk hk]
      · simp [h]
    · have a1 : (i + 1 ≤ k ∧ k < M + s) ↔ (i ≤ k ∧ k < M + s) := by omega
      by_cases h : zf_see (zb_a S (b + 1)) i = true
      · simp [h, b_or, zb_one hi32 hk, hk2, a1]
      · simp [h, a1]
theorem p_seeing (hok : zc_ok b M s J S) (hl : zc_lim M s J) (hN : 20 ≤ N) : ∃ m', fX1_seeing N b S = some (m', S) ∧ ∀ k, k < 32 → bt m' k = (decide (k < M + s) && zf_see (zb_a S (b + 1)) k) := by
  obtain ⟨m', e1, e2⟩ := p_seeing_loop (N := N) hok hl (M + s) N 0 0 (by omega) (by obtain ⟨l1, l2, l3, l4, l5⟩ := hl; omega)
  exact ⟨m', e1, fun k hk => by rw [e2 k hk, b_0]; simp⟩
end CB
