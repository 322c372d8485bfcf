section WH
variable {M s J tl na nx ns N b r : Nat} {S T S' S'' : zb_S} {f f' g g' : Nat → Int32} {B : Nat → Nat} {V W : Nat → Int32}
def zs_all (P : Nat → Bool) : Nat → Nat → Bool
  | 0, _ => true
  | j + 1, i => P i && zs_all P j (i + 1)
theorem zs_all_iff {P : Nat → Bool} : ∀ (j i : Nat), zs_all P j i = true ↔ ∀ k, i ≤ k → k < i + j → P k = true := by
  intro j
  induction j with
  | zero => intro i; exact ⟨fun _ k h1 h2 => absurd h1 (by omega), fun _ => rfl⟩
  | succ j ih =>
    intro i
    simp only [zs_all, Bool.and_eq_true, ih]
    constructor
    · rintro ⟨h1, h2⟩ k k1 k2
      by_cases c : k = i
      · rw [c]; exact h1
      · exact h2 k (by omega) (by omega)
    · intro h
      exact ⟨h i (by omega) (by omega), fun k k1 k2 => h k (by omega) (by omega)⟩
theorem zm_loopS {F : Nat → zb_S → Int32 → Int32 → Option (Int32 × zb_S)} {p : Nat → Bool} {Z : Nat} {Inv : zb_S → Prop} (hZ : Z ≤ 31) (step : ∀ n i m S, i < Z → Inv S → ∃ S', Inv S' ∧ F (n + 1) S m (nI i) = F n S' (if p i then m ||| ((1 : Int32) <<< (nI i &&& 31)) else m) (nI (i + 1))) (stop : ∀ n m S, Inv S → F (n + 1) S m (nI Z) = some (m, S)) : ∀ n S, Z < n → Inv S → ∃ m S', F n S 0 (nI 0) = some (m, S') ∧ Inv S' ∧ ∀ k, k < 32 → bt m k = (decide (k < Z) && p k) := by
  have key : ∀ (j n i : Nat) (m : Int32) (S : zb_S), i + j = Z → j < n → Inv S → ∃ m' S', F n S m (nI i) = some (m', S') ∧ Inv S' ∧ ∀ k, k < 32 → bt m' k = (bt m k || (decide (i ≤ k ∧ k < Z) && p k)) := by
    intro j
    induction j with
    | zero =>
      intro n i m S hi hn hS
      obtain ⟨n, rfl⟩ : ∃ q, n = q + 1 := ⟨n - 1, by omega⟩
      have e : i = Z := by omega
      subst e
      refine ⟨m, S, stop n m S hS, hS, fun k hk => ?_⟩
      have : ¬ (i ≤ k ∧ k < i) := by omega
      simp [this]
    | succ j ih =>
      intro n i m S hi hn hS
      obtain ⟨n, rfl⟩ : ∃ q, n = q + 1 := ⟨n - 1, by omega⟩
      obtain ⟨S1, hS1, e0⟩ := step n i m S (by omega) hS
      rw [e0]
      obtain ⟨m', S2, e1, hS2, e2⟩ := ih n (i + 1) (if p i then m ||| ((1 : Int32) <<< (nI i &&& 31)) else m) S1 (by omega) (by omega) hS1
      refine ⟨m', S2, e1, hS2, fun k hk => ?_⟩
      rw [e2 k hk]
      by_cases hk2 : k = i
      · subst hk2
        have a1 : ¬ (k + 1 ≤ k ∧ k < Z) := by omega
        have a2 : (k ≤ k ∧ k < Z) := by omega
        by_cases h : p k = true
        · simp [a2, h, b_or, zb_one hk hk]
        · simp [h]
      · have a1 : (i + 1 ≤ k ∧ k < Z) ↔ (i ≤ k ∧ k < Z) := by omega
        by_cases h : p i = true
        · simp [h, b_or, zb_one (show i < 32 by omega) hk, hk2, a1]
        · simp [h, a1]
  intro n S hn hS
  obtain ⟨m, S', e1, e3, e2⟩ := key Z n 0 0 S (by omega) hn hS
  exact ⟨m, S', e1, e3, fun k hk => by rw [e2 k hk, b_0]; simp⟩
/-- what was seen, as the class has it, and as the reference -/
def zw_c (ns : Nat) (B : Nat → Nat) (V W : Nat → Int32) (S : zb_S) : Prop := zb_i S 14 3 = nI ns ∧ ∀ k, k < ns → zb_a S 15 k = nI (B k) ∧ zb_a S 16 k = V k ∧ zb_a S 17 k = W k
def zw_m (ns : Nat) (B : Nat → Nat) (V W : Nat → Int32) (S : zb_S) : Prop := zb_i S 21 17 = nI ns ∧ ∀ k, k < ns → zb_a S 29 k = nI (B k) ∧ zb_a S 30 k = V k ∧ zb_a S 31 k = W k
theorem zw_c.q (h : zw_c ns B V W S) (hq : zq S S') : zw_c ns B V W S' := by
  unfold zw_c
  rw [hq.1 14 3 (by omega) (by omega), hq.2.1 15 (by omega) (by omega) (by omega) (by omega) (by omega) (by omega), hq.2.1 16 (by omega) (by omega) (by omega) (by omega) (by omega) (by omega), hq.2.1 17 (by omega) (by omega) (by omega) (by omega) (by omega) (by omega)]
  exact h
theorem zw_m.q (h : zw_m ns B V W S) (hq : zq S S') : zw_m ns B V W S' := by
  unfold zw_m
  rw [hq.1 21 17 (by omega) (by omega), hq.2.1 29 (by omega) (by omega) (by omega) (by omega) (by omega) (by omega), hq.2.1 30 (by omega) (by omega) (by omega) (by omega) (by omega) (by omega), hq.2.1 31 (by omega) (by omega) (by omega) (by omega) (by omega) (by omega)]
  exact h
def zw_so (V W : Nat → Int32) (o : Int32) (k : Nat) : Bool := decide ((if o = V k then (1 : Int32) else 0) = W k)
theorem p_soB {t : Nat} {o : Int32} (hN : 5000 ≤ N) (hns : ns ≤ 6) (hB : ∀ k, k < ns → B k ≤ 30) (ht : t < 100) (hz : zw_c ns B V W S) : ∃ v, fX2_soBehind N S (nI t) o = some (v, S) ∧ (v = 0 ∨ v = 1) ∧ (v = 1 ↔ ∀ k, k < ns → B k = t → zw_so V W o k = true) := by
  obtain ⟨z1, z2⟩ := hz
  have loop : ∀ (j n i : Nat), i + j = ns → j < n → ∃ v, fX2_soBehind_2 N n S (nI t) o (nI i) = some (v, S) ∧ (v = 0 ∨ v = 1) ∧ (v = 1 ↔ ∀ k, i ≤ k → k < ns → B k = t → zw_so V W o k = true) := by
    intro j
    induction j with
    | zero =>
      intro n i hi hn
      obtain ⟨n, rfl⟩ : ∃ q, n = q + 1 := ⟨n - 1, by omega⟩
      refine ⟨1, ?_, Or.inr rfl, ⟨fun _ k h1 h2 => absurd h1 (by omega), fun _ => rfl⟩⟩
      simp only [fX2_soBehind_2, fX2_soBehind_2b, z1]
      rw [if_pos (by rw [zn_le (by omega) (by omega)]; omega)]
      rfl
    | succ j ih =>
      intro n i hi hn
      obtain ⟨n, rfl⟩ : ∃ q, n = q + 1 := ⟨n - 1, by omega⟩
      obtain ⟨v, x1, x2, x3⟩ := ih n (i + 1) (by omega) (by omega)
      obtain ⟨y1, y2, y3⟩ := z2 i (by omega)
      have hb := hB i (by omega)
      have in15 : zb_in (nI i) (zb_sz 15) := (zn_in (by omega)).mpr (show i < 6 by omega)
      have in16 : zb_in (nI i) (zb_sz 16) := (zn_in (by omega)).mpr (show i < 6 by omega)
      have in17 : zb_in (nI i) (zb_sz 17) := (zn_in (by omega)).mpr (show i < 6 by omega)
      have ci : Int32.toNatClampNeg (nI i) = i := zn_cl (by omega)
      simp only [fX2_soBehind_2, fX2_soBehind_2b, z1, if_pos in15, if_pos in16, fX2_soBehind_35, if_pos in17, fX2_soBehind_46, zb_let, ci, y1, y2, y3]
      rw [if_neg (by rw [zn_le (by omega) (by omega)]; omega), show nI i + 1 = nI (i + 1) from nI_1 i]
      by_cases c : B i = t
      · rw [if_pos (by rw [c])]
        by_cases d : zw_so V W o i = true
        · refine ⟨v, ?_, x2, x3.trans ⟨fun h k k1 k2 k3 => ?_, fun h k k1 k2 k3 => h k (by omega) k2 k3⟩⟩
          · unfold zw_so at d
            have d2 := of_decide_eq_true d
            by_cases e : V i = o
            · rw [if_pos e.symm] at d2; rw [if_pos e, if_pos d2]; exact x1
            · rw [if_neg (fun p => e p.symm)] at d2; rw [if_neg e, if_pos d2]; exact x1
          · by_cases q : k = i
            · rw [q]; exact d
            · exact h k (by omega) k2 k3
        · refine ⟨0, ?_, Or.inl rfl, ⟨fun h => absurd h (by decide), fun h => absurd (h i (by omega) (by omega) c) d⟩⟩
          unfold zw_so at d
          have d2 : ¬ _ := fun p => d (decide_eq_true p)
          by_cases e : V i = o
          · rw [if_pos e.symm] at d2; rw [if_pos e, if_neg d2]; rfl
          · rw [if_neg (fun p => e p.symm)] at d2; rw [if_neg e, if_neg d2]; rfl
      · rw [if_neg (by rw [zn_eq (by omega) (by omega)]; exact c)]
        refine ⟨v, x1, x2, x3.trans ⟨fun h k k1 k2 k3 => ?_, fun h k k1 k2 k3 => h k (by omega) k2 k3⟩⟩
        by_cases q : k = i
        · exact absurd (by rw [← q]; exact k3) c
        · exact h k (by omega) k2 k3
  obtain ⟨v, x1, x2, x3⟩ := loop ns N 0 (by omega) (by omega)
  exact ⟨v, x1, x2, x3.trans ⟨fun h k k2 => h k (by omega) k2, fun h k _ k2 => h k k2⟩⟩
theorem zn_m1lt {L c : Nat} (hL : L < 1000) (hc : c < 1000) : nI L - 1 < nI c ↔ L < c + 1 := by
  rcases Nat.eq_zero_or_pos L with e | e
  · subst e
    rw [zn_neg1']
    exact ⟨fun _ => by omega, fun _ => by rw [Int32.lt_iff_toInt_lt, show (nI c).toInt = (c : Int) from nI_toInt (by omega)]; rw [show (-1 : Int32).toInt = -1 from by decide]; omega⟩
  · rw [zn_sub1 e, zn_lt (by omega) (by omega)]; omega
theorem p_late (hN : 5000 ≤ N) (hns : ns ≤ 6) (hB : ∀ k, k < ns → B k ≤ 30) (hz : zw_c ns B V W S) : ∃ L, L ≤ 31 ∧ fX2_latest N S = some (nI L - 1, S) ∧ ∀ k, k < ns → B k < L := by
  obtain ⟨z1, z2⟩ := hz
  have loop : ∀ (j n i L : Nat), i + j = ns → j < n → L ≤ 31 → (∀ k, k < i → B k < L) → ∃ L', L' ≤ 31 ∧ fX2_latest_4 N n S (nI L - 1) (nI i) = some (nI L' - 1, S) ∧ ∀ k, k < ns → B k < L' := by
    intro j
    induction j with
    | zero =>
      intro n i L hi hn hL hk
      obtain ⟨n, rfl⟩ : ∃ q, n = q + 1 := ⟨n - 1, by omega⟩
      refine ⟨L, hL, ?_, fun k q => hk k (by omega)⟩
      simp only [fX2_latest_4, fX2_latest_4b, z1]
      rw [if_pos (by rw [zn_le (by omega) (by omega)]; omega)]
    | succ j ih =>
      intro n i L hi hn hL hk
      obtain ⟨n, rfl⟩ : ∃ q, n = q + 1 := ⟨n - 1, by omega⟩
      have hb := hB i (by omega)
      simp only [fX2_latest_4, fX2_latest_4b, z1, zb_let]
      rw [if_neg (by rw [zn_le (by omega) (by omega)]; omega), if_pos (show zb_in (nI i) (zb_sz 15) from (zn_in (by omega)).mpr (show i < 6 by omega)), show Int32.toNatClampNeg (nI i) = i from zn_cl (by omega), (z2 i (by omega)).1, show nI i + 1 = nI (i + 1) from nI_1 i]
      by_cases c : L < B i + 1
      · rw [if_pos ((zn_m1lt (by omega) (by omega)).mpr c), ← zn_s1 (B i)]
        exact ih n (i + 1) (B i + 1) (by omega) (by omega) (by omega) (fun k q => by
          by_cases e : k = i
          · rw [e]; omega
          · have := hk k (by omega); omega)
      · rw [if_neg (fun h => c ((zn_m1lt (by omega) (by omega)).mp h))]
        exact ih n (i + 1) L (by omega) (by omega) hL (fun k q => by
          by_cases e : k = i
          · rw [e]; omega
          · exact hk k (by omega))
  have := loop ns N 0 0 (by omega) (by omega) (by omega) (fun k q => absurd q (by omega))
  rw [zn_neg1'] at this
  exact this
theorem p_allSo (hl : zc_lim M s J) (hN : 5000 ≤ N) (hns : ns ≤ 6) (hB : ∀ k, k < ns → B k ≤ 30) (hok : zc_ok 5 M s J S) (hr : zr_Rel (M + s) (zb_a S 6) g) (hz : zw_c ns B V W S) : ∃ v w f, fX2_allSo N 5 S = some (v, zc_t S w f) ∧ (v = 0 ∨ v = 1) ∧ (v = 1 ↔ ∀ k, k < ns → zw_so V W (zs_steps M s J (B k) g 77) k = true) := by
  obtain ⟨L, hL, e1, e2⟩ := p_late (N := N) hN hns hB hz
  have loop : ∀ (j n t : Nat) (S : zb_S) (g : Nat → Int32), t + j = L → j < n → zc_ok 5 M s J S → zr_Rel (M + s) (zb_a S 6) g → zw_c ns B V W S → ∃ v w f, fX2_allSo_7 N 5 n S (nI L - 1) (nI t) = some (v, zc_t S w f) ∧ (v = 0 ∨ v = 1) ∧ (v = 1 ↔ ∀ k, k < ns → t ≤ B k → zw_so V W (zs_steps M s J (B k - t) g 77) k = true) := by
    intro j
    induction j with
    | zero =>
      intro n t S g hi hn hok hr hz
      obtain ⟨n, rfl⟩ : ∃ q, n = q + 1 := ⟨n - 1, by omega⟩
      refine ⟨1, zb_i S 5 5, zb_a S 6, ?_, Or.inr rfl, ⟨fun _ k k1 k2 => absurd (e2 k k1) (by omega), fun _ => rfl⟩⟩
      simp only [fX2_allSo_7, fX2_allSo_7b]
      rw [if_pos ((zn_m1lt (by omega) (by omega)).mpr (by omega)), zc_t_id]
      rfl
    | succ j ih =>
      intro n t S g hi hn hok hr hz
      obtain ⟨n, rfl⟩ : ∃ q, n = q + 1 := ⟨n - 1, by omega⟩
      obtain ⟨v, x1, x2, x3⟩ := p_soB (N := N) (t := t) (o := g 77) hN hns hB (by omega) hz
      simp only [fX2_allSo_7, fX2_allSo_7b]
      rw [if_neg (fun h => absurd ((zn_m1lt (by omega) (by omega)).mp h) (by omega)), if_pos (show zb_in 55 (zb_sz (5 + 1)) by decide), show Int32.toNatClampNeg 55 = 55 from by decide, show zb_a S (5 + 1) 55 = g 77 from hr.2.2.2 5 (by omega), x1]
      simp only [zb_bind_some]
      rcases x2 with x2 | x2
      · rw [if_pos x2]
        refine ⟨0, zb_i S 5 5, zb_a S 6, by rw [zc_t_id]; rfl, Or.inl rfl, ⟨fun h => absurd h (by decide), fun h => ?_⟩⟩
        refine absurd (x3.mpr (fun k k1 k2 => ?_)) (by rw [x2]; decide)
        have := h k k1 (by omega)
        rw [show B k - t = 0 by omega] at this
        exact this
      · rw [if_neg (by rw [x2]; decide)]
        obtain ⟨w, f, y1, y2⟩ := p_adv1 (N := N) hok hl hN hr
        rw [y1]
        simp only [zb_bind_some, zb_let]
        obtain ⟨v2, w2, f2, u1, u2, u3⟩ := ih n (t + 1) (zc_t S w f) (zs_step M s J g).1 (by omega) (by omega) (zc_t_ok hok) (by rw [zc_t_6]; exact y2) (hz.q zc_t_zt.1)
        refine ⟨v2, w2, f2, ?_, u2, u3.trans ⟨fun h k k1 k2 => ?_, fun h k k1 k2 => ?_⟩⟩
        · rw [zc_t_t] at u1
          rw [show nI t + 1 = nI (t + 1) from nI_1 t]
          exact u1
        · by_cases q : B k = t
          · rw [show B k - t = 0 by omega]
            exact x3.mp x2 k k1 q
          · have := h k k1 (by omega)
            rw [show B k - t = (B k - (t + 1)) + 1 by omega]
            exact this
        · have := h k k1 (by omega)
          rw [show B k - t = (B k - (t + 1)) + 1 by omega] at this
          exact this
  obtain ⟨v, w, f, x1, x2, x3⟩ := loop L N 0 S g (by omega) (by omega) hok hr hz
  refine ⟨v, w, f, ?_, x2, x3.trans ⟨fun h k k1 => h k k1 (by omega), fun h k k1 _ => h k k1⟩⟩
  simp only [fX2_allSo, fX2_allSo_0, e1, zb_bind_some]
  exact x1
theorem m_isSo {z k : Nat} (hP : zi_P M s J tl na nx ns S) (hN : 5000 ≤ N) (hq : zt S S') (hB : ∀ k, k < ns → B k ≤ 30) (hz : zw_m ns B V W S) (hW : ∀ k, k < ns → W k = 0 ∨ W k = 1) (hk : k < ns) (hz2 : z < M + s) : ∃ S1, fX6_isSo N S' (nI z) (nI k) = some (if zw_so V W (zs_steps M s J (B k) (upd (zt_g S) (6 * z + 1) 1) 77) k = true then 1 else 0, S1) ∧ zt S S1 := by
  obtain ⟨hl, hc, hn, ht, ha, hkk, hs, ho⟩ := id hP
  obtain ⟨l1, l2, l3, l4, l5⟩ := id hl
  have hns := hs.1
  have hw := (hn.rel hl).2
  obtain ⟨S3, u1, u2, u3, u4⟩ := m_tlay (N := N) hP hN hq.1
  have t3 : zt S3 (zs_a S3 25 (upd (zt_g S) (6 * z + 1) 1)) := zt_a25 (fun i hi => by rw [upd_n (by omega), u4])
  obtain ⟨S4, v1, v2, v3, v4⟩ := m_tsteps (N := N) (k := B k) (S := zs_a S3 25 (upd (zt_g S) (6 * z + 1) 1)) (M := M) (s := s) (J := J) u3 hl hN (by have := hB k hk; omega) (zs_same _ _ _) (zr_wf_upd hw (by omega) (by omega) (fun _ => Or.inr (Or.inl rfl)) (by omega) (by omega) (by omega))
  have t4 : zt S S4 := ((hq.tr u2).tr t3).tr v2
  have z4 := hz.q t4.1
  have z3 := hz.q ((hq.tr u2).tr t3).1
  refine ⟨S4, ?_, t4⟩
  have ck : Int32.toNatClampNeg (nI k) = k := zn_cl (by omega)
  have i29 : zb_in (nI k) (zb_sz 29) := (zn_in (by omega)).mpr (show k < 6 by omega)
  have i30 : zb_in (nI k) (zb_sz 30) := (zn_in (by omega)).mpr (show k < 6 by omega)
  have i31 : zb_in (nI k) (zb_sz 31) := (zn_in (by omega)).mpr (show k < 6 by omega)
  have c1 : Int32.toNatClampNeg (nI (6 * z + 1)) = 6 * z + 1 := zn_cl (by omega)
  have i1 : zb_in (nI (6 * z + 1)) (zb_sz 25) := (zn_in (by omega)).mpr (show 6 * z + 1 < 79 by omega)
  simp only [fX6_isSo, fX6_isSo_0, u1, zb_bind_some, zn_ml, zn_ar, if_pos i1, c1, zb_let, if_pos i29, if_pos i30, ck, zs_pa, u4]
  rw [(z3.2 k hk).1, v1]
  simp only [zb_bind_some, fX6_isSo_51, fX6_isSo_66, if_pos i31, ck, (z4.2 k hk).2.1, (z4.2 k hk).2.2, v4]
  rw [if_pos (show zb_in 77 (zb_sz 25) by decide), show Int32.toNatClampNeg 77 = 77 from by decide]
  unfold zw_so
  generalize zs_steps M s J (B k) (upd (zt_g S) (6 * z + 1) 1) 77 = o
  by_cases c : o = V k
  · rw [if_pos c]
    rcases hW k hk with e | e <;> simp [e, c]
  · rw [if_neg c]
    rcases hW k hk with e | e <;> simp [e, c]
def zw_p (M s J ns : Nat) (B : Nat → Nat) (V W : Nat → Int32) (S : zb_S) (z : Nat) : Bool := decide (zb_a S 24 (6 * z + 1) = 0) && zs_all (fun k => zw_so V W (zs_steps M s J (B k) (upd (zt_g S) (6 * z + 1) 1) 77) k) ns 0
def fx5_w (N : Nat) : Nat → zb_S → Int32 → Int32 → Option (Int32 × zb_S) := fX5_which_4 N
def fx6_w (N : Nat) : Nat → zb_S → Int32 → Int32 → Option (Int32 × zb_S) := fX6_which_9 N
theorem e_which (hN : 5000 ≤ N) (h : zi_I S) : zi_E (fun S => fX5_which N S) (fun S => fX6_which N S) S := by
  obtain ⟨M, s, J, tl, na, nx, ns, hP⟩ := h
  obtain ⟨hl, hc, hn, ht, ha, hk, hs, ho⟩ := id hP
  obtain ⟨l1, l2, l3, l4, l5⟩ := id hl
  obtain ⟨hns, s1, s2, s3⟩ := id hs
  have hw := (hn.rel hl).2
  generalize hBB : (fun k => (zb_a S 29 k).toNatClampNeg) = B
  have hBe : ∀ k, k < ns → zb_a S 29 k = nI (B k) ∧ B k ≤ 30 := by
    intro k hk
    obtain ⟨-, -, -, ⟨c, c1, c2⟩, -⟩ := s3 k hk
    rw [← hBB]
    show zb_a S 29 k = nI (zb_a S 29 k).toNatClampNeg ∧ (zb_a S 29 k).toNatClampNeg ≤ 30
    rw [c2, zn_cl (by omega)]
    exact ⟨rfl, c1⟩
  have hB : ∀ k, k < ns → B k ≤ 30 := fun k hk => (hBe k hk).2
  have zc : zw_c ns B (zb_a S 30) (zb_a S 31) S := ⟨s1, fun k hk => ⟨(s3 k hk).1.trans (hBe k hk).1, (s3 k hk).2.1, (s3 k hk).2.2.1⟩⟩
  have zm : zw_m ns B (zb_a S 30) (zb_a S 31) S := ⟨s2, fun k hk => ⟨(hBe k hk).1, rfl, rfl⟩⟩
  have hW : ∀ k, k < ns → zb_a S 31 k = 0 ∨ zb_a S 31 k = 1 := fun k hk => (s3 k hk).2.2.2.2
  generalize hV : zb_a S 30 = V at zc zm
  generalize hWW : zb_a S 31 = W at zc zm hW
  obtain ⟨m, S1, x1, x2, x3⟩ := zm_loopS (F := fx5_w N) (p := zw_p M s J ns B V W S) (Z := M + s) (Inv := zt S) (by omega) (by
    intro n i m S' hi hq
    have e3 : zb_i S' 3 2 = nI (M + s) := (hc.c hq.1).2.2.2.1
    have c12 : Int32.toNatClampNeg (nI (12 + i)) = 12 + i := zn_cl (by omega)
    have i4 : zb_in (nI (12 + i)) (zb_sz 4) := (zn_in (by omega)).mpr (show 12 + i < 57 by omega)
    have i6 : zb_in (nI (12 + i)) (zb_sz 6) := (zn_in (by omega)).mpr (show 12 + i < 57 by omega)
    have e4 : zb_a S' 4 (12 + i) = zb_a S 24 (6 * i + 1) := by
      rw [hq.1.2.1 4 (by omega) (by omega) (by omega) (by omega) (by omega) (by omega)]; exact (hn.1.1 i hi).2.1
    have st : (if zw_p M s J ns B V W S i = true then m ||| ((1 : Int32) <<< (nI i &&& 31)) else m) = (if zw_p M s J ns B V W S i then m ||| ((1 : Int32) <<< (nI i &&& 31)) else m) := rfl
    by_cases c : zb_a S 24 (6 * i + 1) = 0
    · obtain ⟨S2, y1, y2, y3, y4⟩ := p_tcopy (N := N) hP hq.1
      have hr2 : zr_Rel (M + s) (zb_a (zs_a S2 6 (upd (zb_a S2 6) (12 + i) 1)) 6) (upd (zt_g S) (6 * i + 1) 1) := by
        rw [zs_same]; exact zr_e y4 (by omega) hi
      obtain ⟨v, w, f, u1, u2, u3⟩ := p_allSo (N := N) (S := zs_a S2 6 (upd (zb_a S2 6) (12 + i) 1)) (M := M) (s := s) (J := J) hl hN hns hB y3 hr2 (zc.q ((hq.tr y2).tr zt_a6).1)
      refine ⟨_, ((hq.tr y2).tr zt_a6).tr (zc_t_zt (S := zs_a S2 6 (upd (zb_a S2 6) (12 + i) 1)) (w := w) (f := f)), ?_⟩
      simp only [fx5_w, fX5_which_4, fX5_which_4b, e3, zn_al, if_pos i4, if_pos i6, c12, e4, c, y1, zb_bind_some, zb_let, zs_pa, u1, fX5_which_74]
      rw [if_neg (by rw [zn_le (by omega) (by omega)]; omega), if_true, show nI i + 1 = nI (i + 1) from nI_1 i]
      have hp : zw_p M s J ns B V W S i = true ↔ v = 1 := by
        unfold zw_p
        rw [u3, Bool.and_eq_true, zs_all_iff]
        exact ⟨fun h k k1 => h.2 k (by omega) (by omega), fun h => ⟨decide_eq_true c, fun k _ k1 => h k (by omega)⟩⟩
      rcases u2 with u2 | u2
      · rw [if_pos u2, if_neg (fun q => by rw [hp.mp q] at u2; exact absurd u2 (by decide))]
      · rw [if_neg (by rw [u2]; decide), if_pos (hp.mpr u2)]
    · refine ⟨S', hq, ?_⟩
      simp only [fx5_w, fX5_which_4, fX5_which_4b, e3, zn_al, if_pos i4, c12, e4, c, zb_let, fX5_which_74]
      rw [if_neg (by rw [zn_le (by omega) (by omega)]; omega), if_false, show nI i + 1 = nI (i + 1) from nI_1 i, if_neg (by unfold zw_p; simp [c])]) (by
    intro n m S' hq
    have e3 : zb_i S' 3 2 = nI (M + s) := (hc.c hq.1).2.2.2.1
    simp only [fx5_w, fX5_which_4, fX5_which_4b, e3]
    rw [if_pos (Int32.le_refl _)]) N S (by omega) zt.rf
  obtain ⟨m2, S2, y1, y2, y3⟩ := zm_loopS (F := fx6_w N) (p := zw_p M s J ns B V W S) (Z := M + s) (Inv := zt S) (by omega) (by
    intro n i m S' hi hq
    have hm := hc.m hq.1
    have c1 : Int32.toNatClampNeg (nI (6 * i + 1)) = 6 * i + 1 := zn_cl (by omega)
    have i1 : zb_in (nI (6 * i + 1)) (zb_sz 24) := (zn_in (by omega)).mpr (show 6 * i + 1 < 79 by omega)
    have e4 : zb_a S' 24 = zb_a S 24 := hq.1.2.1 24 (by omega) (by omega) (by omega) (by omega) (by omega) (by omega)
    have inner : ∀ (j n2 k : Nat) (l3 : Int32) (S' : zb_S), k + j = ns → j < n2 → zt S S' → (l3 = 0 ∨ l3 = 1) → ∃ S1, zt S S1 ∧ fX6_which_40 N (fX6_which_9 N n) n2 S' m (nI i) l3 (nI k) = fX6_which_9 N n S1 (if (decide (l3 = 1) && zs_all (fun k => zw_so V W (zs_steps M s J (B k) (upd (zt_g S) (6 * i + 1) 1) 77) k) j k) = true then m ||| ((1 : Int32) <<< (nI i &&& 31)) else m) (nI (i + 1)) := by
      intro j
      induction j with
      | zero =>
        intro n2 k l3 S' hk hn2 hq h3
        obtain ⟨n2, rfl⟩ : ∃ q, n2 = q + 1 := ⟨n2 - 1, by omega⟩
        refine ⟨S', hq, ?_⟩
        simp only [fX6_which_40, fX6_which_40b, (zm.q hq.1).1, fX6_which_87, zb_let, zs_all]
        rw [if_pos (by rw [zn_le (by omega) (by omega)]; omega), show nI i + 1 = nI (i + 1) from nI_1 i]
        rcases h3 with h3 | h3
        · rw [if_pos h3, h3, Int32.or_zero]; rfl
        · rw [if_neg (by rw [h3]; decide), h3]; rfl
      | succ j ih =>
        intro n2 k l3 S' hk hn2 hq h3
        obtain ⟨n2, rfl⟩ : ∃ q, n2 = q + 1 := ⟨n2 - 1, by omega⟩
        simp only [fX6_which_40, fX6_which_40b, (zm.q hq.1).1, fX6_which_67, fX6_which_68, zb_let, zs_all]
        rw [if_neg (by rw [zn_le (by omega) (by omega)]; omega), show nI k + 1 = nI (k + 1) from nI_1 k]
        rcases h3 with h3 | h3
        · rw [if_pos h3]
          obtain ⟨S1, q1, q2⟩ := ih n2 (k + 1) 0 S' (by omega) (by omega) hq (Or.inl rfl)
          refine ⟨S1, q1, ?_⟩
          rw [q2, h3]; rfl
        · rw [if_neg (by rw [h3]; decide)]
          obtain ⟨S3, w1, w2⟩ := m_isSo (N := N) (z := i) (k := k) hP hN hq hB zm hW (by omega) hi
          rw [w1]
          simp only [zb_bind_some]
          by_cases c : zw_so V W (zs_steps M s J (B k) (upd (zt_g S) (6 * i + 1) 1) 77) k = true
          · rw [if_pos c, if_neg (by decide)]
            obtain ⟨S1, q1, q2⟩ := ih n2 (k + 1) 1 S3 (by omega) (by omega) w2 (Or.inr rfl)
            refine ⟨S1, q1, ?_⟩
            rw [q2, h3]
            simp [c]
          · rw [if_neg c, if_pos rfl]
            obtain ⟨S1, q1, q2⟩ := ih n2 (k + 1) 0 S3 (by omega) (by omega) w2 (Or.inl rfl)
            refine ⟨S1, q1, ?_⟩
            rw [q2, h3]
            simp [c]
    simp only [fx6_w, fX6_which_9, fX6_which_9b, m_zones hm, zb_bind_some, zn_ml, zn_ar, if_pos i1, c1, e4, fX6_which_36]
    rw [if_neg (by rw [zn_le (by omega) (by omega)]; omega)]
    by_cases c : zb_a S 24 (6 * i + 1) = 0
    · rw [if_pos c]
      obtain ⟨S1, q1, q2⟩ := inner ns N 0 1 S' (by omega) (by omega) hq (Or.inr rfl)
      refine ⟨S1, q1, ?_⟩
      rw [show (0 : Int32) = nI 0 from rfl, q2]
      unfold zw_p
      simp [c]
    · rw [if_neg c]
      obtain ⟨S1, q1, q2⟩ := inner ns N 0 0 S' (by omega) (by omega) hq (Or.inl rfl)
      refine ⟨S1, q1, ?_⟩
      rw [show fX6_which_40 N (fX6_which_9 N n) N S' m (nI i) 0 0 = fX6_which_40 N (fX6_which_9 N n) N S' m (nI i) 0 (nI 0) from rfl, q2]
      unfold zw_p
      simp [c]) (by
    intro n m S' hq
    simp only [fx6_w, fX6_which_9, fX6_which_9b, m_zones (hc.m hq.1), zb_bind_some]
    rw [if_pos (Int32.le_refl _)]) N (zb_pi S1 21 0 0) (by omega) (x2.tr zt_thr)
  have em : m2 = m := b_ext (fun k hk => by rw [y3 k hk, x3 k hk])
  exact ⟨m, S1, S2, x1, by rw [← em]; exact y1, (hP.t y2).I⟩
end WH
