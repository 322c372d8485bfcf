def zm_mayv (M s J : Nat) (w sl se go : Int32) (op tr : Bool) (z : Nat) : Bool := bt w z && (if z = M - 1 then op else (!bt sl (zs_bh M s J z) && (!bt se (zs_bh M s J z) || (tr && bt go (zs_bh M s J z)))))
def zm_mayg (M s J : Nat) (w sl : Int32) (z : Nat) (g : Nat → Int32) : Nat → Int32 := if (bt w z && !decide (z = M - 1) && bt sl (zs_bh M s J z)) = true then upd g (6 * zs_bh M s J z + 3) 0 else g
section MG
variable {N r M s J : Nat} {S : zb_S} {se wi go sl we v : Int32} {g gt : Nat → Int32}
theorem m_may2 {z : Nat} (hok : zm_ok r M s J S) (hl : zc_lim M s J) (hz : z < M + s) : fX6_may N r (zm_st S r se wi go sl we g) (nI z) = some (if zm_mayv M s J wi sl se go (decide (g 72 = 1)) (decide (g 73 = 1)) z = true then 1 else 0, zm_st S r se wi go sl we (zm_mayg M s J wi sl z g)) := m_may hok hl hz
/-- a turn of the main line, one zone alone -/
theorem m_lay1 {n z : Nat} {o : Int32} (hok : zm_ok r M s J S) (hl : zc_lim M s J) (hz : z < M) (hc : z ≠ J - 1 ∨ s = 0) : fX6_layGoes_19 N r (n + 1) (zm_st S r se wi go sl we g) o (nI (z + 1) - 1) = fX6_layGoes_19 N r n (zm_st S r se wi (go ||| (if zm_mayv M s J wi sl se go (decide (g 72 = 1)) (decide (g 73 = 1)) z = true then (1 : Int32) <<< (nI z &&& 31) else 0)) sl we (zm_mayg M s J wi sl z g)) o (nI z - 1) := by
  obtain ⟨l1, l2, l3, l4, l5⟩ := id hl
  simp only [fX6_layGoes_19, fX6_layGoes_19b, zn_s1]
  rw [if_neg (by rw [zn_lt0 (by omega)]; exact fun h => h), m_may2 hok hl (by omega)]
  simp only [zb_bind_some, (zm_okst hok).2.2.1, (zm_okst hok).2.2.2]
  rw [zn_sub1 (by omega)]
  have key : ∀ c : Bool, fX6_layGoes_152 N r (fX6_layGoes_19 N r n) (zm_st S r se wi go sl we (zm_mayg M s J wi sl z g)) o (nI z) (if c = true then 1 else 0) = fX6_layGoes_19 N r n (zm_st S r se wi (go ||| (if c = true then (1 : Int32) <<< (nI z &&& 31) else 0)) sl we (zm_mayg M s J wi sl z g)) o (nI z - 1) := by
    intro c
    unfold fX6_layGoes_152 fX6_layGoes_169
    simp only [zb_let, mz_i24, mz_24, zn_am1]
    cases c <;> simp
  rw [key]
  by_cases h : z = J - 1
  · rw [if_pos (by rw [h]), if_pos (by rw [zn_le0 (by omega)]; omega)]
  · rw [if_neg (by rw [zn_eq (by omega) (by omega)]; exact h)]
/-- the turn where the lines meet -/
theorem m_lay2 {n : Nat} (hok : zm_ok r M s J S) (hl : zc_lim M s J) (hs : 0 < s) : ∃ g1 g2 is its, g1 = zm_mayg M s J wi sl (J - 1) g ∧ g2 = zm_mayg M s J wi sl (M + s - 1) g1 ∧ is = zm_mayv M s J wi sl se go (decide (g 72 = 1)) (decide (g 73 = 1)) (J - 1) ∧ its = zm_mayv M s J wi sl se go (decide (g1 72 = 1)) (decide (g1 73 = 1)) (M + s - 1) ∧ fX6_layGoes_19 N r (n + 1) (zm_st S r se wi go sl we g) (nI (M + s - 1)) (nI (J - 1 + 1) - 1) = fX6_layGoes_19 N r n (zm_st S r se wi ((go ||| (if (its && (!is || !zs_first M s J g2)) = true then (1 : Int32) <<< (nI (M + s - 1) &&& 31) else 0)) ||| (if (is && (!its || zs_first M s J g2)) = true then (1 : Int32) <<< (nI (J - 1) &&& 31) else 0)) sl we g2) (nI (M + s - 1)) (nI (J - 1) - 1) := by
  refine ⟨_, _, _, _, rfl, rfl, rfl, rfl, ?_⟩
  obtain ⟨l1, l2, l3, l4, l5⟩ := id hl
  generalize hg1 : zm_mayg M s J wi sl (J - 1) g = g1
  generalize his : zm_mayv M s J wi sl se go (decide (g 72 = 1)) (decide (g 73 = 1)) (J - 1) = is
  generalize hg2 : zm_mayg M s J wi sl (M + s - 1) g1 = g2
  generalize hit : zm_mayv M s J wi sl se go (decide (g1 72 = 1)) (decide (g1 73 = 1)) (M + s - 1) = its
  simp only [fX6_layGoes_19, fX6_layGoes_19b, zn_s1]
  rw [if_neg (by rw [zn_lt0 (by omega)]; exact fun h => h), m_may2 hok hl (by omega), hg1, his]
  simp only [zb_bind_some, (zm_okst hok).2.2.1, (zm_okst hok).2.2.2]
  rw [zn_sub1 (by omega), if_pos rfl, if_neg (by rw [zn_le0 (by omega)]; omega), m_may2 hok hl (by omega), hg2, hit]
  simp only [zb_bind_some]
  have cz : Int32.toNatClampNeg (nI (6 * (J - 1) + 5)) = 6 * (J - 1) + 5 := zn_cl (by omega)
  have iz : zb_in (nI (6 * (J - 1) + 5)) 79 := (zn_in (by omega)).mpr (by omega)
  have co : Int32.toNatClampNeg (nI (6 * (M + s - 1) + 5)) = 6 * (M + s - 1) + 5 := zn_cl (by omega)
  have io : zb_in (nI (6 * (M + s - 1) + 5)) 79 := (zn_in (by omega)).mpr (by omega)
  have hfst : (g2 (6 * (M + s - 1) + 5) ≤ g2 (6 * (J - 1) + 5)) ↔ zs_first M s J g2 = false := by
    unfold zs_first; rw [decide_eq_false_iff_not, Int32.not_lt]
  simp only [fX6_layGoes_70, fX6_layGoes_71, fX6_layGoes_97, fX6_layGoes_119, fX6_layGoes_125, fX6_layGoes_126, fX6_layGoes_145, fX6_layGoes_149, fX6_layGoes_150, fX6_layGoes_152, fX6_layGoes_169, zb_let, mz_i24, mz_24, zn_am1, zn_ml, zn_ar, hok.1, cz, co, mz_a, if_pos iz, if_pos io, hfst]
  generalize zs_first M s J g2 = fs
  cases is <;> cases its <;> cases fs <;> simp
/-- the rows that may() changes: only 'asleep', to 0 -/
def zm_I (M s J : Nat) (w slp : Nat → Bool) (P : Nat → Prop) (gt g : Nat → Int32) : Prop := (∀ z, z < M + s → P z → z ≠ M - 1 → w z = true → slp (zs_bh M s J z) = true → g (6 * zs_bh M s J z + 3) = 0) ∧ ∀ q, (∀ z, z < M + s → z ≠ M - 1 → w z = true → slp (zs_bh M s J z) = true → q ≠ 6 * zs_bh M s J z + 3) → g q = gt q
theorem zm_I_n {w slp : Nat → Bool} {P : Nat → Prop} {q : Nat} (h : zm_I M s J w slp P gt g) (hq : q % 6 ≠ 3) : g q = gt q := h.2 q (fun z _ _ _ _ => by omega)
theorem zm_I_step {w slp : Nat → Bool} {P Q : Nat → Prop} {z : Nat} (hl : zc_lim M s J) (h : zm_I M s J w slp P gt g) (hz : z < M + s) (hw : ∀ k, k < M + s → bt wi k = w k) (hs : ∀ k, k < M + s → bt sl k = slp k) (hQ : ∀ k, Q k → P k ∨ k = z) : zm_I M s J w slp Q gt (zm_mayg M s J wi sl z g) := by
  unfold zm_mayg
  by_cases hc : (bt wi z && !decide (z = M - 1) && bt sl (zs_bh M s J z)) = true
  · rw [if_pos hc]
    simp only [Bool.and_eq_true, Bool.not_eq_true', decide_eq_false_iff_not] at hc
    obtain ⟨⟨h1, h2⟩, h3⟩ := hc
    have hb := zs_bh_lt hl hz h2
    rw [hw z hz] at h1
    rw [hs _ hb] at h3
    refine ⟨fun k hk hk2 hk3 hk4 hk5 => ?_, fun q hq => ?_⟩
    · by_cases e : 6 * zs_bh M s J k + 3 = 6 * zs_bh M s J z + 3
      · rw [e, upd_s]
      · rw [upd_n e]
        rcases hQ k hk2 with c | c
        · exact h.1 k hk c hk3 hk4 hk5
        · subst c; exact absurd rfl e
    · rw [upd_n (hq z hz h2 h1 h3)]
      exact h.2 q hq
  · rw [if_neg hc]
    refine ⟨fun k hk hk2 hk3 hk4 hk5 => ?_, h.2⟩
    rcases hQ k hk2 with c | c
    · exact h.1 k hk c hk3 hk4 hk5
    · subst c
      exfalso
      apply hc
      have hb := zs_bh_lt hl hk hk3
      rw [hw k hk, hs _ hb]
      simp [hk4, hk3, hk5]
theorem zs_goM_w {wd cl : Nat → Bool} {op tr : Bool} {n : Nat} (h : zs_goM M wd cl op tr n = true) (hn : n < M) : wd (M - 1 - n) = true := by
  cases n with
  | zero => simp only [zs_goM, Bool.and_eq_true] at h; exact h.1
  | succ n => simp only [zs_goM, Bool.and_eq_true] at h; rw [show M - 1 - (n + 1) = M - 2 - n by omega]; exact h.1
theorem zs_goS_w {wd cl : Nat → Bool} {op tr : Bool} {n : Nat} (h : zs_goS M s J wd cl op tr n = true) : wd (M + s - 1 - n) = true := by
  cases n with
  | zero => simp only [zs_goS, Bool.and_eq_true] at h; exact h.1
  | succ n => simp only [zs_goS, Bool.and_eq_true] at h; rw [show M + s - 1 - (n + 1) = M + s - 2 - n by omega]; exact h.1
theorem m_room {see slp x tr : Bool} (h : x = true → slp = false) : (!slp && (!see || (tr && x))) = ((!see && !slp) || (tr && x)) := by
  cases see <;> cases slp <;> cases x <;> cases tr <;> simp_all
theorem m_layGoes {w see slp : Nat → Bool} (hok : zm_ok r M s J S) (hl : zc_lim M s J) (hN : 20 ≤ N) (hw : ∀ k, k < M + s → bt wi k = w k) (hse : ∀ k, k < M + s → bt se k = see k) (hsl : ∀ k, k < M + s → bt sl k = slp k) (hws : ∀ k, k < M + s → w k = true → slp k = false) : ∃ go' g', fX6_layGoes N r (zm_st S r se wi go sl we gt) = some ((), zm_st S r se wi go' sl we g') ∧ (∀ k, k < M + s → bt go' k = zs_go M s J (zs_wd M s J w (zs_first M s J gt)) (fun z => !see z && !slp z) (decide (gt 72 = 1)) (decide (gt 73 = 1)) k) ∧ zm_I M s J w slp (fun _ => True) gt g' := by
  obtain ⟨l1, l2, l3, l4, l5⟩ := id hl
  generalize hop : decide (gt 72 = 1) = op
  generalize htr : decide (gt 73 = 1) = tr
  generalize hfs : zs_first M s J gt = fs
  generalize hwd : zs_wd M s J w fs = wd
  generalize hcl : (fun z => !see z && !slp z) = cl
  have hwdw : ∀ k, wd k = true → w k = true := by
    intro k hk
    rw [← hwd] at hk; unfold zs_wd at hk
    simp only [Bool.and_eq_true] at hk; exact hk.1
  have hopg : ∀ g P, zm_I M s J w slp P gt g → decide (g 72 = 1) = op := fun g P h => by rw [zm_I_n h (by omega), hop]
  have htrg : ∀ g P, zm_I M s J w slp P gt g → decide (g 73 = 1) = tr := fun g P h => by rw [zm_I_n h (by omega), htr]
  -- the side line
  have side : ∀ (q n : Nat) (go : Int32) (g : Nat → Int32), q + 1 ≤ s → q < n → (∀ k, k < M + s → bt go k = (if k < M then zs_goM M wd cl op tr (M - 1 - k) else decide (M + q ≤ k) && zs_goS M s J wd cl op tr (M + s - 1 - k))) → zm_I M s J w slp (fun z => z < M ∨ M + q ≤ z) gt g → ∃ go' g', fX6_layGoes_186 N r n (zm_st S r se wi go sl we g) (nI (M + q) - 1) = some ((), zm_st S r se wi go' sl we g') ∧ (∀ k, k < M + s → bt go' k = zs_go M s J wd cl op tr k) ∧ zm_I M s J w slp (fun _ => True) gt g' := by
    intro q
    induction q with
    | zero =>
      intro n go g hq hn hgo hI
      obtain ⟨n, rfl⟩ : ∃ q, n = q + 1 := ⟨n - 1, by omega⟩
      refine ⟨go, g, ?_, fun k hk => ?_, ⟨fun z hz _ => hI.1 z hz (by omega), hI.2⟩⟩
      · simp only [fX6_layGoes_186, fX6_layGoes_186b, (zm_okst hok).2.1]
        rw [zn_sub1 (by omega), if_pos (by rw [zn_lt (by omega) (by omega)]; omega)]
      · rw [hgo k hk]; unfold zs_go
        by_cases h : k < M
        · simp [h]
        · simp [h]; intro; omega
    | succ q ih =>
      intro n go g hq hn hgo hI
      obtain ⟨n, rfl⟩ : ∃ q, n = q + 1 := ⟨n - 1, by omega⟩
      have e1 : nI (M + (q + 1)) - 1 = nI (M + q) := zn_s1 (M + q)
      have e0 : fX6_layGoes_186 N r (n + 1) (zm_st S r se wi go sl we g) (nI (M + (q + 1)) - 1) = fX6_layGoes_186 N r n (zm_st S r se wi (go ||| (if zm_mayv M s J wi sl se go (decide (g 72 = 1)) (decide (g 73 = 1)) (M + q) = true then (1 : Int32) <<< (nI (M + q) &&& 31) else 0)) sl we (zm_mayg M s J wi sl (M + q) g)) (nI (M + q) - 1) := by
        simp only [fX6_layGoes_186, fX6_layGoes_186b, fX6_layGoes_215, (zm_okst hok).2.1, e1]
        rw [if_neg (by rw [zn_lt (by omega) (by omega)]; omega), m_may2 hok hl (by omega)]
        simp only [zb_bind_some, zb_let, mz_i24, mz_24, zn_am1]
        cases zm_mayv M s J wi sl se go (decide (g 72 = 1)) (decide (g 73 = 1)) (M + q) <;> simp
      rw [e0, hopg g _ hI, htrg g _ hI]
      have hbh : zs_bh M s J (M + q) = M + q + 1 := by unfold zs_bh; rw [if_neg (by omega)]
      have hval : zm_mayv M s J wi sl se go op tr (M + q) = zs_goS M s J wd cl op tr (M + s - 1 - (M + q)) := by
        unfold zm_mayv
        rw [if_neg (by omega), hbh, hw _ (by omega), hsl _ (by omega), hse _ (by omega), hgo _ (by omega)]
        rw [if_neg (by omega)]
        obtain ⟨t, ht⟩ : ∃ t, M + s - 1 - (M + q) = t + 1 := ⟨M + s - 1 - (M + q) - 1, by omega⟩
        have a1 : M + s - 2 - t = M + q := by omega
        have a2 : M + s - 1 - t = M + q + 1 := by omega
        have a3 : M + s - 1 - (M + q + 1) = t := by omega
        rw [ht, a3]
        simp only [zs_goS, a1, a2]
        have hwq : wd (M + q) = w (M + q) := by
          rw [← hwd]; unfold zs_wd
          have c1 : ¬ (M + q = J - 1) := by omega
          have c2 : ¬ (M + q = M + s - 1) := by omega
          simp [c1, c2]
        rw [hwq, ← hcl]
        have c3 : M + (q + 1) ≤ M + q + 1 := by omega
        simp only [c3, decide_true, Bool.true_and]
        rw [m_room]
        intro hx
        have := zs_goS_w hx
        rw [a2] at this
        exact hws _ (by omega) (hwdw _ this)
      rw [hval]
      refine ih n _ _ (by omega) (by omega) (fun k hk => ?_) (zm_I_step hl hI (by omega) hw hsl (fun k hk => by omega))
      rw [b_or, hgo k hk, zb_bitc (by omega) (by omega)]
      by_cases h : k < M
      · have : ¬ k = M + q := by omega
        simp [h, this]
      · by_cases e : k = M + q
        · subst e
          rw [if_neg h, if_neg h, decide_eq_false (show ¬ (M + (q + 1) ≤ M + q) by omega)]
          simp
        · have c1 : (M + (q + 1) ≤ k) ↔ (M + q ≤ k) := by omega
          simp [h, e, c1]
  have fin : ∀ (go : Int32) (g : Nat → Int32), (∀ k, k < M + s → bt go k = ((decide (k < M) && zs_goM M wd cl op tr (M - 1 - k)) || (decide (k = M + s - 1 ∧ 0 < s) && zs_goS M s J wd cl op tr 0))) → zm_I M s J w slp (fun z => z < M ∨ (0 < s ∧ z = M + s - 1)) gt g → ∃ go' g', fX6_layGoes_186 N r N (zm_st S r se wi go sl we g) (nI (M + s) - 2) = some ((), zm_st S r se wi go' sl we g') ∧ (∀ k, k < M + s → bt go' k = zs_go M s J wd cl op tr k) ∧ zm_I M s J w slp (fun _ => True) gt g' := by
    intro go g hgo hI
    by_cases h : 0 < s
    · have e1 : nI (M + s) - 2 = nI (M + (s - 1)) - 1 := by
        rw [zn_sub1 (show 0 < M + (s - 1) by omega)]
        rw [show (2 : Int32) = nI 2 from rfl, pk_sub (by omega)]
        congr 1
        omega
      rw [e1]
      refine side (s - 1) N go g (by omega) (by omega) (fun k hk => ?_) ⟨fun z hz hP => hI.1 z hz (by omega), hI.2⟩
      rw [hgo k hk]
      by_cases c : k < M
      · have : ¬ (k = M + s - 1 ∧ 0 < s) := by omega
        simp [c, this]
      · by_cases e : k = M + s - 1
        · subst e
          have c2 : M + (s - 1) ≤ M + s - 1 := by omega
          simp [c, h, c2]
        · have c2 : ¬ (M + (s - 1) ≤ k) := by omega
          simp [c, e, c2]
    · have hs0 : s = 0 := by omega
      obtain ⟨n, hn⟩ : ∃ q, N = q + 1 := ⟨N - 1, by omega⟩
      refine ⟨go, g, ?_, fun k hk => ?_, ⟨fun z hz _ => hI.1 z hz (by omega), hI.2⟩⟩
      · have e1 : nI (M + s) - 2 = nI (M - 2) := by
          rw [show (2 : Int32) = nI 2 from rfl, pk_sub (by omega)]
          congr 1
          omega
        rw [e1]
        have : fX6_layGoes_186 N r N (zm_st S r se wi go sl we g) (nI (M - 2)) = fX6_layGoes_186 N r (n + 1) (zm_st S r se wi go sl we g) (nI (M - 2)) := by rw [← hn]
        rw [this]
        simp only [fX6_layGoes_186, fX6_layGoes_186b, (zm_okst hok).2.1]
        rw [if_pos (by rw [zn_lt (by omega) (by omega)]; omega)]
      · rw [hgo k hk]; unfold zs_go
        have c : k < M := by omega
        simp [c, h]
  -- the main line
  have main : ∀ (q n : Nat) (go : Int32) (g : Nat → Int32), q ≤ M → q < n → (∀ k, k < M + s → bt go k = ((decide (q ≤ k ∧ k < M) && zs_goM M wd cl op tr (M - 1 - k)) || (decide (k = M + s - 1 ∧ 0 < s ∧ q ≤ J - 1) && zs_goS M s J wd cl op tr 0))) → zm_I M s J w slp (fun z => (q ≤ z ∧ z < M) ∨ (0 < s ∧ q ≤ J - 1 ∧ z = M + s - 1)) gt g → ∃ go' g', fX6_layGoes_19 N r n (zm_st S r se wi go sl we g) (nI (M + s - 1)) (nI q - 1) = some ((), zm_st S r se wi go' sl we g') ∧ (∀ k, k < M + s → bt go' k = zs_go M s J wd cl op tr k) ∧ zm_I M s J w slp (fun _ => True) gt g' := by
    intro q
    induction q with
    | zero =>
      intro n go g hq hn hgo hI
      obtain ⟨n, rfl⟩ : ∃ q, n = q + 1 := ⟨n - 1, by omega⟩
      simp only [fX6_layGoes_19, fX6_layGoes_19b, zb_let]
      rw [if_pos zn_neg1, m_zones (zm_okst hok)]
      simp only [zb_bind_some]
      refine fin go g (fun k hk => ?_) ⟨fun z hz hP => hI.1 z hz (by omega), hI.2⟩
      rw [hgo k hk]
      have c1 : (0 ≤ k ∧ k < M) ↔ k < M := by omega
      have c2 : (k = M + s - 1 ∧ 0 < s ∧ 0 ≤ J - 1) ↔ (k = M + s - 1 ∧ 0 < s) := by omega
      simp only [c1, c2]
    | succ z ih =>
      intro n go g hq hn hgo hI
      obtain ⟨n, rfl⟩ : ∃ q, n = q + 1 := ⟨n - 1, by omega⟩
      -- what may() says of a zone of the main line
      have hval : zm_mayv M s J wi sl se go op tr z = (w z && (if z = M - 1 then op else (cl (z + 1) || (tr && zs_goM M wd cl op tr (M - 1 - (z + 1)))))) := by
        unfold zm_mayv
        rw [hw z (by omega)]
        by_cases c : z = M - 1
        · rw [if_pos c, if_pos c]
        · have hbh : zs_bh M s J z = z + 1 := by unfold zs_bh; rw [if_neg (by omega)]
          rw [if_neg c, if_neg c, hbh, hsl _ (by omega), hse _ (by omega), hgo _ (by omega)]
          rw [decide_eq_true (show z + 1 ≤ z + 1 ∧ z + 1 < M by omega), decide_eq_false (show ¬ (z + 1 = M + s - 1 ∧ 0 < s ∧ z + 1 ≤ J - 1) by omega), Bool.true_and, Bool.false_and, Bool.or_false]
          rw [m_room, ← hcl]
          intro hx
          have := zs_goM_w hx (by omega)
          rw [show M - 1 - (M - 1 - (z + 1)) = z + 1 by omega] at this
          exact hws _ (by omega) (hwdw _ this)
      have hgoz : zs_goM M wd cl op tr (M - 1 - z) = (wd z && (if z = M - 1 then op else (cl (z + 1) || (tr && zs_goM M wd cl op tr (M - 1 - (z + 1)))))) := by
        by_cases c : z = M - 1
        · rw [if_pos c, c]
          rw [show M - 1 - (M - 1) = 0 by omega]
          rfl
        · rw [if_neg c]
          obtain ⟨t, ht⟩ : ∃ t, M - 1 - z = t + 1 := ⟨M - 1 - z - 1, by omega⟩
          have a1 : M - 2 - t = z := by omega
          have a2 : M - 1 - t = z + 1 := by omega
          have a3 : M - 1 - (z + 1) = t := by omega
          rw [ht, a3]
          simp only [zs_goM, a1, a2]
      by_cases hc : z ≠ J - 1 ∨ s = 0
      · rw [m_lay1 hok hl (by omega) hc, hopg g _ hI, htrg g _ hI, hval]
        have hwz : wd z = w z := by
          rw [← hwd]; unfold zs_wd
          rcases hc with c | c
          · by_cases c2 : 0 < s
            · have c3 : ¬ z = M + s - 1 := by omega
              simp [c, c3]
            · simp [c2]
          · simp [c]
        rw [← hwz, ← hgoz]
        refine ih n _ _ (by omega) (by omega) (fun k hk => ?_) (zm_I_step hl hI (by omega) hw hsl (fun k hk => by omega))
        rw [b_or, hgo k hk, zb_bitc (by omega) (by omega)]
        have c2 : (k = M + s - 1 ∧ 0 < s ∧ z + 1 ≤ J - 1) ↔ (k = M + s - 1 ∧ 0 < s ∧ z ≤ J - 1) := by omega
        by_cases e : k = z
        · subst e
          simp only [c2]
          rw [decide_eq_false (show ¬ (k + 1 ≤ k ∧ k < M) by omega), decide_eq_true (show k ≤ k ∧ k < M by omega)]
          simp only [decide_true, Bool.false_and, Bool.true_and, Bool.false_or]
          rw [Bool.or_comm]
        · have c1 : (z + 1 ≤ k ∧ k < M) ↔ (z ≤ k ∧ k < M) := by omega
          simp only [c1, c2, e, decide_false, Bool.false_and, Bool.or_false]
      · have hz : z = J - 1 := by
          rcases Nat.decEq z (J - 1) with h | h
          · exact absurd (Or.inl h) hc
          · exact h
        have hs : 0 < s := by
          rcases Nat.eq_zero_or_pos s with h | h
          · exact absurd (Or.inr h) hc
          · exact h
        obtain ⟨g1, g2, is, its, e1, e2, e3, e4, e5⟩ := m_lay2 (N := N) (n := n) (S := S) (r := r) (se := se) (wi := wi) (go := go) (sl := sl) (we := we) (g := g) hok hl hs
        have hI1 : zm_I M s J w slp (fun k => (z ≤ k ∧ k < M)) gt g1 := by
          rw [e1, ← hz]; exact zm_I_step hl hI (by omega) hw hsl (fun k hk => by omega)
        have hI2 : zm_I M s J w slp (fun k => (z ≤ k ∧ k < M) ∨ (0 < s ∧ z ≤ J - 1 ∧ k = M + s - 1)) gt g2 := by
          rw [e2]; exact zm_I_step hl hI1 (by omega) hw hsl (fun k hk => by omega)
        rw [hopg g _ hI, htrg g _ hI, ← hz, hval] at e3
        rw [hopg g1 _ hI1, htrg g1 _ hI1] at e4
        have hfg : zs_first M s J g2 = fs := by
          rw [← hfs]; unfold zs_first
          rw [zm_I_n hI2 (show (6 * (J - 1) + 5) % 6 ≠ 3 by omega), zm_I_n hI2 (show (6 * (M + s - 1) + 5) % 6 ≠ 3 by omega)]
        rw [← hz] at e5
        rw [e5, hfg]
        -- both have the same room
        have hzM : z ≠ M - 1 := by omega
        rw [if_neg hzM] at e3
        rw [if_neg hzM] at hgoz
        generalize hrm : (cl (z + 1) || (tr && zs_goM M wd cl op tr (M - 1 - (z + 1)))) = room at e3 hgoz
        have hits : its = (w (M + s - 1) && room) := by
          rw [e4]; unfold zm_mayv
          have hbh : zs_bh M s J (M + s - 1) = z + 1 := by unfold zs_bh; rw [if_pos rfl]; omega
          rw [if_neg (by omega), hbh, hw _ (by omega), hsl _ (by omega), hse _ (by omega), hgo _ (by omega)]
          rw [decide_eq_true (show z + 1 ≤ z + 1 ∧ z + 1 < M by omega), decide_eq_false (show ¬ (z + 1 = M + s - 1 ∧ 0 < s ∧ z + 1 ≤ J - 1) by omega), Bool.true_and, Bool.false_and, Bool.or_false]
          rw [m_room, ← hrm, ← hcl]
          intro hx
          have := zs_goM_w hx (by omega)
          rw [show M - 1 - (M - 1 - (z + 1)) = z + 1 by omega] at this
          exact hws _ (by omega) (hwdw _ this)
        have hgo0 : zs_goS M s J wd cl op tr 0 = (wd (M + s - 1) && room) := by
          simp only [zs_goS]
          rw [← hrm, show J = z + 1 by omega]
        have hwz : wd z = (w z && !(w z && w (M + s - 1) && !fs)) := by
          rw [← hwd]; unfold zs_wd
          have c2 : ¬ (z = M + s - 1) := by omega
          simp [← hz, hs, c2]
        have hwo : wd (M + s - 1) = (w (M + s - 1) && !(w z && w (M + s - 1) && fs)) := by
          rw [← hwd]; unfold zs_wd
          have c2 : ¬ (M + s - 1 = J - 1) := by omega
          simp [← hz, hs, hz ▸ c2]
        have hA : (its && (!is || !fs)) = zs_goS M s J wd cl op tr 0 := by
          rw [hgo0, hwo, hits, e3]
          cases w z <;> cases w (M + s - 1) <;> cases fs <;> cases room <;> rfl
        have hB : (is && (!its || fs)) = zs_goM M wd cl op tr (M - 1 - z) := by
          rw [hgoz, hwz, hits, e3]
          cases w z <;> cases w (M + s - 1) <;> cases fs <;> cases room <;> rfl
        rw [hA, hB]
        refine ih n _ _ (by omega) (by omega) (fun k hk => ?_) hI2
        rw [b_or, b_or, hgo k hk, zb_bitc (by omega) (by omega), zb_bitc (by omega) (by omega)]
        have d1 : ¬ (k = M + s - 1 ∧ 0 < s ∧ z + 1 ≤ J - 1) := by omega
        have d2 : (k = M + s - 1 ∧ 0 < s ∧ z ≤ J - 1) ↔ k = M + s - 1 := by omega
        by_cases e : k = z
        · subst e
          simp only [d2]
          rw [decide_eq_false (show ¬ (k + 1 ≤ k ∧ k < M) by omega), decide_eq_true (show k ≤ k ∧ k < M by omega), decide_eq_false d1, decide_eq_false (show ¬ (k = M + s - 1) by omega)]
          simp only [decide_true, Bool.false_and, Bool.true_and, Bool.false_or, Bool.or_false]
        · have c1 : (z + 1 ≤ k ∧ k < M) ↔ (z ≤ k ∧ k < M) := by omega
          simp only [c1, d2]
          rw [decide_eq_false d1, decide_eq_false e]
          simp only [Bool.false_and, Bool.or_false]
  unfold fX6_layGoes fX6_layGoes_0
  simp only [zb_let, mz_24]
  rw [m_zones (zm_okst hok)]
  simp only [zb_bind_some, (zm_okst hok).2.1]
  rw [zn_sub1 (show 0 < M + s by omega)]
  refine main M N 0 gt (Nat.le_refl _) (by omega) (fun k hk => ?_) ⟨fun z hz hP => by omega, fun q _ => rfl⟩
  have c1 : ¬ (M ≤ k ∧ k < M) := by omega
  have c2 : ¬ (k = M + s - 1 ∧ 0 < s ∧ M ≤ J - 1) := by omega
  rw [b_0]; simp only [c1, c2, decide_false, Bool.false_and, Bool.or_false]
end MG
