section BE
variable {M s J tl na nx ns N b r k n Z i : Nat} {S T S' S'' T' U X Y : zb_S} {f f' g g' R R' A : Nat → Int32} {C : Nat → Nat} {m : Int32}
/-- but for what the reader writes -/
def zh (S S' : zb_S) : Prop := (∀ o k, ¬ (o = 21 ∧ (k = 0 ∨ k = 3 ∨ k = 7 ∨ k = 8 ∨ k = 9)) → zb_i S' o k = zb_i S o k) ∧ (∀ o, o ≠ 23 → zb_a S' o = zb_a S o) ∧ ∀ o k, zb_l S' o k = zb_l S o k
theorem zh.rf : zh S S := ⟨fun _ _ _ => rfl, fun _ _ => rfl, fun _ _ => rfl⟩
theorem zh.tr (h : zh S S') (h2 : zh S' S'') : zh S S'' := ⟨fun o k a => (h2.1 o k a).trans (h.1 o k a), fun o a => (h2.2.1 o a).trans (h.2.1 o a), fun o k => (h2.2.2 o k).trans (h.2.2 o k)⟩
theorem zh_pi {v : Int32} (hk : k = 0 ∨ k = 3 ∨ k = 7 ∨ k = 8 ∨ k = 9) : zh S (zb_pi S 21 k v) := ⟨fun o q h => by rw [zs_pi_i, if_neg (fun c => h ⟨c.1, by rw [c.2]; exact hk⟩)], fun _ _ => rfl, fun _ _ => rfl⟩
theorem zh_a : zh S (zs_a S 23 f) := ⟨fun _ _ _ => rfl, fun o h => zs_ne h, fun _ _ => rfl⟩
theorem zi_P.h (h : zi_P M s J tl na nx ns S) (hq : zh S S') : zi_P M s J tl na nx ns S' := by
  obtain ⟨hl, hc, hn, ht, ha, hk, hs2, ho⟩ := h
  have I : ∀ o k, ¬ (o = 21 ∧ (k = 0 ∨ k = 3 ∨ k = 7 ∨ k = 8 ∨ k = 9)) → zb_i S' o k = zb_i S o k := hq.1
  have A : ∀ o, o ≠ 23 → zb_a S' o = zb_a S o := hq.2.1
  exact ⟨hl, hc.tr (I _ _ (by omega)) (I _ _ (by omega)) (I _ _ (by omega)) (I _ _ (by omega)) (I _ _ (by omega)) (I _ _ (by omega)) (I _ _ (by omega)),
    hn.tr (A _ (by omega)) (A _ (by omega)),
    ht.tr (I _ _ (by omega)) (I _ _ (by omega)) (A _ (by omega)) (A _ (by omega)),
    ha.tr (I _ _ (by omega)) (I _ _ (by omega)) (I _ _ (by omega)) (I _ _ (by omega)) (A _ (by omega)) (A _ (by omega)),
    hk.tr (I _ _ (by omega)) (I _ _ (by omega)) (A _ (by omega)) (A _ (by omega)) (A _ (by omega)),
    hs2.tr (I _ _ (by omega)) (I _ _ (by omega)) (A _ (by omega)) (A _ (by omega)) (A _ (by omega)) (A _ (by omega)) (A _ (by omega)) (A _ (by omega)),
    ho.tr (I _ _ (by omega)) (hq.2.2 _ _) (hq.2.2 _ _)⟩
theorem zf_m.h (h : zf_m tl C S) (hq : zh S S') : zf_m tl C S' := ⟨h.1, (hq.1 21 2 (by omega)).trans h.2.1, fun k hk => by rw [hq.2.1 22 (by omega)]; exact h.2.2 k hk⟩
theorem rh121 {v : Int32} : fX6_readHead_121 N X v = some (if v = -9 then 0 else 1, zs_a X 23 (upd (zb_a X 23) 74 v)) := by
  unfold fX6_readHead_121
  simp only [zb_let]
  rw [if_pos (show zb_in 74 (zb_sz 23) by decide), if_pos (show zb_in 74 (zb_sz 23) by decide), zs_pa, show Int32.toNatClampNeg 74 = 74 from by decide, zs_same, upd_s]
  by_cases c : v = -9
  · rw [if_pos c, if_pos c]; rfl
  · rw [if_neg c, if_neg c]; rfl
theorem rh90f : ∃ X', fX6_readHead_90 N X (-9) = some (0, X') ∧ zh X X' ∧ zb_i X' 21 3 = zb_i X 21 3 := by
  refine ⟨zs_a (zs_a X 23 (upd (zb_a X 23) 73 (-9))) 23 (upd (upd (zb_a X 23) 73 (-9)) 74 (-9)), ?_, zh_a.tr zh_a, rfl⟩
  unfold fX6_readHead_90
  simp only [zb_let]
  rw [if_pos (show zb_in 73 (zb_sz 23) by decide), if_pos (show zb_in 73 (zb_sz 23) by decide), zs_pa, show Int32.toNatClampNeg 73 = 73 from by decide, zs_same, upd_s, if_pos rfl, rh121, zs_same]
  rfl
theorem rh61f : ∃ X', fX6_readHead_61 N X (-9) = some (0, X') ∧ zh X X' ∧ zb_i X' 21 3 = zb_i X 21 3 := by
  obtain ⟨X', x1, x2, x3⟩ := rh90f (N := N) (X := zb_pi X 21 9 (-9))
  refine ⟨X', ?_, (zh_pi (by omega)).tr x2, x3⟩
  unfold fX6_readHead_61
  simp only [zb_let]
  rw [show zb_i (zb_pi X 21 9 (-9)) 21 9 = -9 from rfl, if_pos rfl, x1]
theorem rh32f : ∃ X', fX6_readHead_32 N X (-9) = some (0, X') ∧ zh X X' ∧ zb_i X' 21 3 = zb_i X 21 3 := by
  obtain ⟨X', x1, x2, x3⟩ := rh61f (N := N) (X := zb_pi X 21 8 (-9))
  refine ⟨X', ?_, (zh_pi (by omega)).tr x2, x3⟩
  unfold fX6_readHead_32
  simp only [zb_let]
  rw [show zb_i (zb_pi X 21 8 (-9)) 21 8 = -9 from rfl, if_pos rfl, x1]
theorem zf_ne9 {j : Nat} (hj : j < 1000) : ¬ (nI j) = -9 := zn_n9 hj
/-- the head, from its last place on -/
theorem rh90 (hz : zf_m tl C X) (hp : zb_i X 21 3 = nI 5) (h5 : 5 ≤ tl) {v : Nat} (hv : v < 100) : (¬ (5 < tl ∧ 48 + 0 ≤ C 5 ∧ C 5 ≤ 48 + 9) → ∃ X', fX6_readHead_90 N X (nI v) = some (0, X') ∧ zh X X' ∧ zb_i X' 21 3 = nI 5) ∧ ((5 < tl ∧ 48 + 0 ≤ C 5 ∧ C 5 ≤ 48 + 9) → ∃ X', fX6_readHead_90 N X (nI v) = some (1, X') ∧ zh X X' ∧ zb_i X' 21 3 = nI 6 ∧ (∀ q, q ≠ 3 → zb_i X' 21 q = zb_i X 21 q) ∧ zb_a X' 23 = upd (upd (zb_a X 23) 73 (nI v)) 74 (nI (C 5 - 48))) := by
  have hz1 : zf_m tl C (zs_a X 23 (upd (zb_a X 23) 73 (nI v))) := hz
  have hf := mf_figure (N := N) (lo := 0) (hi := 9) hz1 hp h5 (by omega) (by omega)
  unfold fX6_readHead_90
  simp only [zb_let]
  rw [if_pos (show zb_in 73 (zb_sz 23) by decide), if_pos (show zb_in 73 (zb_sz 23) by decide), zs_pa, show Int32.toNatClampNeg 73 = 73 from by decide, zs_same, upd_s, if_neg (zf_ne9 (by omega)), show fX6_figure N (zs_a X 23 (upd (zb_a X 23) 73 (nI v))) 0 9 = fX6_figure N (zs_a X 23 (upd (zb_a X 23) 73 (nI v))) (nI 0) (nI 9) from rfl, hf]
  refine ⟨fun c => ?_, fun c => ?_⟩
  · rw [if_neg c, zb_bind_some, rh121, if_pos rfl]
    exact ⟨_, rfl, zh_a.tr zh_a, hp⟩
  · rw [if_pos c, zb_bind_some, rh121, if_neg (zf_ne9 (by omega))]
    refine ⟨_, rfl, (zh_a.tr (zh_pi (by omega))).tr zh_a, rfl, fun q hq => ?_, ?_⟩
    · show zb_i (zb_pi (zs_a X 23 _) 21 3 _) 21 q = _
      rw [zs_pi_i, if_neg (fun e => hq e.2)]; rfl
    · rw [zs_same]
      show upd (zb_a (zs_a X 23 _) 23) 74 _ = _
      rw [zs_same]
theorem mf_head (hz : zf_m tl C X) (hp : zb_i X 21 3 = nI 1) (h1 : 1 ≤ tl) :
    (¬ (1 < tl ∧ 48 + 2 ≤ C 1 ∧ C 1 ≤ 48 + 8) → ∃ X', fX6_readHead N X = some (0, X') ∧ zh X X' ∧ zb_i X' 21 3 = nI 1) ∧
    ((1 < tl ∧ 48 + 2 ≤ C 1 ∧ C 1 ≤ 48 + 8) → (¬ (2 < tl ∧ 48 + 0 ≤ C 2 ∧ C 2 ≤ 48 + 4) → ∃ X', fX6_readHead N X = some (0, X') ∧ zh X X' ∧ zb_i X' 21 3 = nI 2) ∧
    ((2 < tl ∧ 48 + 0 ≤ C 2 ∧ C 2 ≤ 48 + 4) → (¬ (3 < tl ∧ 48 + 1 ≤ C 3 ∧ C 3 ≤ 48 + (C 1 - 48 - 1)) → ∃ X', fX6_readHead N X = some (0, X') ∧ zh X X' ∧ zb_i X' 21 3 = nI 3) ∧
    ((3 < tl ∧ 48 + 1 ≤ C 3 ∧ C 3 ≤ 48 + (C 1 - 48 - 1)) → (¬ (4 < tl ∧ 48 + 0 ≤ C 4 ∧ C 4 ≤ 48 + 1) → ∃ X', fX6_readHead N X = some (0, X') ∧ zh X X' ∧ zb_i X' 21 3 = nI 4) ∧
    ((4 < tl ∧ 48 + 0 ≤ C 4 ∧ C 4 ≤ 48 + 1) → (¬ (5 < tl ∧ 48 + 0 ≤ C 5 ∧ C 5 ≤ 48 + 9) → ∃ X', fX6_readHead N X = some (0, X') ∧ zh X X' ∧ zb_i X' 21 3 = nI 5) ∧
    ((5 < tl ∧ 48 + 0 ≤ C 5 ∧ C 5 ≤ 48 + 9) → ∃ X', fX6_readHead N X = some (1, X') ∧ zh X X' ∧ zb_i X' 21 3 = nI 6 ∧ zb_i X' 21 7 = nI (C 1 - 48) ∧ zb_i X' 21 8 = nI (C 2 - 48) ∧ zb_i X' 21 9 = nI (C 3 - 48) ∧ zb_a X' 23 = upd (upd (zb_a X 23) 73 (nI (C 4 - 48))) 74 (nI (C 5 - 48))))))) := by
  unfold fX6_readHead fX6_readHead_0
  rw [show fX6_figure N X 2 8 = fX6_figure N X (nI 2) (nI 8) from rfl, mf_figure hz hp h1 (by omega) (by omega)]
  simp only [zb_let]
  refine ⟨fun c => ?_, fun c1 => ?_⟩
  · obtain ⟨X', x1, x2, x3⟩ := rh32f (N := N) (X := zb_pi X 21 7 (-9))
    refine ⟨X', ?_, (zh_pi (by omega)).tr x2, x3.trans hp⟩
    rw [if_neg c, zb_bind_some, show zb_i (zb_pi X 21 7 (-9)) 21 7 = -9 from rfl, if_pos rfl, x1]
  rw [if_pos c1, zb_bind_some, show zb_i (zb_pi (zb_pi X 21 3 (nI (1 + 1))) 21 7 (nI (C 1 - 48))) 21 7 = nI (C 1 - 48) from rfl, if_neg (zf_ne9 (by omega))]
  generalize eX2 : zb_pi (zb_pi X 21 3 (nI (1 + 1))) 21 7 (nI (C 1 - 48)) = X2
  have z2 : zh X X2 := by rw [← eX2]; exact (zh_pi (by omega)).tr (zh_pi (by omega))
  have p2 : zb_i X2 21 3 = nI 2 := by rw [← eX2]; rfl
  have q2 : zb_i X2 21 7 = nI (C 1 - 48) := by rw [← eX2]; rfl
  have a2 : zb_a X2 23 = zb_a X 23 := by rw [← eX2]; rfl
  rw [show fX6_figure N X2 0 4 = fX6_figure N X2 (nI 0) (nI 4) from rfl, mf_figure (hz.h z2) p2 (by omega) (by omega) (by omega)]
  refine ⟨fun c => ?_, fun c2 => ?_⟩
  · obtain ⟨X', x1, x2, x3⟩ := rh32f (N := N) (X := X2)
    refine ⟨X', ?_, z2.tr x2, x3.trans p2⟩
    rw [if_neg c, zb_bind_some, x1]
  rw [if_pos c2, zb_bind_some]
  unfold fX6_readHead_32
  simp only [zb_let]
  generalize eX3 : zb_pi (zb_pi X2 21 3 (nI (2 + 1))) 21 8 (nI (C 2 - 48)) = X3
  have z3 : zh X X3 := by rw [← eX3]; exact (z2.tr (zh_pi (by omega))).tr (zh_pi (by omega))
  have p3 : zb_i X3 21 3 = nI 3 := by rw [← eX3]; rfl
  have q37 : zb_i X3 21 7 = nI (C 1 - 48) := by rw [← eX3]; exact q2
  have q38 : zb_i X3 21 8 = nI (C 2 - 48) := by rw [← eX3]; rfl
  have a3 : zb_a X3 23 = zb_a X 23 := by rw [← eX3]; exact a2
  rw [q38, if_neg (zf_ne9 (by omega)), q37, zn_sub1 (by omega), show fX6_figure N X3 1 (nI (C 1 - 48 - 1)) = fX6_figure N X3 (nI 1) (nI (C 1 - 48 - 1)) from rfl, mf_figure (hz.h z3) p3 (by omega) (by omega) (by omega)]
  refine ⟨fun c => ?_, fun c3 => ?_⟩
  · obtain ⟨X', x1, x2, x3⟩ := rh61f (N := N) (X := X3)
    refine ⟨X', ?_, z3.tr x2, x3.trans p3⟩
    rw [if_neg c, zb_bind_some, x1]
  rw [if_pos c3, zb_bind_some]
  unfold fX6_readHead_61
  simp only [zb_let]
  generalize eX4 : zb_pi (zb_pi X3 21 3 (nI (3 + 1))) 21 9 (nI (C 3 - 48)) = X4
  have z4 : zh X X4 := by rw [← eX4]; exact (z3.tr (zh_pi (by omega))).tr (zh_pi (by omega))
  have p4 : zb_i X4 21 3 = nI 4 := by rw [← eX4]; rfl
  have q47 : zb_i X4 21 7 = nI (C 1 - 48) := by rw [← eX4]; exact q37
  have q48 : zb_i X4 21 8 = nI (C 2 - 48) := by rw [← eX4]; exact q38
  have q49 : zb_i X4 21 9 = nI (C 3 - 48) := by rw [← eX4]; rfl
  have a4 : zb_a X4 23 = zb_a X 23 := by rw [← eX4]; exact a3
  rw [q49, if_neg (zf_ne9 (by omega)), show fX6_figure N X4 0 1 = fX6_figure N X4 (nI 0) (nI 1) from rfl, mf_figure (hz.h z4) p4 (by omega) (by omega) (by omega)]
  refine ⟨fun c => ?_, fun c4 => ?_⟩
  · obtain ⟨X', x1, x2, x3⟩ := rh90f (N := N) (X := X4)
    refine ⟨X', ?_, z4.tr x2, x3.trans p4⟩
    rw [if_neg c, zb_bind_some, x1]
  rw [if_pos c4, zb_bind_some]
  have h5 := rh90 (N := N) (X := zb_pi X4 21 3 (nI (4 + 1))) (v := C 4 - 48) ((hz.h z4).h (zh_pi (by omega))) rfl (by omega) (by omega)
  refine ⟨fun c => ?_, fun c5 => ?_⟩
  · obtain ⟨X', x1, x2, x3⟩ := h5.1 c
    exact ⟨X', x1, (z4.tr (zh_pi (by omega))).tr x2, x3⟩
  · obtain ⟨X', x1, x2, x3, x4, x5⟩ := h5.2 c5
    refine ⟨X', x1, (z4.tr (zh_pi (by omega))).tr x2, x3, ?_, ?_, ?_, ?_⟩
    · rw [x4 7 (by omega)]; exact q47
    · rw [x4 8 (by omega)]; exact q48
    · rw [x4 9 (by omega)]; exact q49
    · rw [x5, show zb_a (zb_pi X4 21 3 (nI (4 + 1))) 23 = zb_a X 23 from a4]
theorem mf_zero (hN : 5000 ≤ N) : ∀ (j n i : Nat), i + j = 79 → j < n → ∃ n', fX6_readBelt_7 N n (zs_a T 23 (va_cpy (fun _ => 0) A 0 0 i)) (nI i) = fX6_readBelt_7 N (n' + 1) (zs_a T 23 (va_cpy (fun _ => 0) A 0 0 79)) (nI 79) := by
  intro j
  induction j with
  | zero =>
    intro n i hi hn
    have e : i = 79 := by omega
    subst e
    exact ⟨n - 1, by rw [show n - 1 + 1 = n by omega]⟩
  | succ j ih =>
    intro n i hi hn
    obtain ⟨n, rfl⟩ : ∃ q, n = q + 1 := ⟨n - 1, by omega⟩
    obtain ⟨n', h⟩ := ih n (i + 1) (by omega) (by omega)
    refine ⟨n', ?_⟩
    rw [← h]
    conv => lhs; unfold fX6_readBelt_7 fX6_readBelt_7b
    simp only [zb_let]
    rw [if_neg (show ¬ (79 : Int32) ≤ nI i by rw [show (79 : Int32) = nI 79 from rfl, zn_le (by omega) (by omega)]; omega), if_pos (show zb_in (nI i) (zb_sz 23) from (zn_in (by omega)).mpr (show i < 79 by omega)), zn_cl (by omega), zs_pa, zs_same, zs_aa, show nI i + 1 = nI (i + 1) from nI_1 i]
    have := zc_cpy (f := fun _ => 0) (g := A) (sp := 0) (dp := 0) (i := i)
    rw [Nat.zero_add] at this
    rw [this]
def zf_0 (A : Nat → Int32) : Nat → Int32 := va_cpy (fun _ => 0) A 0 0 79
theorem zf_0_lt {i : Nat} (h : i < 79) : zf_0 A i = 0 := by unfold zf_0 va_cpy; rw [if_pos (by omega)]
theorem mf_read (hN : 5000 ≤ N) (hz : zf_m tl C T) (hA : zb_a T 23 = A) : ∃ T2, zh T T2 ∧ zb_a T2 23 = zf_0 A ∧ zb_i T2 21 3 = nI 1 ∧ (tl = 0 → ∃ T', fX6_readBelt N T = some (0, T') ∧ zh T T') ∧ (0 < tl → ¬ C 0 = 90 → ∃ T', fX6_readBelt N T = some (0, T') ∧ zh T T') ∧ (0 < tl → C 0 = 90 → fX6_readBelt N T = zb_bind (fX6_readHead N T2) (fun r3 S2 => if r3 = 0 then some (zb_i S2 21 3, S2) else fX6_readBelt_63 N N S2)) := by
  obtain ⟨h1, h2, h3⟩ := id hz
  have hzz : zh T (zs_a (zb_pi T 21 3 0) 23 (zf_0 A)) := (zh_pi (by omega)).tr zh_a
  obtain ⟨n', e⟩ := mf_zero (N := N) (T := zb_pi T 21 3 0) (A := A) hN 79 N 0 (by omega) (by omega)
  rw [zc_cpy0, zs_ids _ _ (show zb_a (zb_pi T 21 3 0) 23 = A from hA)] at e
  have e2 : fX6_readBelt N T = fX6_readBelt_7 N (n' + 1) (zs_a (zb_pi T 21 3 0) 23 (zf_0 A)) (nI 79) := e
  have hz2 := hz.h hzz
  have el : zb_i (zs_a (zb_pi T 21 3 0) 23 (zf_0 A)) 21 2 = nI tl := hz2.2.1
  refine ⟨zb_pi (zs_a (zb_pi T 21 3 0) 23 (zf_0 A)) 21 3 1, hzz.tr (zh_pi (by omega)), zs_same (zb_pi T 21 3 0) 23 (zf_0 A), rfl, fun c => ?_, fun c c2 => ?_, fun c c2 => ?_⟩
  · refine ⟨_, ?_, hzz⟩
    rw [e2]
    simp only [fX6_readBelt_7, fX6_readBelt_7b]
    rw [if_pos (show (79 : Int32) ≤ nI 79 by decide), el, if_pos (by rw [c]; rfl)]
  · refine ⟨_, ?_, hzz⟩
    rw [e2]
    simp only [fX6_readBelt_7, fX6_readBelt_7b]
    have e90 : nI (C 0) = 90 ↔ C 0 = 90 := zn_eq (b := 90) (by have := (h3 0 c).2; omega) (by omega)
    rw [if_pos (show (79 : Int32) ≤ nI 79 by decide), el, if_neg (by rw [zn_eq0 (by omega)]; omega), if_pos (show zb_in 0 (zb_sz 22) by decide), show Int32.toNatClampNeg 0 = 0 from by decide, (hz2.2.2 0 c).1, if_neg (fun q => c2 (e90.mp q))]
  · rw [e2]
    simp only [fX6_readBelt_7, fX6_readBelt_7b, zb_let]
    have e90 : nI (C 0) = 90 ↔ C 0 = 90 := zn_eq (b := 90) (by have := (h3 0 c).2; omega) (by omega)
    rw [if_pos (show (79 : Int32) ≤ nI 79 by decide), el, if_neg (by rw [zn_eq0 (by omega)]; omega), if_pos (show zb_in 0 (zb_sz 22) by decide), show Int32.toNatClampNeg 0 = 0 from by decide, (hz2.2.2 0 c).1, if_pos (e90.mpr c2)]
/-- both read the text alike -/
theorem f_read (hN : 5000 ≤ N) (hS : zf_c tl C S) : ∃ r, fX4_firstFault N S = some (r, S) ∧ ((¬ r = -9 ∧ ∀ T, zf_m tl C T → zb_a T 23 = A → ∃ T', fX6_readBelt N T = some (r, T') ∧ zh T T') ∨ (r = -9 ∧ 6 ≤ tl ∧ ∃ M s J tr re R', zc_lim M s J ∧ tr ≤ 1 ∧ re ≤ 9 ∧ C 1 = 48 + M ∧ C 2 = 48 + s ∧ C 3 = 48 + J ∧ C 4 = 48 + tr ∧ C 5 = 48 + re ∧ zf_R (M + s) R' ∧ (∀ T, zf_m tl C T → zb_a T 23 = A → ∃ T', fX6_readBelt N T = some (-9, T') ∧ zh T T' ∧ zb_i T' 21 7 = nI M ∧ zb_i T' 21 8 = nI s ∧ zb_i T' 21 9 = nI J ∧ zb_a T' 23 = R') ∧ ∀ U, zf_c tl C U → zc_ok 3 M s J U → zr_Rel (M + s) (zb_a U 4) (upd (upd (upd (zf_0 A) 73 (nI tr)) 74 (nI re)) 72 1) → ∃ f', fX4_layOut_46 N 3 N U (nI 8) = some ((), zs_a U 4 f') ∧ zr_Rel (M + s) f' (upd R' 72 1))) := by
  have h40 := hS.1
  obtain ⟨n, rfl⟩ : ∃ q, N = q + 100 := ⟨N - 100, by omega⟩
  have s0 : fX4_firstFault (n + 100) S = fX4_firstFault_4 (n + 100) (n + 99 + 1) S 0 (nI 0) := rfl
  -- a fault in the head
  have bad : ∀ k, k < 6 → fX4_firstFault (n + 100) S = some (nI k, S) → (∀ T, zf_m tl C T → zb_a T 23 = A → ∃ T', fX6_readBelt (n + 100) T = some (nI k, T') ∧ zh T T') → ∃ r, fX4_firstFault (n + 100) S = some (r, S) ∧ ((¬ r = -9 ∧ ∀ T, zf_m tl C T → zb_a T 23 = A → ∃ T', fX6_readBelt (n + 100) T = some (r, T') ∧ zh T T') ∨ (r = -9 ∧ 6 ≤ tl ∧ ∃ M s J tr re R', zc_lim M s J ∧ tr ≤ 1 ∧ re ≤ 9 ∧ C 1 = 48 + M ∧ C 2 = 48 + s ∧ C 3 = 48 + J ∧ C 4 = 48 + tr ∧ C 5 = 48 + re ∧ zf_R (M + s) R' ∧ (∀ T, zf_m tl C T → zb_a T 23 = A → ∃ T', fX6_readBelt (n + 100) T = some (-9, T') ∧ zh T T' ∧ zb_i T' 21 7 = nI M ∧ zb_i T' 21 8 = nI s ∧ zb_i T' 21 9 = nI J ∧ zb_a T' 23 = R') ∧ ∀ U, zf_c tl C U → zc_ok 3 M s J U → zr_Rel (M + s) (zb_a U 4) (upd (upd (upd (zf_0 A) 73 (nI tr)) 74 (nI re)) 72 1) → ∃ f', fX4_layOut_46 (n + 100) 3 (n + 100) U (nI 8) = some ((), zs_a U 4 f') ∧ zr_Rel (M + s) f' (upd R' 72 1))) :=
    fun k hk h1 h2 => ⟨nI k, h1, Or.inl ⟨zn_n9 (by omega), h2⟩⟩
  -- the reference's answer, from the head's
  have hd : ∀ k, k < 6 → 0 < tl → C 0 = 90 → (∀ X, zf_m tl C X → zb_i X 21 3 = nI 1 → ∃ X', fX6_readHead (n + 100) X = some (0, X') ∧ zh X X' ∧ zb_i X' 21 3 = nI k) → (∀ T, zf_m tl C T → zb_a T 23 = A → ∃ T', fX6_readBelt (n + 100) T = some (nI k, T') ∧ zh T T') := by
    intro k hk h0 h90 hh T hT hA
    obtain ⟨T2, t1, t2, t3, -, -, t4⟩ := mf_read (N := n + 100) hN hT hA
    obtain ⟨X', x1, x2, x3⟩ := hh T2 (hT.h t1) t3
    refine ⟨X', ?_, t1.tr x2⟩
    rw [t4 h0 h90, x1, zb_bind_some, if_pos rfl, x3]
  -- place 0
  by_cases c0 : tl = 0
  · refine bad 0 (by omega) ?_ (fun T hT hA => ?_)
    · rw [s0, show nI 0 = nI tl by rw [c0], pf_stop hS, if_neg (by omega)]
    · obtain ⟨T2, -, -, -, t4, -⟩ := mf_read (N := n + 100) hN hT hA
      exact t4 c0
  by_cases d0 : C 0 = 90
  rotate_left
  · refine bad 0 (by omega) ?_ (fun T hT hA => ?_)
    · rw [s0]
      exact pf_no hS (by omega) (by rw [pf_fits0 hS (by omega), if_neg d0])
    · obtain ⟨T2, -, -, -, -, t4, -⟩ := mf_read (N := n + 100) hN hT hA
      exact t4 (by omega) d0
  have s1 : fX4_firstFault (n + 100) S = fX4_firstFault_4 (n + 100) (n + 98 + 1) S 0 (nI 1) := by
    rw [s0, pf_yes hS (by omega) (by rw [pf_fits0 hS (by omega), if_pos d0]) (Or.inl (by omega))]
  -- place 1
  by_cases d1 : 1 < tl ∧ 48 + 2 ≤ C 1 ∧ C 1 ≤ 48 + 8
  rotate_left
  · refine bad 1 (by omega) ?_ (hd 1 (by omega) (by omega) d0 (fun X hX hp => (mf_head (N := n + 100) hX hp (by omega)).1 d1))
    by_cases e : 1 < tl
    · rw [s1]
      exact pf_no hS e (by rw [pf_fits1 hS e, if_neg (fun q => d1 ⟨e, q⟩)])
    · obtain rfl : tl = 1 := by omega
      rw [s1, pf_stop hS, if_neg (by omega)]
  have s2 : fX4_firstFault (n + 100) S = fX4_firstFault_4 (n + 100) (n + 97 + 1) S 0 (nI 2) := by
    rw [s1, pf_yes hS d1.1 (by rw [pf_fits1 hS d1.1, if_pos d1.2]) (Or.inl (by omega))]
  -- place 2
  by_cases d2 : 2 < tl ∧ 48 + 0 ≤ C 2 ∧ C 2 ≤ 48 + 4
  rotate_left
  · refine bad 2 (by omega) ?_ (hd 2 (by omega) (by omega) d0 (fun X hX hp => ((mf_head (N := n + 100) hX hp (by omega)).2 d1).1 d2))
    by_cases e : 2 < tl
    · rw [s2]
      exact pf_no hS e (by rw [pf_fits2 hS e, if_neg (fun q => d2 ⟨e, q⟩)])
    · obtain rfl : tl = 2 := by omega
      rw [s2, pf_stop hS, if_neg (by omega)]
  have s3 : fX4_firstFault (n + 100) S = fX4_firstFault_4 (n + 100) (n + 96 + 1) S 0 (nI 3) := by
    rw [s2, pf_yes hS d2.1 (by rw [pf_fits2 hS d2.1, if_pos d2.2]) (Or.inl (by omega))]
  -- place 3
  by_cases d3 : 3 < tl ∧ 48 + 1 ≤ C 3 ∧ C 3 ≤ 48 + (C 1 - 48 - 1)
  rotate_left
  · refine bad 3 (by omega) ?_ (hd 3 (by omega) (by omega) d0 (fun X hX hp => (((mf_head (N := n + 100) hX hp (by omega)).2 d1).2 d2).1 d3))
    by_cases e : 3 < tl
    · rw [s3]
      exact pf_no hS e (by rw [pf_fits3 hS e d1.2, if_neg (fun q => d3 ⟨e, by omega⟩)])
    · obtain rfl : tl = 3 := by omega
      rw [s3, pf_stop hS, if_neg (by omega)]
  have s4 : fX4_firstFault (n + 100) S = fX4_firstFault_4 (n + 100) (n + 95 + 1) S 0 (nI 4) := by
    rw [s3, pf_yes hS d3.1 (by rw [pf_fits3 hS d3.1 d1.2, if_pos (by omega)]) (Or.inl (by omega))]
  -- place 4
  by_cases d4 : 4 < tl ∧ 48 + 0 ≤ C 4 ∧ C 4 ≤ 48 + 1
  rotate_left
  · refine bad 4 (by omega) ?_ (hd 4 (by omega) (by omega) d0 (fun X hX hp => ((((mf_head (N := n + 100) hX hp (by omega)).2 d1).2 d2).2 d3).1 d4))
    by_cases e : 4 < tl
    · rw [s4]
      exact pf_no hS e (by rw [pf_fits4 hS e, if_neg (fun q => d4 ⟨e, q⟩)])
    · obtain rfl : tl = 4 := by omega
      rw [s4, pf_stop hS, if_neg (by omega)]
  have s5 : fX4_firstFault (n + 100) S = fX4_firstFault_4 (n + 100) (n + 94 + 1) S 0 (nI 5) := by
    rw [s4, pf_yes hS d4.1 (by rw [pf_fits4 hS d4.1, if_pos d4.2]) (Or.inl (by omega))]
  -- place 5
  by_cases d5 : 5 < tl ∧ 48 + 0 ≤ C 5 ∧ C 5 ≤ 48 + 9
  rotate_left
  · refine bad 5 (by omega) ?_ (hd 5 (by omega) (by omega) d0 (fun X hX hp => (((((mf_head (N := n + 100) hX hp (by omega)).2 d1).2 d2).2 d3).2 d4).1 d5))
    by_cases e : 5 < tl
    · rw [s5]
      exact pf_no hS e (by rw [pf_fits5 hS e, if_neg (fun q => d5 ⟨e, q⟩)])
    · obtain rfl : tl = 5 := by omega
      rw [s5, pf_stop hS, if_neg (by omega)]
  have s6 : fX4_firstFault (n + 100) S = fX4_firstFault_4 (n + 100) (n + 94) S 0 (nI 6) := by
    rw [s5, pf_yes hS d5.1 (by rw [pf_fits5 hS d5.1, if_pos d5.2]) (Or.inl (by omega))]
  -- the cartons
  obtain ⟨M, hM⟩ : ∃ M, C 1 = 48 + M := ⟨C 1 - 48, by omega⟩
  obtain ⟨s, hs⟩ : ∃ s, C 2 = 48 + s := ⟨C 2 - 48, by omega⟩
  obtain ⟨J, hJ⟩ : ∃ J, C 3 = 48 + J := ⟨C 3 - 48, by omega⟩
  obtain ⟨tr, htr⟩ : ∃ tr, C 4 = 48 + tr := ⟨C 4 - 48, by omega⟩
  obtain ⟨re, hre⟩ : ∃ re, C 5 = 48 + re := ⟨C 5 - 48, by omega⟩
  have hl : zc_lim M s J := ⟨by omega, by omega, by omega, by omega, by omega⟩
  have hR0 : ∀ z, z < M + s → upd (upd (zf_0 A) 73 (nI tr)) 74 (nI re) (6 * z) = 0 := by
    intro z hz
    rw [upd_n (by omega), upd_n (by omega), zf_0_lt (by omega)]
  have hwf : zf_R (M + s) (upd (upd (zf_0 A) 73 (nI tr)) 74 (nI re)) := by
    have v : ∀ i, i < 79 → i ≠ 73 → i ≠ 74 → i ≠ 72 → upd (upd (upd (zf_0 A) 73 (nI tr)) 74 (nI re)) 72 1 i = 0 := by
      intro i h1 h2 h3 h4
      rw [upd_n h4, upd_n h3, upd_n h2, zf_0_lt h1]
    refine ⟨?_, ⟨fun z hz => ⟨?_, Or.inl (v _ (by omega) (by omega) (by omega) (by omega)), Or.inl (v _ (by omega) (by omega) (by omega) (by omega)), Or.inl (v _ (by omega) (by omega) (by omega) (by omega))⟩, Or.inr (upd_s _ _ _), ?_, ⟨re, by omega, ?_⟩, ⟨0, by omega, v _ (by omega) (by omega) (by omega) (by omega)⟩⟩⟩
    · have : ∀ z, z ≤ M + s → zf_n (upd (upd (zf_0 A) 73 (nI tr)) 74 (nI re)) z = 0 := by
        intro z
        induction z with
        | zero => intro _; rfl
        | succ z ih => intro h; simp only [zf_n]; rw [ih (by omega), hR0 z (by omega)]; rfl
      rw [this _ (Nat.le_refl _), upd_n (by omega), upd_n (by omega), zf_0_lt (by omega)]
      rfl
    · rw [v _ (by omega) (by omega) (by omega) (by omega)]; decide
    · rw [upd_n (by omega), upd_n (by omega), upd_s]
      have : tr = 0 ∨ tr = 1 := by omega
      rcases this with e | e <;> rw [e]
      · exact Or.inl rfl
      · exact Or.inr rfl
    · rw [upd_n (by omega), upd_s]
  obtain ⟨r, R', x1, x2, x3⟩ := f_lock (N := n + 100) hl hN hS hM hs (by omega) 40 6 (upd (upd (zf_0 A) 73 (nI tr)) 74 (nI re)) 0 (by omega) (by omega) (by omega) (by omega) (fun z hz => by rw [hR0 z hz, b_0]; rfl) hwf
  have model : ∀ T, zf_m tl C T → zb_a T 23 = A → ∃ T', fX6_readBelt (n + 100) T = some (r, T') ∧ zh T T' ∧ zb_i T' 21 7 = nI M ∧ zb_i T' 21 8 = nI s ∧ zb_i T' 21 9 = nI J ∧ zb_a T' 23 = R' := by
    intro T hT hA
    obtain ⟨T2, t1, t2, t3, -, -, t4⟩ := mf_read (N := n + 100) hN hT hA
    obtain ⟨X', y1, y2, y3, y4, y5, y6, y7⟩ := (((((mf_head (N := n + 100) (hT.h t1) t3 (by omega)).2 d1).2 d2).2 d3).2 d4).2 d5
    rw [hM, show 48 + M - 48 = M by omega] at y4
    rw [hs, show 48 + s - 48 = s by omega] at y5
    rw [hJ, show 48 + J - 48 = J by omega] at y6
    rw [htr, hre, show 48 + tr - 48 = tr by omega, show 48 + re - 48 = re by omega, t2] at y7
    obtain ⟨p, q⟩ := x2 (n + 100) X' (by omega) ⟨(hT.h t1).h y2, y3, y4, y5, y7⟩
    refine ⟨_, ?_, ((t1.tr y2).tr (zh_pi (k := 3) (v := p) (by omega))).tr (zh_a (f := R')), y4, y5, y6, zs_same _ _ _⟩
    rw [t4 (by omega) d0, y1, zb_bind_some, if_neg (by decide), q]
  refine ⟨r, by rw [s6]; exact x1 _ (by omega), ?_⟩
  by_cases c9 : r = -9
  · obtain ⟨w1, w2⟩ := x3 c9
    refine Or.inr ⟨c9, by omega, M, s, J, tr, re, R', hl, by omega, by omega, hM, hs, hJ, htr, hre, w1, ?_, fun U hU hok hr => w2 (n + 100) U (by omega) hU hok hr⟩
    rw [← c9]
    exact model
  · refine Or.inl ⟨c9, fun T hT hA => ?_⟩
    obtain ⟨T', z1, z2, -⟩ := model T hT hA
    exact ⟨T', z1, z2⟩
theorem zi_txt.lt (ht : zi_txt tl S) : ∃ C, zf_c tl C S ∧ zf_m tl C S := by
  obtain ⟨h1, h2, h3, h4⟩ := ht
  have e : ∀ k, k < tl → zb_a S 22 k = nI (zb_a S 22 k).toNatClampNeg ∧ (zb_a S 22 k).toNatClampNeg ≤ 255 := by
    intro k hk
    obtain ⟨-, c, c1, c2⟩ := h4 k hk
    rw [c2, zn_cl (by omega)]
    exact ⟨rfl, c1⟩
  exact ⟨fun k => (zb_a S 22 k).toNatClampNeg, ⟨h1, h2, fun k hk => ⟨(h4 k hk).1.trans (e k hk).1, (e k hk).2⟩⟩, ⟨h1, h3, fun k hk => ⟨(e k hk).1, (e k hk).2⟩⟩⟩
theorem e_fault (hN : 5000 ≤ N) (h : zi_I S) : zi_E (fun S => fX5_fault N S) (fun S => fX6_fault N S) S := by
  obtain ⟨M, s, J, tl, na, nx, ns, hP⟩ := h
  obtain ⟨hl, hc, hn, ht, ha, hk, hs, ho⟩ := id hP
  obtain ⟨C, hcC, hmC⟩ := ht.lt
  obtain ⟨r, x1, x2⟩ := f_read (N := N) (A := zb_a S 23) hN hcC
  have model : ∃ T', fX6_readBelt N (zb_pi S 21 0 0) = some (r, T') ∧ zh (zb_pi S 21 0 0) T' := by
    rcases x2 with ⟨-, x2⟩ | ⟨x3, -, M', s', J', tr, re, R', -, -, -, -, -, -, -, -, -, x2, -⟩
    · exact x2 _ (hmC.h (zh_pi (by omega))) rfl
    · obtain ⟨T', y1, y2, -⟩ := x2 (zb_pi S 21 0 0) (hmC.h (zh_pi (by omega))) rfl
      exact ⟨T', by rw [x3]; exact y1, y2⟩
  obtain ⟨T', y1, y2⟩ := model
  refine ⟨r, S, T', ?_, ?_, (hP.h ((zh_pi (by omega)).tr y2)).I⟩
  · simp only [fX5_fault, fX5_fault_0, x1, zb_bind_some]
  · simp only [fX6_fault, fX6_fault_0, zb_let, y1, zb_bind_some]
end BE
