/-! THE BELT, in plain terms: a row g of 79 numbers (six of each zone, then seven), as the document's step has it -/
def zs_see (g : Nat → Int32) (z : Nat) : Bool := decide (g (6 * z + 1) = 2) || (decide (g (6 * z + 1) = 0) && !decide (g (6 * z) = 0))
def zs_slp (g : Nat → Int32) (z : Nat) : Bool := decide (g (6 * z + 3) = 1)
def zs_wish (g : Nat → Int32) (z : Nat) : Bool := zs_see g z && !zs_slp g z && !decide (g (6 * z + 2) = 1)
def zs_bh (M s J z : Nat) : Nat := if z = M + s - 1 then J else z + 1
def zs_fd (M s J : Nat) (p : Nat → Bool) (z : Nat) : Bool := (!decide (z = 0) && !decide (z = M) && p (z - 1)) || (decide (z = J) && decide (0 < s) && p (M + s - 1))
def zs_wk (M s J : Nat) (g : Nat → Int32) : Nat → Int32 := fun i => if i % 6 = 3 ∧ i < 6 * (M + s) ∧ (zs_see g (i / 6) = true ∨ zs_fd M s J (zs_wish g) (i / 6) = true) then 0 else g i
def zs_tk (w : Bool) (z : Nat) (g : Nat → Int32) : Nat → Int32 := if w = true ∧ g (6 * z + 5) = 0 then upd (upd g 75 (g 75 + 1)) (6 * z + 5) (g 75 + 1) else g
def zs_tks (M s J : Nat) (w : Nat → Bool) (g : Nat → Int32) : Nat → Int32 := if 0 < s then zs_tk (w (M + s - 1)) (M + s - 1) (zs_tk (w (J - 1)) (J - 1) g) else zs_tk (w (J - 1)) (J - 1) g
def zs_first (M s J : Nat) (g : Nat → Int32) : Bool := decide (g (6 * (J - 1) + 5) < g (6 * (M + s - 1) + 5))
/-- those that would go, but for the room -/
def zs_wd (M s J : Nat) (w : Nat → Bool) (fst : Bool) (z : Nat) : Bool := w z && !(decide (0 < s) && w (J - 1) && w (M + s - 1) && ((decide (z = J - 1) && !fst) || (decide (z = M + s - 1) && fst)))
def zs_goM (M : Nat) (wd cl : Nat → Bool) (op tr : Bool) : Nat → Bool
  | 0 => wd (M - 1) && op
  | n + 1 => wd (M - 2 - n) && (cl (M - 1 - n) || (tr && zs_goM M wd cl op tr n))
def zs_goS (M s J : Nat) (wd cl : Nat → Bool) (op tr : Bool) : Nat → Bool
  | 0 => wd (M + s - 1) && (cl J || (tr && zs_goM M wd cl op tr (M - 1 - J)))
  | n + 1 => wd (M + s - 2 - n) && (cl (M + s - 1 - n) || (tr && zs_goS M s J wd cl op tr n))
def zs_go (M s J : Nat) (wd cl : Nat → Bool) (op tr : Bool) (z : Nat) : Bool := if z < M then zs_goM M wd cl op tr (M - 1 - z) else zs_goS M s J wd cl op tr (M + s - 1 - z)
abbrev zs_X : Type := (Nat → Int32) × Int32
/-- a zone that goes: what it does to the row, and the carton that is out -/
def zs_ho (M s J z : Nat) (g : Nat → Int32) (w : Int32) : zs_X :=
  if g (6 * z) = 0 then (g, w) else if z = M - 1 then (upd (upd g (6 * z) 0) 77 (g 77 + 1), g (6 * z)) else if g (6 * zs_bh M s J z) = 0 then (upd (upd g (6 * zs_bh M s J z) (g (6 * z))) (6 * z) 0, w) else (upd g (6 * z + 2) 1, w)
def zs_mv1 (M s J : Nat) (go : Nat → Bool) (z : Nat) (x : zs_X) : zs_X := if go z = true then zs_ho M s J z (upd x.1 (6 * z + 5) 0) x.2 else x
def zs_mv (M s J : Nat) (go : Nat → Bool) (lo : Nat) : Nat → zs_X → zs_X
  | 0, x => x
  | n + 1, x => zs_mv M s J go lo n (zs_mv1 M s J go (lo + n) x)
def zs_id1 (any : Nat → Bool) (z : Nat) (g : Nat → Int32) : Nat → Int32 := if any z = true then upd g (6 * z + 4) 0 else if ¬ g 74 ≤ 0 ∧ ¬ g (6 * z + 4) + 1 < g 74 then upd (upd g (6 * z + 4) (g (6 * z + 4) + 1)) (6 * z + 3) 1 else upd g (6 * z + 4) (g (6 * z + 4) + 1)
def zs_idl (any : Nat → Bool) : Nat → (Nat → Int32) → (Nat → Int32)
  | 0, g => g
  | n + 1, g => zs_id1 any n (zs_idl any n g)
def zs_g2 (M s J : Nat) (g : Nat → Int32) : Nat → Int32 := zs_tks M s J (zs_wish g) (zs_wk M s J g)
def zs_gos (M s J : Nat) (g : Nat → Int32) : Nat → Bool := zs_go M s J (zs_wd M s J (zs_wish g) (zs_first M s J (zs_g2 M s J g))) (fun z => !zs_see g z && !zs_slp g z) (decide (g 72 = 1)) (decide (g 73 = 1))
def zs_g3 (M s J : Nat) (g : Nat → Int32) : zs_X := zs_mv M s J (zs_gos M s J g) M s (zs_mv M s J (zs_gos M s J g) 0 M (zs_g2 M s J g, 0))
def zs_any (M s J : Nat) (g : Nat → Int32) (z : Nat) : Bool := zs_see g z || zs_fd M s J (zs_see g) z
def zs_g4 (M s J : Nat) (g : Nat → Int32) : Nat → Int32 := zs_idl (zs_any M s J (zs_g3 M s J g).1) (M + s) (zs_g3 M s J g).1
/-- a step: the row behind it, and the carton that went out (0: none) -/
def zs_step (M s J : Nat) (g : Nat → Int32) : zs_X := (upd (zs_g4 M s J g) 78 (zs_g4 M s J g 78 + 1), (zs_g3 M s J g).2)
def zs_steps (M s J : Nat) : Nat → (Nat → Int32) → (Nat → Int32)
  | 0, g => g
  | n + 1, g => zs_steps M s J n (zs_step M s J g).1
abbrev zc_lim (M s J : Nat) : Prop := 2 ≤ M ∧ M ≤ 8 ∧ s ≤ 4 ∧ 1 ≤ J ∧ J < M
/-- how the class holds such a row: 57 numbers f, two sets as bits -/
def zr_Rel (Z : Nat) (f g : Nat → Int32) : Prop := (∀ z, z < Z → f z = g (6 * z) ∧ f (12 + z) = g (6 * z + 1) ∧ f (24 + z) = g (6 * z + 4) ∧ f (36 + z) = g (6 * z + 5)) ∧ (∀ z, z < 32 → bt (f 48) z = (decide (z < Z) && decide (g (6 * z + 2) = 1))) ∧ (∀ z, z < 32 → bt (f 49) z = (decide (z < Z) && decide (g (6 * z + 3) = 1))) ∧ ∀ j, j < 7 → f (50 + j) = g (72 + j)
/-- what every row that comes up keeps -/
def zr_wf (Z : Nat) (g : Nat → Int32) : Prop := (∀ z, z < Z → ¬ g (6 * z) < 0 ∧ (g (6 * z + 1) = 0 ∨ g (6 * z + 1) = 1 ∨ g (6 * z + 1) = 2) ∧ (g (6 * z + 2) = 0 ∨ g (6 * z + 2) = 1) ∧ (g (6 * z + 3) = 0 ∨ g (6 * z + 3) = 1)) ∧ (g 72 = 0 ∨ g 72 = 1) ∧ (g 73 = 0 ∨ g 73 = 1) ∧ (∃ r, r ≤ 9 ∧ g 74 = nI r) ∧ ∃ q, q ≤ 99 ∧ g 76 = nI q
/-! the same, number by number -/
theorem zr_bit {m : Int32} {Z z : Nat} {f g : Nat → Int32} (hz : z < Z) (hZ : Z ≤ 12) (hs : ∀ z, z < 32 → bt m z = (decide (z < Z) && decide (g (6 * z) = 1))) : True := trivial
section RL
variable {Z z : Nat} {f g : Nat → Int32} {v : Int32}
theorem zr_c (h : zr_Rel Z f g) (hZ : Z ≤ 12) (hz : z < Z) : zr_Rel Z (upd f z v) (upd g (6 * z) v) := by
  obtain ⟨h1, h2, h3, h4⟩ := h
  refine ⟨fun q hq => ?_, fun q hq => ?_, fun q hq => ?_, fun j hj => ?_⟩
  · obtain ⟨a1, a2, a3, a4⟩ := h1 q hq
    simp (disch := omega) only [upd_n, a2, a3, a4, and_true]
    by_cases e : q = z
    · subst e; rw [upd_s, upd_s]
    · simp (disch := omega) only [upd_n, a1]
  · simp (disch := omega) only [upd_n, h2 q hq]
  · simp (disch := omega) only [upd_n, h3 q hq]
  · simp (disch := omega) only [upd_n, h4 j hj]
theorem zr_e (h : zr_Rel Z f g) (hZ : Z ≤ 12) (hz : z < Z) : zr_Rel Z (upd f (12 + z) v) (upd g (6 * z + 1) v) := by
  obtain ⟨h1, h2, h3, h4⟩ := h
  refine ⟨fun q hq => ?_, fun q hq => ?_, fun q hq => ?_, fun j hj => ?_⟩
  · obtain ⟨a1, a2, a3, a4⟩ := h1 q hq
    simp (disch := omega) only [upd_n, a1, a3, a4, and_true, true_and]
    by_cases e : q = z
    · subst e; rw [upd_s, upd_s]
    · simp (disch := omega) only [upd_n, a2]
  · simp (disch := omega) only [upd_n, h2 q hq]
  · simp (disch := omega) only [upd_n, h3 q hq]
  · simp (disch := omega) only [upd_n, h4 j hj]
theorem zr_i (h : zr_Rel Z f g) (hZ : Z ≤ 12) (hz : z < Z) : zr_Rel Z (upd f (24 + z) v) (upd g (6 * z + 4) v) := by
  obtain ⟨h1, h2, h3, h4⟩ := h
  refine ⟨fun q hq => ?_, fun q hq => ?_, fun q hq => ?_, fun j hj => ?_⟩
  · obtain ⟨a1, a2, a3, a4⟩ := h1 q hq
    simp (disch := omega) only [upd_n, a1, a2, a4, and_true, true_and]
    by_cases e : q = z
    · subst e; rw [upd_s, upd_s]
    · simp (disch := omega) only [upd_n, a3]
  · simp (disch := omega) only [upd_n, h2 q hq]
  · simp (disch := omega) only [upd_n, h3 q hq]
  · simp (disch := omega) only [upd_n, h4 j hj]
theorem zr_t (h : zr_Rel Z f g) (hZ : Z ≤ 12) (hz : z < Z) : zr_Rel Z (upd f (36 + z) v) (upd g (6 * z + 5) v) := by
  obtain ⟨h1, h2, h3, h4⟩ := h
  refine ⟨fun q hq => ?_, fun q hq => ?_, fun q hq => ?_, fun j hj => ?_⟩
  · obtain ⟨a1, a2, a3, a4⟩ := h1 q hq
    simp (disch := omega) only [upd_n, a1, a2, a3, true_and]
    by_cases e : q = z
    · subst e; rw [upd_s, upd_s]
    · simp (disch := omega) only [upd_n, a4]
  · simp (disch := omega) only [upd_n, h2 q hq]
  · simp (disch := omega) only [upd_n, h3 q hq]
  · simp (disch := omega) only [upd_n, h4 j hj]
theorem zr_g {j : Nat} (h : zr_Rel Z f g) (hZ : Z ≤ 12) (hj : j < 7) : zr_Rel Z (upd f (50 + j) v) (upd g (72 + j) v) := by
  obtain ⟨h1, h2, h3, h4⟩ := h
  refine ⟨fun q hq => ?_, fun q hq => ?_, fun q hq => ?_, fun i hi => ?_⟩
  · obtain ⟨a1, a2, a3, a4⟩ := h1 q hq
    simp (disch := omega) only [upd_n, a1, a2, a3, a4, and_self]
  · by_cases e : q < Z
    · simp (disch := omega) only [upd_n, h2 q hq]
    · rw [upd_n (by omega), h2 q hq]; simp [e]
  · by_cases e : q < Z
    · simp (disch := omega) only [upd_n, h3 q hq]
    · rw [upd_n (by omega), h3 q hq]; simp [e]
  · by_cases e : i = j
    · subst e; rw [upd_s, upd_s]
    · simp (disch := omega) only [upd_n, h4 i hi]
/-- the set of the jammed, told anew for one zone -/
theorem zr_j {m : Int32} {on : Bool} (h : zr_Rel Z f g) (hZ : Z ≤ 12) (hz : z < Z) (hv : decide (v = 1) = on) (hm : ∀ q, q < 32 → bt m q = if q = z then on else bt (f 48) q) : zr_Rel Z (upd f 48 m) (upd g (6 * z + 2) v) := by
  obtain ⟨h1, h2, h3, h4⟩ := h
  refine ⟨fun q hq => ?_, fun q hq => ?_, fun q hq => ?_, fun i hi => ?_⟩
  · obtain ⟨a1, a2, a3, a4⟩ := h1 q hq
    simp (disch := omega) only [upd_n, a1, a2, a3, a4, and_self]
  · rw [upd_s, hm q hq]
    by_cases e : q = z
    · subst e; rw [upd_s, if_pos rfl, hv]; simp [hz]
    · rw [if_neg e, upd_n (by omega), h2 q hq]
  · simp (disch := omega) only [upd_n, h3 q hq]
  · simp (disch := omega) only [upd_n, h4 i hi]
theorem zr_s {m : Int32} {on : Bool} (h : zr_Rel Z f g) (hZ : Z ≤ 12) (hz : z < Z) (hv : decide (v = 1) = on) (hm : ∀ q, q < 32 → bt m q = if q = z then on else bt (f 49) q) : zr_Rel Z (upd f 49 m) (upd g (6 * z + 3) v) := by
  obtain ⟨h1, h2, h3, h4⟩ := h
  refine ⟨fun q hq => ?_, fun q hq => ?_, fun q hq => ?_, fun i hi => ?_⟩
  · obtain ⟨a1, a2, a3, a4⟩ := h1 q hq
    simp (disch := omega) only [upd_n, a1, a2, a3, a4, and_self]
  · simp (disch := omega) only [upd_n, h2 q hq]
  · rw [upd_s, hm q hq]
    by_cases e : q = z
    · subst e; rw [upd_s, if_pos rfl, hv]; simp [hz]
    · rw [if_neg e, upd_n (by omega), h3 q hq]
  · simp (disch := omega) only [upd_n, h4 i hi]
theorem zr_or1 {m : Int32} {z : Nat} (hz : z < 32) : ∀ q, q < 32 → bt (m ||| ((1 : Int32) <<< (nI z &&& 31))) q = if q = z then true else bt m q := by
  intro q hq
  rw [b_or, zb_one hz hq]
  by_cases e : q = z <;> simp [e]
theorem zr_an1 {m : Int32} {z : Nat} (hz : z < 32) : ∀ q, q < 32 → bt (m &&& (((1 : Int32) <<< (nI z &&& 31)) ^^^ (-1))) q = if q = z then false else bt m q := by
  intro q hq
  rw [b_and, zb_not _ hq, zb_one hz hq]
  by_cases e : q = z <;> simp [e]
end RL
theorem zn_sub1 {n : Nat} (h : 0 < n) : nI n - 1 = nI (n - 1) := by
  obtain ⟨k, rfl⟩ : ∃ k, n = k + 1 := ⟨n - 1, by omega⟩
  exact nI_pred k
/-- a loop that gathers a set, zone by zone -/
theorem zm_loop {F : Nat → Int32 → Int32 → Option (Int32 × zb_S)} {p : Nat → Bool} {Z : Nat} {S : zb_S} (hZ : Z ≤ 31) (step : ∀ n i m, i < Z → F (n + 1) m (nI i) = F n (if p i then m ||| ((1 : Int32) <<< (nI i &&& 31)) else m) (nI (i + 1))) (stop : ∀ n m, F (n + 1) m (nI Z) = some (m, S)) : ∀ n, Z < n → ∃ m, F n 0 (nI 0) = some (m, S) ∧ ∀ k, k < 32 → bt m k = (decide (k < Z) && p k) := by
  have key : ∀ (j n i : Nat) (m : Int32), i + j = Z → j < n → ∃ m', F n m (nI i) = some (m', S) ∧ ∀ k, k < 32 → bt m' k = (bt m k || (decide (i ≤ k ∧ k < Z) && p k)) := by
    intro j
    induction j with
    | zero =>
      intro n i m hi hn
      obtain ⟨n, rfl⟩ : ∃ q, n = q + 1 := ⟨n - 1, by omega⟩
      have e : i = Z := by omega
      subst e
      refine ⟨m, stop n m, fun k hk => ?_⟩
      have : ¬ (i ≤ k ∧ k < i) := by omega
      simp [this]
    | succ j ih =>
      intro n i m hi hn
      obtain ⟨n, rfl⟩ : ∃ q, n = q + 1 := ⟨n - 1, by omega⟩
      rw [step n i m (by omega)]
      obtain ⟨m', e1, e2⟩ := ih n (i + 1) (if p i then m ||| ((1 : Int32) <<< (nI i &&& 31)) else m) (by omega) (by omega)
      refine ⟨m', e1, fun k hk => ?_⟩
      rw [e2 k hk]
      by_cases hk2 : k = i
      · subst hk2
        have a1 : ¬ (k + 1 ≤ k ∧ k < Z) := by omega
        have a2 : (k ≤ k ∧ k < Z) := by omega
        by_cases h : p k = true
        · simp [a2, h, b_or, zb_one hk hk]
        · simp [h]
      · have a1 : (i + 1 ≤ k ∧ k < Z) ↔ (i ≤ k ∧ k < Z) := by omega
        by_cases h : p i = true
        · simp [h, b_or, zb_one (show i < 32 by omega) hk, hk2, a1]
        · simp [h, a1]
  intro n hn
  obtain ⟨m, e1, e2⟩ := key Z n 0 0 (by omega) hn
  exact ⟨m, e1, fun k hk => by rw [e2 k hk, b_0]; simp⟩
