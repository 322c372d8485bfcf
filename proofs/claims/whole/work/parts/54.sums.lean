section SU
/-! sums over sets -/
def zu_s (F : Nat → Int32) : Nat → Int32
  | 0 => 0
  | n + 1 => zu_s F n + F n
theorem zu_s_congr {F G : Nat → Int32} : ∀ n, (∀ m, m < n → F m = G m) → zu_s F n = zu_s G n := by
  intro n
  induction n with
  | zero => intro _; rfl
  | succ n ih => intro h; simp only [zu_s]; rw [ih (fun m hm => h m (by omega)), h n (by omega)]
theorem zu_s_zero {F : Nat → Int32} : ∀ n, (∀ m, m < n → F m = 0) → zu_s F n = 0 := by
  intro n
  induction n with
  | zero => intro _; rfl
  | succ n ih => intro h; simp only [zu_s]; rw [ih (fun m hm => h m (by omega)), h n (by omega)]; rfl
theorem zu_s_more {F : Nat → Int32} {a : Nat} : ∀ b, (∀ m, a ≤ m → m < a + b → F m = 0) → zu_s F (a + b) = zu_s F a := by
  intro b
  induction b with
  | zero => intro _; rfl
  | succ b ih =>
    intro h
    show zu_s F (a + b) + F (a + b) = _
    rw [ih (fun m h1 h2 => h m h1 (by omega)), h (a + b) (by omega) (by omega), Int32.add_zero]
theorem zu_s_add {F G : Nat → Int32} : ∀ n, zu_s (fun m => F m + G m) n = zu_s F n + zu_s G n := by
  intro n
  induction n with
  | zero => rfl
  | succ n ih =>
    simp only [zu_s]
    rw [ih, Int32.add_assoc, Int32.add_assoc, ← Int32.add_assoc (zu_s G n), Int32.add_comm (zu_s G n) (F n), Int32.add_assoc (F n)]
theorem zu_s_pair {F : Nat → Int32} : ∀ n, zu_s F (2 * n) = zu_s (fun m => F (2 * m) + F (2 * m + 1)) n := by
  intro n
  induction n with
  | zero => rfl
  | succ n ih =>
    show zu_s F (2 * n) + F (2 * n) + F (2 * n + 1) = zu_s (fun m => F (2 * m) + F (2 * m + 1)) n + (F (2 * n) + F (2 * n + 1))
    rw [ih, Int32.add_assoc]
def zu_k (b : Bool) (A : Nat → Bool) : Nat → Bool := fun i => if i = 0 then b else A (i - 1)
def zu_p : Nat → ((Nat → Bool) → Int32) → Int32
  | 0, f => f (fun _ => false)
  | k + 1, f => zu_p k (fun A => f (zu_k false A)) + zu_p k (fun A => f (zu_k true A))
def zu_b (m : Nat) : Nat → Bool := fun i => m.testBit i
theorem zu_b0 : zu_b 0 = fun _ => false := by funext i; simp [zu_b]
theorem zu_b2 (m : Nat) : zu_b (2 * m) = zu_k false (zu_b m) := by
  funext i
  unfold zu_b zu_k
  cases i with
  | zero => simp [Nat.testBit_zero]
  | succ i => rw [Nat.testBit_succ, if_neg (by omega), show 2 * m / 2 = m by omega]; rfl
theorem zu_b3 (m : Nat) : zu_b (2 * m + 1) = zu_k true (zu_b m) := by
  funext i
  unfold zu_b zu_k
  cases i with
  | zero => simp [Nat.testBit_zero]
  | succ i => rw [Nat.testBit_succ, if_neg (by omega), show (2 * m + 1) / 2 = m by omega]; rfl
theorem zu_sp_s : ∀ (k : Nat) (f : (Nat → Bool) → Int32), zu_s (fun m => f (zu_b m)) (2 ^ k) = zu_p k f := by
  intro k
  induction k with
  | zero => intro f; show 0 + f (zu_b 0) = f (fun _ => false); rw [zu_b0, Int32.zero_add]
  | succ k ih =>
    intro f
    rw [Nat.pow_succ, Nat.mul_comm, zu_s_pair]
    simp only [zu_b2, zu_b3]
    rw [zu_s_add (F := fun m => f (zu_k false (zu_b m))) (G := fun m => f (zu_k true (zu_b m)))]
    rw [ih (fun A => f (zu_k false A)), ih (fun A => f (zu_k true A))]
    rfl
theorem zu_p_zero : ∀ (k : Nat) (f : (Nat → Bool) → Int32), (∀ A, f A = 0) → zu_p k f = 0 := by
  intro k
  induction k with
  | zero => intro f h; exact h _
  | succ k ih => intro f h; show _ + _ = _; rw [ih _ (fun A => h _), ih _ (fun A => h _)]; rfl
/-- how many are ahead of one -/
def zu_r : (Nat → Bool) → Nat → Nat
  | _, 0 => 0
  | b, z + 1 => (if b 0 = true then 1 else 0) + zu_r (fun i => b (i + 1)) z
theorem zu_r_s : ∀ (z : Nat) (b : Nat → Bool), zu_r b (z + 1) = zu_r b z + (if b z = true then 1 else 0) := by
  intro z
  induction z with
  | zero => intro b; simp only [zu_r]; omega
  | succ z ih =>
    intro b
    show (if b 0 = true then 1 else 0) + zu_r (fun i => b (i + 1)) (z + 1) = _
    rw [ih]
    show _ = ((if b 0 = true then 1 else 0) + zu_r (fun i => b (i + 1)) z) + _
    omega
theorem zu_r_le {b : Nat → Bool} {z : Nat} : ∀ k, zu_r b z ≤ zu_r b (z + k) ∧ zu_r b (z + k) ≤ zu_r b z + k := by
  intro k
  induction k with
  | zero => exact ⟨Nat.le_refl _, Nat.le_refl _⟩
  | succ k ih =>
    have h := zu_r_s (z + k) b
    rw [show z + (k + 1) = z + k + 1 by omega]
    split at h <;> omega
theorem zu_r_lt {b : Nat → Bool} {z y : Nat} (h : b z = true) (hy : z < y) : zu_r b z < zu_r b y := by
  obtain ⟨k, rfl⟩ : ∃ k, y = z + 1 + k := ⟨y - (z + 1), by omega⟩
  have h1 := zu_r_s z b
  rw [if_pos h] at h1
  have h2 := (zu_r_le (b := b) (z := z + 1) k).1
  omega
theorem zu_r_inj {b : Nat → Bool} {z y : Nat} (hz : b z = true) (hy : b y = true) (h : zu_r b z = zu_r b y) : z = y := by
  rcases Nat.lt_trichotomy z y with q | q | q
  · have := zu_r_lt hz q; omega
  · exact q
  · have := zu_r_lt hy q; omega
theorem zu_r_sur {b : Nat → Bool} {i : Nat} : ∀ K, i < zu_r b K → ∃ z, z < K ∧ b z = true ∧ zu_r b z = i := by
  intro K
  induction K with
  | zero => intro h; exact absurd h (by simp [zu_r])
  | succ K ih =>
    intro h
    rw [zu_r_s] at h
    by_cases c : i < zu_r b K
    · obtain ⟨z, z1, z2, z3⟩ := ih c
      exact ⟨z, by omega, z2, z3⟩
    · by_cases d : b K = true
      · rw [if_pos d] at h
        exact ⟨K, by omega, d, by omega⟩
      · rw [if_neg d] at h; omega
def zu_sp (b A : Nat → Bool) : Nat → Bool := fun z => b z && A (zu_r b z)
theorem zu_sp1 {b A : Nat → Bool} {x : Bool} (h : b 0 = true) : zu_sp b (zu_k x A) = zu_k x (zu_sp (fun i => b (i + 1)) A) := by
  funext z
  unfold zu_sp zu_k
  cases z with
  | zero => simp [h, zu_r]
  | succ z =>
    show (b (z + 1) && if (if b 0 = true then 1 else 0) + zu_r (fun i => b (i + 1)) z = 0 then x else A ((if b 0 = true then 1 else 0) + zu_r (fun i => b (i + 1)) z - 1)) = _
    rw [if_pos h, if_neg (by omega), if_neg (by omega), show 1 + zu_r (fun i => b (i + 1)) z - 1 = zu_r (fun i => b (i + 1)) z by omega]
    rfl
theorem zu_sp0 {b A : Nat → Bool} (h : b 0 = false) : zu_sp b A = zu_k false (zu_sp (fun i => b (i + 1)) A) := by
  funext z
  unfold zu_sp zu_k
  cases z with
  | zero => simp [h]
  | succ z =>
    show (b (z + 1) && A ((if b 0 = true then 1 else 0) + zu_r (fun i => b (i + 1)) z)) = _
    rw [if_neg (by rw [h]; decide), Nat.zero_add, if_neg (by omega)]
    rfl
theorem zu_p_sp : ∀ (K : Nat) (b : Nat → Bool) (f : (Nat → Bool) → Int32), (∀ A z, z < K → A z = true → b z = false → f A = 0) → zu_p K f = zu_p (zu_r b K) (fun A => f (zu_sp b A)) := by
  intro K
  induction K with
  | zero =>
    intro b f h
    show f (fun _ => false) = f (zu_sp b (fun _ => false))
    congr 1
    funext z
    simp [zu_sp]
  | succ K ih =>
    intro b f h
    have h' : ∀ x, ∀ A z, z < K → A z = true → b (z + 1) = false → f (zu_k x A) = 0 := by
      intro x A z hz hA hb
      exact h _ (z + 1) (by omega) (by unfold zu_k; rw [if_neg (by omega)]; exact hA) hb
    show zu_p K (fun A => f (zu_k false A)) + zu_p K (fun A => f (zu_k true A)) = zu_p ((if b 0 = true then 1 else 0) + zu_r (fun i => b (i + 1)) K) _
    by_cases c : b 0 = true
    · rw [if_pos c, Nat.add_comm 1]
      show _ = zu_p (zu_r (fun i => b (i + 1)) K) (fun A => f (zu_sp b (zu_k false A))) + zu_p (zu_r (fun i => b (i + 1)) K) (fun A => f (zu_sp b (zu_k true A)))
      rw [ih (fun i => b (i + 1)) (fun A => f (zu_k false A)) (h' false), ih (fun i => b (i + 1)) (fun A => f (zu_k true A)) (h' true)]
      simp only [zu_sp1 c]
    · have c0 : b 0 = false := by simpa using c
      rw [if_neg c, Nat.zero_add, zu_p_zero K (fun A => f (zu_k true A)) (fun A => h _ 0 (by omega) (by simp [zu_k]) c0), Int32.add_zero, ih (fun i => b (i + 1)) (fun A => f (zu_k false A)) (h' false)]
      simp only [zu_sp0 c0]
/-- how many there are -/
def zu_c (A : Nat → Bool) : Nat → Nat
  | 0 => 0
  | k + 1 => zu_c A k + (if A k = true then 1 else 0)
theorem zu_c_sp {b A : Nat → Bool} : ∀ K, zu_c (zu_sp b A) K = zu_c A (zu_r b K) := by
  intro K
  induction K with
  | zero => rfl
  | succ K ih =>
    rw [zu_r_s]
    simp only [zu_c]
    rw [ih]
    by_cases c : b K = true
    · rw [if_pos c]
      simp only [zu_c, zu_sp, c, Bool.true_and]
    · rw [if_neg c]
      simp [zu_sp, c]
theorem zu_c_le {A : Nat → Bool} : ∀ K, zu_c A K ≤ K := by
  intro K
  induction K with
  | zero => exact Nat.le_refl _
  | succ K ih => simp only [zu_c]; split <;> omega
theorem zu_c_more {A : Nat → Bool} {a : Nat} : ∀ k, (∀ i, a ≤ i → A i = false) → zu_c A (a + k) = zu_c A a := by
  intro k h
  induction k with
  | zero => rfl
  | succ k ih =>
    show zu_c A (a + k) + (if A (a + k) = true then 1 else 0) = _
    rw [ih, h (a + k) (by omega)]; rfl
theorem zu_c_lt {A : Nat → Bool} {i : Nat} (hA : A i = false) : ∀ K, i < K → zu_c A K + 1 ≤ K := by
  intro K
  induction K with
  | zero => intro h; omega
  | succ K ih =>
    intro h
    simp only [zu_c]
    by_cases c : i = K
    · rw [← c, if_neg (by rw [hA]; decide)]
      have := zu_c_le (A := A) i
      omega
    · have := ih (by omega)
      split <;> omega
theorem zu_c_r {b : Nat → Bool} : ∀ K, zu_c b K = zu_r b K := by
  intro K
  induction K with
  | zero => rfl
  | succ K ih => rw [zu_r_s]; simp only [zu_c]; rw [ih]
theorem zu_c_congr {A B : Nat → Bool} : ∀ K, (∀ i, i < K → A i = B i) → zu_c A K = zu_c B K := by
  intro K
  induction K with
  | zero => intro _; rfl
  | succ K ih => intro h; simp only [zu_c]; rw [ih (fun i hi => h i (by omega)), h K (by omega)]
theorem zu_c_sub {A b : Nat → Bool} : ∀ K, (∀ i, i < K → A i = true → b i = true) → zu_c A K ≤ zu_r b K := by
  intro K
  induction K with
  | zero => intro _; exact Nat.le_refl _
  | succ K ih =>
    intro h
    have h1 := ih (fun i hi => h i (by omega))
    have h2 := h K (by omega)
    rw [zu_r_s]
    simp only [zu_c]
    by_cases c : A K = true
    · rw [if_pos c, if_pos (h2 c)]; omega
    · rw [if_neg c]; omega
theorem zu_c_sub1 {A b : Nat → Bool} {w : Nat} (hA : A w = false) (hb : b w = true) : ∀ K, w < K → (∀ i, i < K → A i = true → b i = true) → zu_c A K + 1 ≤ zu_r b K := by
  intro K
  induction K with
  | zero => intro h; omega
  | succ K ih =>
    intro hw h
    have h2 := h K (by omega)
    rw [zu_r_s]
    simp only [zu_c]
    by_cases e : w = K
    · have h1 := zu_c_sub K (fun i hi => h i (by omega))
      rw [← e, if_neg (by rw [hA]; decide), if_pos hb]
      rw [e]; omega
    · have h1 := ih (by omega) (fun i hi => h i (by omega))
      by_cases c : A K = true
      · rw [if_pos c, if_pos (h2 c)]; omega
      · rw [if_neg c]; omega
theorem zu_dif (o a b : Int32) : (o + a) - (o + b) = a - b := by
  rw [Int32.sub_eq_add_neg, Int32.neg_add, Int32.sub_eq_add_neg, Int32.sub_eq_add_neg, Int32.add_comm o a, Int32.add_assoc, ← Int32.add_assoc o, Int32.add_right_neg, Int32.zero_add]
/-! bounds -/
def zu_B (c : Nat) (x : Int32) : Prop := -(c : Int) ≤ x.toInt ∧ x.toInt ≤ (c : Int)
theorem zu_B_0 : zu_B 0 0 := by unfold zu_B; decide
theorem zu_B_le {a b : Nat} {x : Int32} (h : zu_B a x) (hab : a ≤ b) : zu_B b x := by unfold zu_B at *; omega
theorem zu_bm {n : Int} (h1 : -2147483648 ≤ n) (h2 : n < 2147483648) : n.bmod (2 ^ 32) = n := by
  rw [Int.bmod_def]
  have e : ((2 ^ 32 : Nat) : Int) = 4294967296 := by decide
  rw [e]
  split <;> omega
theorem zu_B_add {a b : Nat} {x y : Int32} (hx : zu_B a x) (hy : zu_B b y) (h : a + b < 2147483648) : zu_B (a + b) (x + y) := by
  unfold zu_B at *
  rw [Int32.toInt_add, zu_bm (by omega) (by omega)]
  omega
theorem zu_B_mul {a b : Nat} {x y : Int32} (hx : zu_B a x) (hy : zu_B b y) (h : a * b < 2147483648) : zu_B (a * b) (x * y) := by
  unfold zu_B at *
  have h1 : x.toInt.natAbs ≤ a := by omega
  have h2 : y.toInt.natAbs ≤ b := by omega
  have h3 : (x.toInt * y.toInt).natAbs ≤ a * b := by rw [Int.natAbs_mul]; exact Nat.mul_le_mul h1 h2
  rw [Int32.toInt_mul, zu_bm (by omega) (by omega)]
  omega
theorem zu_B_p {c : Nat} : ∀ (k : Nat) (f : (Nat → Bool) → Int32), (∀ A, zu_B c (f A)) → 2 ^ k * c < 2147483648 → zu_B (2 ^ k * c) (zu_p k f) := by
  intro k
  induction k with
  | zero => intro f h _; rw [Nat.pow_zero, Nat.one_mul]; exact h _
  | succ k ih =>
    intro f h hc
    have e : 2 ^ (k + 1) * c = 2 ^ k * c + 2 ^ k * c := by rw [Nat.pow_succ, Nat.mul_comm (2 ^ k) 2, Nat.mul_assoc, Nat.two_mul]
    rw [e] at hc ⊢
    exact zu_B_add (ih _ (fun A => h _) (by omega)) (ih _ (fun A => h _) (by omega)) hc
end SU
