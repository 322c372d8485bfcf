section SA
def zl_ti : List (List Int32) := [[], [], [], [2, 0, 2, 1, 0, 0], [], [2, 0, 2, 1, 0, 0], [], [], [nI 14, 0], [], [nI 2, 0], [], [nI 9, 0], [], [], [], [], [], [], [], [], [0, 0, 0, 0, 2, 0, 1]]
def zl_ta : List (Nat → Int32) := [fun _ => 0, fun _ => 0, fun _ => 0, fun _ => 0, upd (fun _ => 0) 50 1, fun _ => 0, upd (fun _ => 0) 50 1, fun _ => 0, fun _ => 0, fun _ => 0, fun _ => 0, fun _ => 0, fun _ => 0, fun _ => 0, fun _ => 0, fun _ => 0, fun _ => 0, fun _ => 0, fun _ => 0, fun _ => 0, fun _ => 0, fun _ => 0, fun _ => 0, fun _ => 0, upd (fun _ => 0) 72 1]
def zl_S0 : zb_S := (fun o k => (zl_ti.getD o []).getD k 0, fun _ _ => 0, fun o => zl_ta.getD o (fun _ => 0))
theorem zl_I0 : zi_I zl_S0 := by
  have hl : zc_lim 2 0 1 := ⟨by omega, by omega, by omega, by omega, by omega⟩
  refine ⟨2, 0, 1, 0, 0, 0, 0, hl, ⟨⟨rfl, rfl, rfl, rfl, rfl⟩, rfl, rfl, rfl⟩, ⟨?_, ?_⟩, ⟨by omega, rfl, rfl, fun k hk => absurd hk (by omega)⟩, ⟨by omega, by omega, rfl, rfl, rfl, rfl, fun k hk => absurd hk (by omega)⟩, ⟨rfl, fun j hj => Or.inr ⟨b_0 j, rfl⟩⟩, ⟨by omega, rfl, rfl, fun k hk => absurd hk (by omega)⟩, ⟨rfl, rfl⟩⟩
  · show zr_Rel (2 + 0) (upd (fun _ => 0) 50 1) (upd (fun _ => 0) 72 1)
    exact zr_g (j := 0) (zr_zero (by omega) (fun _ _ => rfl) (fun _ _ => rfl)) (by omega) (by omega)
  · show zr_wf (2 + 0) (upd (fun _ => 0) 72 1)
    have e : ∀ i, i ≠ 72 → upd (fun _ => (0 : Int32)) 72 1 i = 0 := fun i hi => upd_n hi
    refine ⟨fun z hz => ⟨?_, Or.inl (e _ (by omega)), Or.inl (e _ (by omega)), Or.inl (e _ (by omega))⟩, Or.inr (upd_s _ _ _), Or.inl (e _ (by omega)), ⟨0, by omega, e _ (by omega)⟩, ⟨0, by omega, e _ (by omega)⟩⟩
    rw [e _ (by omega)]; decide
theorem zi_goodL {y2 : MethodName} {cc2 : ByteArray} {nL2 : Nat} {r2 : Option FieldType} (w5 : Cond.code y2 cc2 nL2 r2 ∈ wsL_law) : GoodIn wsL_law (zb_ws y2 cc2 nL2 r2) := by
  intro w hw
  rcases List.mem_cons.mp hw with e | e
  · rw [e]; exact zb_gd w5
  · exact zb_gd e
theorem zl_arr {args : Array Value} {s : State} {ty : FieldType} (h : (Cond.arrayClass ty).before args s = true) : ∃ cA : ClassId, ArrOfT s cA ty ∧ s.vm.findClass ("[" ++ ty.toString) = some cA := by
  obtain ⟨cA, kA, comp, h1, h2, h3⟩ := Cond.arrayClass_spec h
  exact ⟨cA, fun n z => ⟨fun k h => (by cases h), kA, h2, comp, h3⟩, h1⟩
/-- the static rows -/
theorem zl_st {b : Nat} {s : State} (hts : ∀ w ∈ lw_tbl, w.before #[Value.ref b] s = true) (hgv : (Jvm.Cond.and given_1 narrow_1).before #[Value.ref b] s = true) : ∃ tF tT : Nat, va_Z "ZoneBelt" "FACTORIALS" "[I" (.ref tF) (zl_A s) s s.heap ∧ va_T .int tF 7 (fun k => .int (zb_fac k)) (zl_A s) s s.heap ∧ va_Z "ZoneBelt" "THOUSANDS" "[J" (.ref tT) (zl_A s) s s.heap ∧ va_T .long tT 5 (fun k => .long (zb_tho k)) (zl_A s) s s.heap := by
  have hs := flat_of_before _ hgv
  have hA : ∀ a : Nat, a < s.heap.size → ¬ zl_A s a := fun a h => Nat.not_le.mpr h
  have hini : (Cond.initialized "ZoneBelt").before #[Value.ref b] s = true := hts _ (wsL_law_in _ zw_2)
  obtain ⟨tF, eF, hTF⟩ := va_Tof (tm := Term.static "ZoneBelt" "FACTORIALS" "[I") (ty := .int) (N := 7) (f := fun k => .int (zb_fac k)) (A := zl_A s) (by omega) (hs _ (by decide +kernel)) (va_eqt (hs (Cond.eq (Term.length (Term.static "ZoneBelt" "FACTORIALS" "[I")) (.int 7)) (by decide +kernel))) (fun j hj => by
    match j, hj with
    | 0, _ => exact va_eqt (hs (Cond.eq (Term.elem (Term.static "ZoneBelt" "FACTORIALS" "[I") (.int 0)) (.int 1)) (by decide +kernel))
    | 1, _ => exact va_eqt (hs (Cond.eq (Term.elem (Term.static "ZoneBelt" "FACTORIALS" "[I") (.int 1)) (.int 1)) (by decide +kernel))
    | 2, _ => exact va_eqt (hs (Cond.eq (Term.elem (Term.static "ZoneBelt" "FACTORIALS" "[I") (.int 2)) (.int 2)) (by decide +kernel))
    | 3, _ => exact va_eqt (hs (Cond.eq (Term.elem (Term.static "ZoneBelt" "FACTORIALS" "[I") (.int 3)) (.int 6)) (by decide +kernel))
    | 4, _ => exact va_eqt (hs (Cond.eq (Term.elem (Term.static "ZoneBelt" "FACTORIALS" "[I") (.int 4)) (.int 24)) (by decide +kernel))
    | 5, _ => exact va_eqt (hs (Cond.eq (Term.elem (Term.static "ZoneBelt" "FACTORIALS" "[I") (.int 5)) (.int 120)) (by decide +kernel))
    | 6, _ => exact va_eqt (hs (Cond.eq (Term.elem (Term.static "ZoneBelt" "FACTORIALS" "[I") (.int 6)) (.int 720)) (by decide +kernel))
    | j + 7, h => exact absurd h (by omega)) hA
  obtain ⟨tT, eT, hTT⟩ := va_Tof (tm := Term.static "ZoneBelt" "THOUSANDS" "[J") (ty := .long) (N := 5) (f := fun k => .long (zb_tho k)) (A := zl_A s) (by omega) (hs _ (by decide +kernel)) (va_eqt (hs (Cond.eq (Term.length (Term.static "ZoneBelt" "THOUSANDS" "[J")) (.int 5)) (by decide +kernel))) (fun j hj => by
    match j, hj with
    | 0, _ => exact va_eqtl (hs (Cond.eq (Term.elem (Term.static "ZoneBelt" "THOUSANDS" "[J") (.int 0)) (.long 1)) (by decide +kernel))
    | 1, _ => exact va_eqtl (hs (Cond.eq (Term.elem (Term.static "ZoneBelt" "THOUSANDS" "[J") (.int 1)) (.long 1000)) (by decide +kernel))
    | 2, _ => exact va_eqtl (hs (Cond.eq (Term.elem (Term.static "ZoneBelt" "THOUSANDS" "[J") (.int 2)) (.long 1000000)) (by decide +kernel))
    | 3, _ => exact va_eqtl (hs (Cond.eq (Term.elem (Term.static "ZoneBelt" "THOUSANDS" "[J") (.int 3)) (.long 1000000000)) (by decide +kernel))
    | 4, _ => exact va_eqtl (hs (Cond.eq (Term.elem (Term.static "ZoneBelt" "THOUSANDS" "[J") (.int 4)) (.long 1000000000000)) (by decide +kernel))
    | j + 5, h => exact absurd h (by omega)) hA
  exact ⟨tF, tT, va_Zref (hts _ (List.mem_append_right _ (List.mem_of_getElem? (i := 506) (by decide +kernel)))) hini eF hA, hTF, va_Zref (hts _ (List.mem_append_right _ (List.mem_of_getElem? (i := 438) (by decide +kernel)))) hini eT hA, hTT⟩
theorem zl_pic {D : va_G} {cI cZ : ClassId} {tF tT : Nat} {q0 q1 q2 q3 q4 q5 q6 q7 q8 q9 q10 q11 q12 q13 q14 q15 q16 q17 q18 q19 q20 m0 m1 m2 m3 m4 m5 m6 m7 m8 m9 m10 : Nat} : zb_pic ((fun i => [q0, q1, q2, q3, q4, q5, q6, q7, q8, q9, q10, q11, q12, q13, q14, q15, q16, q17, q18, q19, q20, m0, m1, m2, m3, m4, m5, m6, m7, m8, m9, m10].getD i 0), D, cI, cZ, tF, tT) zl_S0 = [(q0, .inr (5, [.ref q1, .ref q3, .ref q5, .ref q7, .ref q10, .int 0, .ref q12, .ref q14, .ref q18, .ref q19, .ref q20, .long 0])), (q1, .inr (4, [.ref q2, .int 0])), (q2, .inl (cI, 40, .inl (fun _ => 0))), (q3, .inr (1, [.int 2, .int 0, .int 2, .int 1, .ref q4, .int 0])), (q4, .inl (cI, 57, .inl (upd (fun _ => 0) 50 1))), (q5, .inr (1, [.int 2, .int 0, .int 2, .int 1, .ref q6, .int 0])), (q6, .inl (cI, 57, .inl (upd (fun _ => 0) 50 1))), (q7, .inr (0, [.ref q8, .int 0, .int 0])), (q8, .inr (3, [.int (nI 14), .ref q9])), (q9, .inl (cI, 14 * 57, .inl (fun _ => 0))), (q10, .inr (3, [.int (nI 2), .ref q11])), (q11, .inl (cI, 2 * 57, .inl (fun _ => 0))), (q12, .inr (3, [.int (nI 9), .ref q13])), (q13, .inl (cI, 9 * 57, .inl (fun _ => 0))), (q14, .inr (2, [.ref q15, .ref q16, .ref q17, .int 0])), (q15, .inl (cI, 6, .inl (fun _ => 0))), (q16, .inl (cI, 6, .inl (fun _ => 0))), (q17, .inl (cI, 6, .inl (fun _ => 0))), (q18, .inl (cI, 4, .inl (fun _ => 0))), (q19, .inl (cI, 6, .inl (fun _ => 0))), (q20, .inl (cI, 64, .inl (fun _ => 0))), (m0, .inr (6, [.int 0, .ref m1, .int 0, .int 0, .int 2, .int 0, .int 1, .int 0, .int 0, .int 0, .ref m2, .ref m3, .ref m4, .ref m5, .int 0, .ref m6, .ref m7, .int 0, .ref m8, .ref m9, .ref m10, .long 0, .int 0, .int 0, .int 0, .int 0, .int 0])), (m1, .inl (cI, 40, .inl (fun _ => 0))), (m2, .inl (cI, 79, .inl (fun _ => 0))), (m3, .inl (cI, 79, .inl (upd (fun _ => 0) 72 1))), (m4, .inl (cI, 79, .inl (fun _ => 0))), (m5, .inl (cI, 1106, .inl (fun _ => 0))), (m6, .inl (cI, 158, .inl (fun _ => 0))), (m7, .inl (cZ, 2, .inl (fun _ => 0))), (m8, .inl (cI, 6, .inl (fun _ => 0))), (m9, .inl (cI, 6, .inl (fun _ => 0))), (m10, .inl (cI, 6, .inl (fun _ => 0)))] := by rfl
set_option maxHeartbeats 4000000 in
set_option maxRecDepth 100000 in
theorem whole_start {p : Program} {e : Env} {s : State} {m : MethodId} {below : List Frame} {meth : Method} {c : Code} (l : Launch) (hflags : l.flags = flags0) {b L : Nat} {xs : Nat → Int32} (hL : L ≤ 2048) (C0 : lw_At p s m meth c b L xs) : W p l e room_1 s m #[Value.ref b] below meth c s.heap [] 0 0 (lw_Z below #[Value.ref b] s) (entryFrame m ([Value.ref b] : List Value).toArray 4) := by
  obtain ⟨hx, hb, hr, hml, hown, hts0, hX, hbl, hlocks, hgv⟩ := id C0
  have hts : ∀ w ∈ wsL_law, w.before #[Value.ref b] s = true := fun w h => hts0 w (wsL_law_in w h)
  have hA : ∀ q : Nat, s.heap.size ≤ q → zl_A s q := fun _ h => h
  obtain ⟨c0, i0, hk0⟩ := u_known (C := RX0) (T := TX0) (N := 3) (n := 3) hts inlX0 (hts _ zw_23)
  obtain ⟨c1, i1, hk1⟩ := u_known (C := RX1) (T := TX1) (N := 6) (n := 6) hts inlX1 (hts _ zw_18)
  obtain ⟨c2, i2, hk2⟩ := u_known (C := RX2) (T := TX2) (N := 4) (n := 4) hts inlX2 (hts _ zw_33)
  obtain ⟨c3, i3, hk3⟩ := u_known (C := RX3) (T := TX3) (N := 2) (n := 2) hts inlX3 (hts _ zw_27)
  obtain ⟨c4, i4, hk4⟩ := u_known (C := RX4) (T := TX4) (N := 2) (n := 2) hts inlX4 (hts _ zw_14)
  obtain ⟨c5, i5, hk5⟩ := u_known (C := RX5) (T := TX5) (N := 12) (n := 12) hts inlX5 (hts _ zw_1)
  obtain ⟨c6, i6, hk6⟩ := u_known (C := RX6) (T := TX6) (N := 27) (n := 27) hts inlX6 (hts _ zw_4)
  obtain ⟨cI, aI, fI⟩ := zl_arr (hts _ zw_36)
  obtain ⟨cZ, aZ, fZ⟩ := zl_arr (hts _ zw_96)
  obtain ⟨tF, tT, hZF, hTF, hZT, hTT⟩ := zl_st hts0 hgv
  obtain ⟨D, hKD⟩ : ∃ D : va_G, va_K D vwCl [(cI, .int), (cZ, .boolean)] s := by
    refine ⟨(fun k => [c0, c1, c2, c3, c4, c5, c6].getD k c0, fun k => [i0, i1, i2, i3, i4, i5, i6].getD k i0), fun k q hq => ?_, fun k q hq => ?_⟩
    · match k, hq with
      | 0, hq => cases hq; exact hk0
      | 1, hq => cases hq; exact hk1
      | 2, hq => cases hq; exact hk2
      | 3, hq => cases hq; exact hk3
      | 4, hq => cases hq; exact hk4
      | 5, hq => cases hq; exact hk5
      | 6, hq => cases hq; exact hk6
      | k + 7, hq => simp [vwCl] at hq
    · match k, hq with
      | 0, hq => cases hq; exact ⟨aI, fI⟩
      | 1, hq => cases hq; exact ⟨aZ, fZ⟩
      | k + 2, hq => simp at hq
  have hK := hKD
  have hS : va_S (zl_A s) s.heap s.heap [] := va_S.rf
  have hP : va_P D vwCl [] s.heap := fun k q h => by simp at h
  have hD : va_D (zl_A s) [] := ⟨fun i j p q h => by simp at h, fun k q h => by simp at h⟩
  have hl := lv_entry ([.ref b]) (n := 4) (Nat.le_of_ble_eq_true rfl)
  rw [lg_entry_eq]
  generalize (lg_sl ([.ref b]) ++ List.replicate (4 - (lg_sl ([.ref b])).length) Slot.unset).toArray = ls at hl ⊢
  have hl : lv_has ls 4 [(0, .ref b)] := hl
  refine va_new (ci := 5) (fs := [.null, .null, .null, .null, .null, .int 0, .null, .null, .null, .null, .null, .long 0]) (C := RX5) (T := TX5) (N := 12) hx hb hts inlX5 tyX5 tyX5_ok hown (hts _ zw_0) (hts _ zw_1) (hts _ zw_2) hK hP hD hS hA rfl (fun j hj => by rcases (show j = 0 ∨ j = 1 ∨ j = 2 ∨ j = 3 ∨ j = 4 ∨ j = 5 ∨ j = 6 ∨ j = 7 ∨ j = 8 ∨ j = 9 ∨ j = 10 ∨ j = 11 by omega) with rfl | rfl | rfl | rfl | rfl | rfl | rfl | rfl | rfl | rfl | rfl | rfl <;> rfl) (Nat.le_of_ble_eq_true rfl) (Nat.le_of_ble_eq_true rfl) dL_law_0 (fun q0 H hP hD hS => ?_)
  have hP : va_P D vwCl [(q0, .inr (5, [.null, .null, .null, .null, .null, .int 0, .null, .null, .null, .null, .null, .long 0]))] H := hP
  have hD : va_D (zl_A s) [(q0, .inr (5, [.null, .null, .null, .null, .null, .int 0, .null, .null, .null, .null, .null, .long 0]))] := hD
  refine W.widen (k := 1) (n := 12) (Nat.le_of_ble_eq_true rfl) (Nat.le_of_ble_eq_true rfl) ?_
  refine lv_dup hx hb dL_law_3 rfl ?_
  have hPc := hP.sub (ws' := [(q0, .inr (5, [.null, .null, .null, .null, .null, .int 0, .null, .null, .null, .null, .null, .long 0]))]) [0] rfl
  have hDc := hD.sub (ws' := [(q0, .inr (5, [.null, .null, .null, .null, .null, .int 0, .null, .null, .null, .null, .null, .long 0]))]) [0] (by decide) rfl
  have hFc := va_free (wc := [(q0, .inr (5, [.null, .null, .null, .null, .null, .int 0, .null, .null, .null, .null, .null, .long 0]))]) hD hS hA [0] rfl
  refine va_callv (va_runI (As := []) (rest := [.ref q0]) ⟨hx, hb, hml, hown, hts⟩ (c_X5 l D cI cZ q0 H.size) (cwI 0 hts (zi_goodL zw_9) rfl rfl rfl (hts _ zw_2) (hts _ zw_7) (hts _ zw_8) rfl (by decide +kernel) ⟨Nat.le_of_ble_eq_true rfl, Nat.le_of_ble_eq_true rfl⟩) ⟨zi_blind, fun U hU hW => ⟨rfl, by rw [hU], by rw [hU]; exact hPc, va_K.moved hW.alike hK, hDc.weaken (fun _ _ _ _ => trivial)⟩⟩ rfl rfl hl.1 rfl (lv_room (Nat.le_of_ble_eq_true rfl)) dL_law_4 ⟨Nat.le_of_ble_eq_true rfl, Nat.le_of_ble_eq_true rfl⟩) hS (fun q _ h => hFc q h) hFc (fun u t H1 locs ht hvm hw hB hz1 hk1 hS => ?_)
  obtain ⟨q1, q2, q3, q4, q5, q6, q7, q8, q9, q10, q11, q12, q13, q14, q15, q16, q17, q18, q19, q20, hP1, hD1⟩ := hB
  rw [ht] at hP1
  obtain ⟨hP, hD⟩ := va_join (wr := []) (w1 := [(q0, .inr (5, [.ref q1, .ref q3, .ref q5, .ref q7, .ref q10, .int 0, .ref q12, .ref q14, .ref q18, .ref q19, .ref q20, .long 0])), (q1, .inr (4, [.ref q2, .int 0])), (q2, .inl (cI, 40, .inl (fun _ => 0))), (q3, .inr (1, [.int 2, .int 0, .int 2, .int 1, .ref q4, .int 0])), (q4, .inl (cI, 57, .inl (upd (fun _ => 0) 50 1))), (q5, .inr (1, [.int 2, .int 0, .int 2, .int 1, .ref q6, .int 0])), (q6, .inl (cI, 57, .inl (upd (fun _ => 0) 50 1))), (q7, .inr (0, [.ref q8, .int 0, .int 0])), (q8, .inr (3, [.int (nI 14), .ref q9])), (q9, .inl (cI, 14 * 57, .inl (fun _ => 0))), (q10, .inr (3, [.int (nI 2), .ref q11])), (q11, .inl (cI, 2 * 57, .inl (fun _ => 0))), (q12, .inr (3, [.int (nI 9), .ref q13])), (q13, .inl (cI, 9 * 57, .inl (fun _ => 0))), (q14, .inr (2, [.ref q15, .ref q16, .ref q17, .int 0])), (q15, .inl (cI, 6, .inl (fun _ => 0))), (q16, .inl (cI, 6, .inl (fun _ => 0))), (q17, .inl (cI, 6, .inl (fun _ => 0))), (q18, .inl (cI, 4, .inl (fun _ => 0))), (q19, .inl (cI, 6, .inl (fun _ => 0))), (q20, .inl (cI, 64, .inl (fun _ => 0)))]) hP hD [0] [] rfl rfl (by decide) (by decide) hk1 hFc hP1 hD1
  generalize H1 = H at hP hS ⊢
  have hP : va_P D vwCl [(q0, .inr (5, [.ref q1, .ref q3, .ref q5, .ref q7, .ref q10, .int 0, .ref q12, .ref q14, .ref q18, .ref q19, .ref q20, .long 0])), (q1, .inr (4, [.ref q2, .int 0])), (q2, .inl (cI, 40, .inl (fun _ => 0))), (q3, .inr (1, [.int 2, .int 0, .int 2, .int 1, .ref q4, .int 0])), (q4, .inl (cI, 57, .inl (upd (fun _ => 0) 50 1))), (q5, .inr (1, [.int 2, .int 0, .int 2, .int 1, .ref q6, .int 0])), (q6, .inl (cI, 57, .inl (upd (fun _ => 0) 50 1))), (q7, .inr (0, [.ref q8, .int 0, .int 0])), (q8, .inr (3, [.int (nI 14), .ref q9])), (q9, .inl (cI, 14 * 57, .inl (fun _ => 0))), (q10, .inr (3, [.int (nI 2), .ref q11])), (q11, .inl (cI, 2 * 57, .inl (fun _ => 0))), (q12, .inr (3, [.int (nI 9), .ref q13])), (q13, .inl (cI, 9 * 57, .inl (fun _ => 0))), (q14, .inr (2, [.ref q15, .ref q16, .ref q17, .int 0])), (q15, .inl (cI, 6, .inl (fun _ => 0))), (q16, .inl (cI, 6, .inl (fun _ => 0))), (q17, .inl (cI, 6, .inl (fun _ => 0))), (q18, .inl (cI, 4, .inl (fun _ => 0))), (q19, .inl (cI, 6, .inl (fun _ => 0))), (q20, .inl (cI, 64, .inl (fun _ => 0)))] H := hP
  have hD : va_D (zl_A s) [(q0, .inr (5, [.ref q1, .ref q3, .ref q5, .ref q7, .ref q10, .int 0, .ref q12, .ref q14, .ref q18, .ref q19, .ref q20, .long 0])), (q1, .inr (4, [.ref q2, .int 0])), (q2, .inl (cI, 40, .inl (fun _ => 0))), (q3, .inr (1, [.int 2, .int 0, .int 2, .int 1, .ref q4, .int 0])), (q4, .inl (cI, 57, .inl (upd (fun _ => 0) 50 1))), (q5, .inr (1, [.int 2, .int 0, .int 2, .int 1, .ref q6, .int 0])), (q6, .inl (cI, 57, .inl (upd (fun _ => 0) 50 1))), (q7, .inr (0, [.ref q8, .int 0, .int 0])), (q8, .inr (3, [.int (nI 14), .ref q9])), (q9, .inl (cI, 14 * 57, .inl (fun _ => 0))), (q10, .inr (3, [.int (nI 2), .ref q11])), (q11, .inl (cI, 2 * 57, .inl (fun _ => 0))), (q12, .inr (3, [.int (nI 9), .ref q13])), (q13, .inl (cI, 9 * 57, .inl (fun _ => 0))), (q14, .inr (2, [.ref q15, .ref q16, .ref q17, .int 0])), (q15, .inl (cI, 6, .inl (fun _ => 0))), (q16, .inl (cI, 6, .inl (fun _ => 0))), (q17, .inl (cI, 6, .inl (fun _ => 0))), (q18, .inl (cI, 4, .inl (fun _ => 0))), (q19, .inl (cI, 6, .inl (fun _ => 0))), (q20, .inl (cI, 64, .inl (fun _ => 0)))] := hD
  refine W.widen (k := 21) (n := 1710) (Nat.le_of_ble_eq_true rfl) (Nat.le_of_ble_eq_true rfl) ?_
  refine lv_astore_n (lv' := [(1, .ref q0), (0, .ref b)]) hx hb dL_law_7 rfl hl (by decide) rfl (fun ls hl => ?_)
  refine va_new (ci := 6) (fs := [.int 0, .null, .int 0, .int 0, .int 0, .int 0, .int 0, .int 0, .int 0, .int 0, .null, .null, .null, .null, .int 0, .null, .null, .int 0, .null, .null, .null, .long 0, .int 0, .int 0, .int 0, .int 0, .int 0]) (C := RX6) (T := TX6) (N := 27) hx hb hts inlX6 tyX6 tyX6_ok hown (hts _ zw_3) (hts _ zw_4) (hts _ zw_5) hK hP hD hS hA rfl (fun j hj => by rcases (show j = 0 ∨ j = 1 ∨ j = 2 ∨ j = 3 ∨ j = 4 ∨ j = 5 ∨ j = 6 ∨ j = 7 ∨ j = 8 ∨ j = 9 ∨ j = 10 ∨ j = 11 ∨ j = 12 ∨ j = 13 ∨ j = 14 ∨ j = 15 ∨ j = 16 ∨ j = 17 ∨ j = 18 ∨ j = 19 ∨ j = 20 ∨ j = 21 ∨ j = 22 ∨ j = 23 ∨ j = 24 ∨ j = 25 ∨ j = 26 by omega) with rfl | rfl | rfl | rfl | rfl | rfl | rfl | rfl | rfl | rfl | rfl | rfl | rfl | rfl | rfl | rfl | rfl | rfl | rfl | rfl | rfl | rfl | rfl | rfl | rfl | rfl | rfl <;> rfl) (Nat.le_of_ble_eq_true rfl) (Nat.le_of_ble_eq_true rfl) dL_law_8 (fun m0 H hP hD hS => ?_)
  have hP : va_P D vwCl [(q0, .inr (5, [.ref q1, .ref q3, .ref q5, .ref q7, .ref q10, .int 0, .ref q12, .ref q14, .ref q18, .ref q19, .ref q20, .long 0])), (q1, .inr (4, [.ref q2, .int 0])), (q2, .inl (cI, 40, .inl (fun _ => 0))), (q3, .inr (1, [.int 2, .int 0, .int 2, .int 1, .ref q4, .int 0])), (q4, .inl (cI, 57, .inl (upd (fun _ => 0) 50 1))), (q5, .inr (1, [.int 2, .int 0, .int 2, .int 1, .ref q6, .int 0])), (q6, .inl (cI, 57, .inl (upd (fun _ => 0) 50 1))), (q7, .inr (0, [.ref q8, .int 0, .int 0])), (q8, .inr (3, [.int (nI 14), .ref q9])), (q9, .inl (cI, 14 * 57, .inl (fun _ => 0))), (q10, .inr (3, [.int (nI 2), .ref q11])), (q11, .inl (cI, 2 * 57, .inl (fun _ => 0))), (q12, .inr (3, [.int (nI 9), .ref q13])), (q13, .inl (cI, 9 * 57, .inl (fun _ => 0))), (q14, .inr (2, [.ref q15, .ref q16, .ref q17, .int 0])), (q15, .inl (cI, 6, .inl (fun _ => 0))), (q16, .inl (cI, 6, .inl (fun _ => 0))), (q17, .inl (cI, 6, .inl (fun _ => 0))), (q18, .inl (cI, 4, .inl (fun _ => 0))), (q19, .inl (cI, 6, .inl (fun _ => 0))), (q20, .inl (cI, 64, .inl (fun _ => 0))), (m0, .inr (6, [.int 0, .null, .int 0, .int 0, .int 0, .int 0, .int 0, .int 0, .int 0, .int 0, .null, .null, .null, .null, .int 0, .null, .null, .int 0, .null, .null, .null, .long 0, .int 0, .int 0, .int 0, .int 0, .int 0]))] H := hP
  have hD : va_D (zl_A s) [(q0, .inr (5, [.ref q1, .ref q3, .ref q5, .ref q7, .ref q10, .int 0, .ref q12, .ref q14, .ref q18, .ref q19, .ref q20, .long 0])), (q1, .inr (4, [.ref q2, .int 0])), (q2, .inl (cI, 40, .inl (fun _ => 0))), (q3, .inr (1, [.int 2, .int 0, .int 2, .int 1, .ref q4, .int 0])), (q4, .inl (cI, 57, .inl (upd (fun _ => 0) 50 1))), (q5, .inr (1, [.int 2, .int 0, .int 2, .int 1, .ref q6, .int 0])), (q6, .inl (cI, 57, .inl (upd (fun _ => 0) 50 1))), (q7, .inr (0, [.ref q8, .int 0, .int 0])), (q8, .inr (3, [.int (nI 14), .ref q9])), (q9, .inl (cI, 14 * 57, .inl (fun _ => 0))), (q10, .inr (3, [.int (nI 2), .ref q11])), (q11, .inl (cI, 2 * 57, .inl (fun _ => 0))), (q12, .inr (3, [.int (nI 9), .ref q13])), (q13, .inl (cI, 9 * 57, .inl (fun _ => 0))), (q14, .inr (2, [.ref q15, .ref q16, .ref q17, .int 0])), (q15, .inl (cI, 6, .inl (fun _ => 0))), (q16, .inl (cI, 6, .inl (fun _ => 0))), (q17, .inl (cI, 6, .inl (fun _ => 0))), (q18, .inl (cI, 4, .inl (fun _ => 0))), (q19, .inl (cI, 6, .inl (fun _ => 0))), (q20, .inl (cI, 64, .inl (fun _ => 0))), (m0, .inr (6, [.int 0, .null, .int 0, .int 0, .int 0, .int 0, .int 0, .int 0, .int 0, .int 0, .null, .null, .null, .null, .int 0, .null, .null, .int 0, .null, .null, .null, .long 0, .int 0, .int 0, .int 0, .int 0, .int 0]))] := hD
  refine W.widen (k := 22) (n := 1737) (Nat.le_of_ble_eq_true rfl) (Nat.le_of_ble_eq_true rfl) ?_
  refine lv_dup hx hb dL_law_11 rfl ?_
  have hPc := hP.sub (ws' := [(m0, .inr (6, [.int 0, .null, .int 0, .int 0, .int 0, .int 0, .int 0, .int 0, .int 0, .int 0, .null, .null, .null, .null, .int 0, .null, .null, .int 0, .null, .null, .null, .long 0, .int 0, .int 0, .int 0, .int 0, .int 0]))]) [21] rfl
  have hDc := hD.sub (ws' := [(m0, .inr (6, [.int 0, .null, .int 0, .int 0, .int 0, .int 0, .int 0, .int 0, .int 0, .int 0, .null, .null, .null, .null, .int 0, .null, .null, .int 0, .null, .null, .null, .long 0, .int 0, .int 0, .int 0, .int 0, .int 0]))]) [21] (by decide) rfl
  have hFc := va_free (wc := [(m0, .inr (6, [.int 0, .null, .int 0, .int 0, .int 0, .int 0, .int 0, .int 0, .int 0, .int 0, .null, .null, .null, .null, .int 0, .null, .null, .int 0, .null, .null, .null, .long 0, .int 0, .int 0, .int 0, .int 0, .int 0]))]) hD hS hA [21] rfl
  refine va_callv (va_runI (As := []) (rest := [.ref m0]) ⟨hx, hb, hml, hown, hts⟩ (c_X6 l D cI cZ m0 H.size) (cwI 0 hts (zi_goodL zw_86) rfl rfl rfl (hts _ zw_5) (hts _ zw_84) (hts _ zw_85) rfl (by decide +kernel) ⟨Nat.le_of_ble_eq_true rfl, Nat.le_of_ble_eq_true rfl⟩) ⟨zi_blind, fun U hU hW => ⟨rfl, by rw [hU], by rw [hU]; exact hPc, va_K.moved hW.alike hK, hDc.weaken (fun _ _ _ _ => trivial)⟩⟩ rfl rfl hl.1 rfl (lv_room (Nat.le_of_ble_eq_true rfl)) dL_law_12 ⟨Nat.le_of_ble_eq_true rfl, Nat.le_of_ble_eq_true rfl⟩) hS (fun q _ h => hFc q h) hFc (fun u t H1 locs ht hvm hw hB hz1 hk1 hS => ?_)
  obtain ⟨m1, m2, m3, m4, m5, m6, m7, m8, m9, m10, hP1, hD1⟩ := hB
  rw [ht] at hP1
  obtain ⟨hP, hD⟩ := va_join (wr := [(q0, .inr (5, [.ref q1, .ref q3, .ref q5, .ref q7, .ref q10, .int 0, .ref q12, .ref q14, .ref q18, .ref q19, .ref q20, .long 0])), (q1, .inr (4, [.ref q2, .int 0])), (q2, .inl (cI, 40, .inl (fun _ => 0))), (q3, .inr (1, [.int 2, .int 0, .int 2, .int 1, .ref q4, .int 0])), (q4, .inl (cI, 57, .inl (upd (fun _ => 0) 50 1))), (q5, .inr (1, [.int 2, .int 0, .int 2, .int 1, .ref q6, .int 0])), (q6, .inl (cI, 57, .inl (upd (fun _ => 0) 50 1))), (q7, .inr (0, [.ref q8, .int 0, .int 0])), (q8, .inr (3, [.int (nI 14), .ref q9])), (q9, .inl (cI, 14 * 57, .inl (fun _ => 0))), (q10, .inr (3, [.int (nI 2), .ref q11])), (q11, .inl (cI, 2 * 57, .inl (fun _ => 0))), (q12, .inr (3, [.int (nI 9), .ref q13])), (q13, .inl (cI, 9 * 57, .inl (fun _ => 0))), (q14, .inr (2, [.ref q15, .ref q16, .ref q17, .int 0])), (q15, .inl (cI, 6, .inl (fun _ => 0))), (q16, .inl (cI, 6, .inl (fun _ => 0))), (q17, .inl (cI, 6, .inl (fun _ => 0))), (q18, .inl (cI, 4, .inl (fun _ => 0))), (q19, .inl (cI, 6, .inl (fun _ => 0))), (q20, .inl (cI, 64, .inl (fun _ => 0)))]) (w1 := [(m0, .inr (6, [.int 0, .ref m1, .int 0, .int 0, .int 2, .int 0, .int 1, .int 0, .int 0, .int 0, .ref m2, .ref m3, .ref m4, .ref m5, .int 0, .ref m6, .ref m7, .int 0, .ref m8, .ref m9, .ref m10, .long 0, .int 0, .int 0, .int 0, .int 0, .int 0])), (m1, .inl (cI, 40, .inl (fun _ => 0))), (m2, .inl (cI, 79, .inl (fun _ => 0))), (m3, .inl (cI, 79, .inl (upd (fun _ => 0) 72 1))), (m4, .inl (cI, 79, .inl (fun _ => 0))), (m5, .inl (cI, 1106, .inl (fun _ => 0))), (m6, .inl (cI, 158, .inl (fun _ => 0))), (m7, .inl (cZ, 2, .inl (fun _ => 0))), (m8, .inl (cI, 6, .inl (fun _ => 0))), (m9, .inl (cI, 6, .inl (fun _ => 0))), (m10, .inl (cI, 6, .inl (fun _ => 0)))]) hP hD [21] [0, 1, 2, 3, 4, 5, 6, 7, 8, 9, 10, 11, 12, 13, 14, 15, 16, 17, 18, 19, 20] rfl rfl (by decide) (by decide) hk1 hFc hP1 hD1
  generalize H1 = H at hP hS ⊢
  have hP : va_P D vwCl [(q0, .inr (5, [.ref q1, .ref q3, .ref q5, .ref q7, .ref q10, .int 0, .ref q12, .ref q14, .ref q18, .ref q19, .ref q20, .long 0])), (q1, .inr (4, [.ref q2, .int 0])), (q2, .inl (cI, 40, .inl (fun _ => 0))), (q3, .inr (1, [.int 2, .int 0, .int 2, .int 1, .ref q4, .int 0])), (q4, .inl (cI, 57, .inl (upd (fun _ => 0) 50 1))), (q5, .inr (1, [.int 2, .int 0, .int 2, .int 1, .ref q6, .int 0])), (q6, .inl (cI, 57, .inl (upd (fun _ => 0) 50 1))), (q7, .inr (0, [.ref q8, .int 0, .int 0])), (q8, .inr (3, [.int (nI 14), .ref q9])), (q9, .inl (cI, 14 * 57, .inl (fun _ => 0))), (q10, .inr (3, [.int (nI 2), .ref q11])), (q11, .inl (cI, 2 * 57, .inl (fun _ => 0))), (q12, .inr (3, [.int (nI 9), .ref q13])), (q13, .inl (cI, 9 * 57, .inl (fun _ => 0))), (q14, .inr (2, [.ref q15, .ref q16, .ref q17, .int 0])), (q15, .inl (cI, 6, .inl (fun _ => 0))), (q16, .inl (cI, 6, .inl (fun _ => 0))), (q17, .inl (cI, 6, .inl (fun _ => 0))), (q18, .inl (cI, 4, .inl (fun _ => 0))), (q19, .inl (cI, 6, .inl (fun _ => 0))), (q20, .inl (cI, 64, .inl (fun _ => 0))), (m0, .inr (6, [.int 0, .ref m1, .int 0, .int 0, .int 2, .int 0, .int 1, .int 0, .int 0, .int 0, .ref m2, .ref m3, .ref m4, .ref m5, .int 0, .ref m6, .ref m7, .int 0, .ref m8, .ref m9, .ref m10, .long 0, .int 0, .int 0, .int 0, .int 0, .int 0])), (m1, .inl (cI, 40, .inl (fun _ => 0))), (m2, .inl (cI, 79, .inl (fun _ => 0))), (m3, .inl (cI, 79, .inl (upd (fun _ => 0) 72 1))), (m4, .inl (cI, 79, .inl (fun _ => 0))), (m5, .inl (cI, 1106, .inl (fun _ => 0))), (m6, .inl (cI, 158, .inl (fun _ => 0))), (m7, .inl (cZ, 2, .inl (fun _ => 0))), (m8, .inl (cI, 6, .inl (fun _ => 0))), (m9, .inl (cI, 6, .inl (fun _ => 0))), (m10, .inl (cI, 6, .inl (fun _ => 0)))] H := hP
  have hD : va_D (zl_A s) [(q0, .inr (5, [.ref q1, .ref q3, .ref q5, .ref q7, .ref q10, .int 0, .ref q12, .ref q14, .ref q18, .ref q19, .ref q20, .long 0])), (q1, .inr (4, [.ref q2, .int 0])), (q2, .inl (cI, 40, .inl (fun _ => 0))), (q3, .inr (1, [.int 2, .int 0, .int 2, .int 1, .ref q4, .int 0])), (q4, .inl (cI, 57, .inl (upd (fun _ => 0) 50 1))), (q5, .inr (1, [.int 2, .int 0, .int 2, .int 1, .ref q6, .int 0])), (q6, .inl (cI, 57, .inl (upd (fun _ => 0) 50 1))), (q7, .inr (0, [.ref q8, .int 0, .int 0])), (q8, .inr (3, [.int (nI 14), .ref q9])), (q9, .inl (cI, 14 * 57, .inl (fun _ => 0))), (q10, .inr (3, [.int (nI 2), .ref q11])), (q11, .inl (cI, 2 * 57, .inl (fun _ => 0))), (q12, .inr (3, [.int (nI 9), .ref q13])), (q13, .inl (cI, 9 * 57, .inl (fun _ => 0))), (q14, .inr (2, [.ref q15, .ref q16, .ref q17, .int 0])), (q15, .inl (cI, 6, .inl (fun _ => 0))), (q16, .inl (cI, 6, .inl (fun _ => 0))), (q17, .inl (cI, 6, .inl (fun _ => 0))), (q18, .inl (cI, 4, .inl (fun _ => 0))), (q19, .inl (cI, 6, .inl (fun _ => 0))), (q20, .inl (cI, 64, .inl (fun _ => 0))), (m0, .inr (6, [.int 0, .ref m1, .int 0, .int 0, .int 2, .int 0, .int 1, .int 0, .int 0, .int 0, .ref m2, .ref m3, .ref m4, .ref m5, .int 0, .ref m6, .ref m7, .int 0, .ref m8, .ref m9, .ref m10, .long 0, .int 0, .int 0, .int 0, .int 0, .int 0])), (m1, .inl (cI, 40, .inl (fun _ => 0))), (m2, .inl (cI, 79, .inl (fun _ => 0))), (m3, .inl (cI, 79, .inl (upd (fun _ => 0) 72 1))), (m4, .inl (cI, 79, .inl (fun _ => 0))), (m5, .inl (cI, 1106, .inl (fun _ => 0))), (m6, .inl (cI, 158, .inl (fun _ => 0))), (m7, .inl (cZ, 2, .inl (fun _ => 0))), (m8, .inl (cI, 6, .inl (fun _ => 0))), (m9, .inl (cI, 6, .inl (fun _ => 0))), (m10, .inl (cI, 6, .inl (fun _ => 0)))] := hD
  refine W.widen (k := 32) (n := 3298) (Nat.le_of_ble_eq_true rfl) (Nat.le_of_ble_eq_true rfl) ?_
  refine lv_astore_n (lv' := [(2, .ref m0), (1, .ref q0), (0, .ref b)]) hx hb dL_law_15 rfl hl (by decide) rfl (fun ls hl => ?_)
  refine lv_iconst (v := 0) hx hb dL_law_16 (by decide) ?_
  refine lv_istore_n (lv' := [(3, .int 0), (2, .ref m0), (1, .ref q0), (0, .ref b)]) hx hb dL_law_17 rfl hl (by decide) rfl (fun ls hl => ?_)
  refine W.widen (k := 600000) (n := 7302250) (Nat.le_of_ble_eq_true rfl) (Nat.le_of_ble_eq_true rfl) ?_
  have epic := zl_pic (D := D) (cI := cI) (cZ := cZ) (tF := tF) (tT := tT) (q0 := q0) (q1 := q1) (q2 := q2) (q3 := q3) (q4 := q4) (q5 := q5) (q6 := q6) (q7 := q7) (q8 := q8) (q9 := q9) (q10 := q10) (q11 := q11) (q12 := q12) (q13 := q13) (q14 := q14) (q15 := q15) (q16 := q16) (q17 := q17) (q18 := q18) (q19 := q19) (q20 := q20) (m0 := m0) (m1 := m1) (m2 := m2) (m3 := m3) (m4 := m4) (m5 := m5) (m6 := m6) (m7 := m7) (m8 := m8) (m9 := m9) (m10 := m10)
  rw [← epic] at hP hD
  generalize hGe : (((fun i => [q0, q1, q2, q3, q4, q5, q6, q7, q8, q9, q10, q11, q12, q13, q14, q15, q16, q17, q18, q19, q20, m0, m1, m2, m3, m4, m5, m6, m7, m8, m9, m10].getD i 0), D, cI, cZ, tF, tT) : zb_G) = G at hP hD
  have eD : zb_D G = D := by rw [← hGe]; rfl
  have e0 : zb_ad G 0 = q0 := by rw [← hGe]; rfl
  have e21 : zb_ad G 21 = m0 := by rw [← hGe]; rfl
  have etF : zb_tF G = tF := by rw [← hGe]; rfl
  have etT : zb_tT G = tT := by rw [← hGe]; rfl
  have ety : zb_tys G = [(cI, .int), (cZ, .boolean)] := by rw [← hGe]; rfl
  have hG : ∀ q, zb_A G q → s.heap.size ≤ q := by
    rintro q ⟨k, k1, rfl⟩
    exact hD.2 k _ (zb_at k1)
  have hKG : zb_K G s s.heap := by
    refine ⟨by rw [eD, ety]; exact hKD, fun i j hi hj hij => hD.1 i j _ _ (zb_at hi) (zb_at hj) hij, ?_, ?_, ?_, ?_⟩
    · rw [etF]; exact hZF.narrow hG
    · rw [etF]; exact hTF.narrow hG
    · rw [etT]; exact hZT.narrow hG
    · rw [etT]; exact hTT.narrow hG
  rw [← eD] at hP
  refine law_loop hL C0 hKG hG (L + 1) 0 zl_S0 H _ ls (by omega) (by omega) zl_I0 hP hS ?_
  rw [e0, e21]
  exact lv_sub hl [3, 2, 1, 0] rfl
end SA
set_option maxHeartbeats 4000000 in
theorem lw_walk (l : Launch) (hflags : l.flags = flags0) (b : Addr) (xs : List Int32) : MetFree l x (headSpec (Jvm.Cond.code x code maxLocals ret :: tables_1) room_1) (lw_P b xs) (fun _ _ _ _ _ => True) lw_Q := by
  refine MetFree.of_bodyS (code := code) (maxLocals := maxLocals) (ret := ret) (by decide) ?_ ?_
  · intro args s m h hn
    obtain ⟨meth, c, h1, h2, h3, h4, h5, h6, -, -⟩ := Cond.code_spec hn (atoms_spec (ws := Jvm.Cond.code x code maxLocals ret :: tables_1) h _ List.mem_cons_self)
    exact ⟨meth, c, h1, h2, h3, h4, h5, h6⟩
  · intro p e s m args below meth c s₁ B hml0 hP _
    obtain ⟨rfl, hx, hbd, hgv⟩ := hP
    obtain ⟨scr, harrAt, hlist, hof, hsmall⟩ := hx
    obtain ⟨hcb, hkn, -, -⟩ := State.arrayAt?_spec harrAt
    have hown : s.vm.findClass R_law = some m.cls := findClass_of_methodNamed B.named
    have hts0 : ∀ c ∈ (Jvm.Cond.code x code maxLocals ret :: tables_1), c.before #[Value.ref b] s = true := atoms_spec (ws := Jvm.Cond.code x code maxLocals ret :: tables_1) B.pre
    have hts : ∀ w ∈ lw_tbl, w.before #[Value.ref b] s = true := k2_hts_sels lw_privs (fun w hw => hts0 w (List.mem_cons_of_mem _ hw)) lw_privs_ok
    have hml : c.maxLocals = 4 := B.maxLocals_eq (hts0 _ List.mem_cons_self)
    have X₀ : Stand p l e room_1 s m #[Value.ref b] below meth c s₁ [] 0 0 := Stand.of_body B
    have hh0 : s₁.heap = s.heap := by rw [B.state]; rfl
    have hsz : scr.slots.size = xs.length := by rw [← Array.length_toList, hlist, List.length_map]
    have hval : ∀ j : Nat, j < xs.length → scr.slots[j]? = some (.int (xs.getD j 0)) := fun j hj => by
      rw [← Array.getElem?_toList, hlist]
      simp [hj]
    have hbl : b < s.heap.size := (Array.getElem?_eq_some_iff.mp hcb).1
    have hX : va_X b xs.length (fun j => xs.getD j 0) s s.heap := ⟨scr, hcb, hof, hkn, hsz, hval⟩
    have K : W p l e room_1 s m #[Value.ref b] below meth c s₁.heap [] 0 0 (lw_Z below #[Value.ref b] s) (entryFrame m ([Value.ref b] : List Value).toArray 4) := by
      rw [hh0]
      exact whole_start l hflags hbd ⟨B.exec, B.bytes, B.returns, hml, hown, hts, hX, hbl, B.notSynchronized, hgv⟩
    obtain ⟨t, a1, o, b1, b2, b3⟩ := K s₁ rfl X₀
    exact ⟨t, o, a1, b1, b2, b3⟩
theorem lw_pre_spec {args : Array Value} {s : State} (h : (Jvm.Cond.and given_1 narrow_1).before args s = true) (hr : rest_1_c.before args s = true) : ∃ (b : Addr) (xs : List Int32), lw_P b xs args s := by
  have hs := flat_of_before _ h
  have hq := flat_of_before _ hr
  have hc : (Cond.count 1).before args s = true := hs _ (by decide +kernel)
  have harr : (Cond.arrayOf (.arg 0) .int).before args s = true := hs _ (by decide +kernel)
  have hle : (Cond.le (.length (.arg 0)) (.int 2048)).before args s = true := hs _ (by decide +kernel)
  have hlen : (Cond.isInt (.length (.arg 0))).before args s = true := hq _ (by decide +kernel)
  have hall : (Cond.all (.arg 0) (.isInt (.elem (.arg 0) (.index 0)))).before args s = true := hq _ (by decide +kernel)
  obtain ⟨b, xs, hb, hx⟩ := State.ints_of_pre rfl harr hlen hall
  have hsm : xs.length < 2 ^ 31 := hx.choose_spec.2.2.2
  have hev : (Term.length (.arg 0)).eval args s none [] s = some (.int xs.length.toInt32) := hx.length_eval hb
  have hv := Cond.le_ints hev (show (Term.int 2048).eval args s none [] s = some (.int 2048) from rfl)
  have hd : xs.length.toInt32 ≤ 2048 := by
    simpa [Cond.before, Cond.holds, hv] using hle
  have hN : xs.length ≤ 2048 := (Int32.ofNat_le_ofNat hsm (by decide)).mp (show Int32.ofNat xs.length ≤ Int32.ofNat 2048 from hd)
  exact ⟨b, xs, Cond.one_arg hc (show args[0]? = some (.ref b) from hb), hx, hN, h⟩
theorem lw_comes (l : Launch) (hflags : l.flags = flags0) : Comes l x (Jvm.Cond.code x code maxLocals ret :: tables_1) room_1 (fun tb e args s => Calls_1 tb e args s ∧ rest_1 tb e args s ∧ Pre_1 tb e args s)
    (fun _ _ args s o t => lw_Q args s o t) := by
  intro p e ha hc hk s m args below hf hfit hheap happ hpre
  obtain ⟨b, xs, hP⟩ := lw_pre_spec hpre.2.2 hpre.2.1
  obtain ⟨k, o, h1, h2, h3, hQ⟩ := lw_walk l hflags b xs p e ha hc hk s m args below hf ((Spec.applies_iff_loose hf).mp happ).1 hP trivial
  exact ⟨k, o, h1, h2, h3, hQ⟩
theorem lw_frame {s t : State} {o : Outcome} {args : Array Value} (h : Framed s o t [] 600000 7302250) :
    Framed s o t (fieldLocs frame_1_writes args s ++ arrayLocs frame_1_arrays args s ++ staticLocs frame_1_statics s) 600000 7302250 := h
theorem lw_limb (L : Cond) (hL : ∀ (args : Array Value) (s t : State), L.after args s (.returned (some (.int 1))) t = true) :
    ArmFor flags0 classFile x code maxLocals ret World_1 tables_1 room_1 Calls_1 rest_1 Pre_1
      (fun tb e a s o t => postC L tb e a s o t ∧ Framed s o t (fieldLocs frame_1_writes a s ++ arrayLocs frame_1_arrays a s ++ staticLocs frame_1_statics s) 600000 7302250) := by
  intro l hflags _ _ p e ha hc hk s m args below hf hfit hheap happ hpre
  obtain ⟨k, o, h1, h2, h3, rfl, hF⟩ := lw_comes l hflags p e ha hc hk s m args below hf hfit hheap happ hpre
  exact ⟨k, _, h1, h2, h3, hL args s _, lw_frame hF⟩
theorem i_vc : Claimed_1_1 ∧ Claimed_1_2 := ⟨lw_limb limb_1_1 (fun args s t => by simp [limb_1_1, Cond.after, Cond.holds, Cond.value]), lw_limb limb_1_2 (fun args s t => Cond.after_iff.mpr (by
  first | (rw [show limb_1_2 = Cond.eq .result (.int 1) from rfl, Cond.eq_ints (x := 1) (y := 1) rfl rfl]; simp; done) | (simp [limb_1_2, Cond.value, Term.eval]; done)))⟩
