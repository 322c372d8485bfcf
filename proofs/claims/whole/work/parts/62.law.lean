/-! THE CLAIM OUT OF ONE WALK OF THE LAW'S BODY. Your part is whole_start (and what it stands on); all else here is the same for every law, but numbers. -/
def R_law : String := "ZoneBeltLaw"
def lw_P (b : Addr) (xs : List Int32) (args : Array Value) (s : State) : Prop := args = #[.ref b] ∧ s.IntsAt b xs ∧ xs.length ≤ 2048 ∧ (Jvm.Cond.and given_1 narrow_1).before args s = true
def lw_Q (_ : Array Value) (s : State) (o : Outcome) (t : State) : Prop := o = .returned (some (.int 1)) ∧ Framed s o t [] 600000 7302250
def lw_Z (below : List Frame) (a : Array Value) (s : State) : State → Prop := fun t => ∃ o, t.status = .running ∧ Ended t below o ∧ lw_Q a s o t
/-- the law's own end, with 1 on the stack, nothing written that was there before, its room as the claim has it -/
theorem lw_ret {p : Program} {l : Launch} {e : Env} {s : State} {m : MethodId} {below : List Frame} {meth : Method} {c : Code} {b : Nat} (hx : p.tables.exec = Jvm.exec) (hb : c.code = code) (hr : meth.sig.returnType = ret) (hlocks : meth.locks = false) {pc : Nat} {H : Heap} {ls : Array Slot} (hdg : decode code pc = .ok (.ireturn, 1)) : W p l e room_1 s m #[Value.ref b] below meth c H [] 600000 7302250 (lw_Z below #[Value.ref b] s) (F0 m pc ls [.int 1]) := by
  intro T hT X
  obtain ⟨fs, hret, hrun, hended, hW, hframe⟩ := X.leave (v := some (.int 1)) (hlocks := hlocks) (fun h => by rw [hr] at h; cases h)
  have hmeth' : T.vm.method? m = some meth := X.method'
  refine ⟨T.setFrames fs, ?_, .returned (some (.int 1)), hrun, hended, rfl, ⟨_, rfl⟩, hW, hframe⟩
  jvm_step X.here [X.here.top, hx, hb, hdg, hmeth', hr, ret, narrow_b1]
  (try refine ⟨rfl, ?_⟩); (try refine ⟨rfl, ?_⟩)
  first | (intro acts; rw [hret _ acts rfl rfl rfl]) | rw [hret _ _ rfl rfl rfl]
  exact Steps.refl _
/-- what holds at the law's entry: the machine, the code, the tables' words (any of lw_tbl by 'hts w (by decide +kernel)'), the script of L ints xs at the cell b, what the Statement gives of the start (any of its parts by flat_of_before) -/
def lw_At (p : Program) (s : State) (m : MethodId) (meth : Method) (c : Code) (b L : Nat) (xs : Nat → Int32) : Prop :=
  p.tables.exec = Jvm.exec ∧ c.code = code ∧ meth.sig.returnType = ret ∧ c.maxLocals = 4 ∧ s.vm.findClass R_law = some m.cls ∧ (∀ w ∈ lw_tbl, w.before #[Value.ref b] s = true) ∧ va_X b L xs s s.heap ∧ b < s.heap.size ∧ meth.locks = false ∧ (Jvm.Cond.and given_1 narrow_1).before #[Value.ref b] s = true
section LW
variable {p : Program} {l : Launch} {e : Env} {s : State} {m : MethodId} {below : List Frame} {meth : Method} {c : Code} {H : Heap} {locs : List Loc} {ls : Array Slot} {G : zb_G} {b L : Nat} {xs : Nat → Int32}
abbrev zl_W (p : Program) (l : Launch) (e : Env) (s : State) (m : MethodId) (below : List Frame) (meth : Method) (c : Code) (b : Nat) (H : Heap) (locs : List Loc) (g : JFrame) : Prop := W p l e room_1 s m #[Value.ref b] below meth c H locs 600000 7302250 (lw_Z below #[Value.ref b] s) g
def zl_A (s : State) : Nat → Prop := fun q => s.heap.size ≤ q
/-- a call out of the law -/
theorem zl_callV {β : Type} {em' : β → Option Value} {y2 : MethodName} {cc2 : ByteArray} {nL2 : Nat} {ret2 : Option FieldType} {d2 index bb ci N2 pc : Nat} {CC : String} {T2 : u_T} {As st rest : List Value} {f : Option (β × zb_S)} {S S1 : zb_S} {r1 : β} (n : Nat)
    (C0 : lw_At p s m meth c b L xs) (hK : zb_K G s s.heap) (hG : ∀ q, zb_A G q → s.heap.size ≤ q) (hM : zb_C em' l G d2 y2 cc2 nL2 ret2 (.ref (zb_ad G bb) :: As) S f) (hf : f = some (r1, S1)) (hd2 : d2 ≤ 100) (hnL : nL2 ≤ 20) (hkd : zb_kd bb = ci) (h7 : ci < 7) (hc : vwCl[ci]? = some (CC, T2, N2))
    (w1 : Cond.methodLink RL index y2 ∈ wsL_law) (w2 : Cond.instanceMethod y2 ∈ wsL_law) (w3 : Cond.selects CC y2 y2 ∈ wsL_law) (w4 : Cond.initialized CC ∈ wsL_law) (w5 : Cond.code y2 cc2 nL2 ret2 ∈ wsL_law)
    (hcls : y2.cls = CC ∧ y2.cls ≠ "java/lang/invoke/MethodHandle" ∧ y2.cls ≠ "java/lang/invoke/VarHandle" ∧ (parseMethodDescriptor y2.desc).map (fun d => d.parameters.length) = some n) (hn : As.length = n) (hst : st = As.reverse ++ .ref (zb_ad G bb) :: rest) (hrm : (rest.map fun v => v.category).sum ≤ 8) (hdg : decode cL_law pc = .ok (.invokevirtual index, 3)) (hsz : ls.size = 4)
    (hP : va_P (zb_D G) vwCl (zb_pic G S) H) (hS : va_S (zl_A s) s.heap H locs)
    (kk : ∀ (H1 : Heap) (locs1 : List Loc), va_P (zb_D G) vwCl (zb_pic G S1) H1 → va_S (zl_A s) s.heap H1 locs1 → zl_W p l e s m below meth c b H1 locs1 (F0 m (pc + 3) ls ((em' r1).toList ++ rest))) : zl_W p l e s m below meth c b H locs (F0 m pc ls st) := by
  obtain ⟨hx, hb, hr, hml, hown, hts0, hX, hbl, hlocks, hgv⟩ := C0
  have hts : ∀ w ∈ wsL_law, w.before #[Value.ref b] s = true := fun w h => hts0 w (wsL_law_in w h)
  have hlt := zb_lt hkd (by omega)
  have hrun := va_runV (R := room_1) (l := l) (e := e) (below := below) (meth := meth) (H := H) (locs := locs) (cells := 600000) (slots := 7302250) (g := F0 m pc ls st) (rest := rest) (As := As) (b := zb_ad G bb) ⟨hx, hb, hml, hown, hts⟩ (hM r1 S1 hf) (cwV n hts (zb_gV w1 w2 w3 w4 w5) rfl rfl rfl hcls ⟨by show d2 + 1 + 1 ≤ 2048; omega, by show 8 + (nL2 + 11) + 40 * (d2 + 1) ≤ 84000; omega⟩) ⟨zb_blind, va_recv hK.1 hP hc (by rw [zb_at hlt, zb_cell_o hkd h7]), fun U hU hW => ⟨rfl, by rw [hU]; exact hP, by rw [hU]; exact (hK.moved hW.alike).kept (fun a h1 h2 => hS.2.1 a h1 (fun q => absurd (show s.heap.size ≤ a from q) (by omega)))⟩⟩ rfl hn hsz hst (lv_room hrm) hdg ⟨Nat.le_refl _, Nat.le_refl _⟩
  intro T hT X
  obtain ⟨v, st₀, t, T', Lc, h0, X', hL, e1, e2, ⟨hv, ⟨hP1, -⟩, hz, hk⟩, stp⟩ := hrun T hT X
  cases hv
  rw [h0] at hz hk
  obtain ⟨t2, a1, b1⟩ := kk T'.heap (locs ++ Lc) (by rw [e1]; exact hP1)
    ⟨Nat.le_trans hS.1 (by rw [e1]; exact hz), fun q h1 h2 => by rw [e1, hk q (Nat.lt_of_lt_of_le h1 hS.1) (fun z => h2 (hG q z))]; exact hS.2.1 q h1 h2, fun q hq => by
      rcases List.mem_append.mp hq with h | h
      · exact hS.2.2 q h
      · exact hG _ (hL q h)⟩ T' rfl X'
  exact ⟨t2, stp t2 a1, b1⟩
/-- a flag out of a number -/
theorem zl_flag {x : Int32} {pc : Nat} {rest : List Value} (hx : p.tables.exec = Jvm.exec) (hb : c.code = cL_law) (d1 : decode cL_law pc = .ok (.ifCond .eq 7, 3)) (d2 : decode cL_law (pc + 3) = .ok (.iconst 1, 1)) (d3 : decode cL_law (pc + 4) = .ok (.goto 4, 3)) (d4 : decode cL_law (pc + 7) = .ok (.iconst 0, 1))
    (kk : zl_W p l e s m below meth c b H locs (F0 m (pc + 8) ls (.int (if x = 0 then 0 else 1) :: rest))) : zl_W p l e s m below meth c b H locs (F0 m pc ls (.int x :: rest)) := by
  refine lv_if_eq (tgt := pc + 7) hx hb d1 (by omega) (fun h => ?_) (fun h => ?_)
  · rw [if_pos h] at kk
    exact lv_iconst (v := 0) hx hb d4 (by decide) kk
  · rw [if_neg h] at kk
    refine lv_iconst (v := 1) hx hb d2 (by decide) ?_
    exact lv_goto (tgt := pc + 8) hx hb d3 (by omega) kk
theorem zl_ld {i k : Nat} (hi : i + 4 ≤ L) (hL : L ≤ 2048) (hk : k < 4) : vp_in (nI i + nI k) L := by
  rw [nI_add]; exact vp_in_nI (by omega) (by omega)
theorem zl_ld0 {i : Nat} (hi : i + 4 ≤ L) (hL : L ≤ 2048) : vp_in (nI i) L := vp_in_nI (by omega) (by omega)
set_option maxHeartbeats 4000000 in
set_option maxRecDepth 100000 in
theorem law_0 (hL : L ≤ 2048) (C0 : lw_At p s m meth c b L xs) (hK : zb_K G s s.heap) (hG : ∀ q, zb_A G q → s.heap.size ≤ q) {i : Nat} (hi : i + 4 ≤ L) {S : zb_S} (hI : zi_I S) (hP : va_P (zb_D G) vwCl (zb_pic G S) H) (hS : va_S (zl_A s) s.heap H locs) (hl : lv_has ls 4 [(0, .ref b), (1, .ref (zb_ad G 0)), (2, .ref (zb_ad G 21)), (3, .int (nI i))]) (kk : ∀ (S2 : zb_S) (H : Heap) (locs : List Loc), zi_I S2 → va_P (zb_D G) vwCl (zb_pic G S2) H → va_S (zl_A s) s.heap H locs → zl_W p l e s m below meth c b H locs (F0 m 910 ls [])) : zl_W p l e s m below meth c b H locs (F0 m 156 ls []) := by
  obtain ⟨hx, hb, hr, hml, hown, hts0, hX, hbl, hlocks, hgv⟩ := id C0
  have hts : ∀ w ∈ wsL_law, w.before #[Value.ref b] s = true := fun w h => hts0 w (wsL_law_in w h)
  have hbA : ¬ zl_A s b := Nat.not_le.mpr hbl
  refine lv_aload_n hx hb dL_law_156 rfl (lv_at hl 1 rfl) ?_
  refine lv_aload_n hx hb dL_law_157 rfl (lv_at hl 0 rfl) ?_
  refine lv_iload_n hx hb dL_law_158 rfl (lv_at hl 3 rfl) ?_
  refine lv_iconst (v := 1) hx hb dL_law_159 (by decide) ?_
  refine lv_iadd hx hb dL_law_160 ?_
  refine va_sld hx hb hX hbl hbA hS (zl_ld (k := 1) hi hL (by omega)) dL_law_161 ?_
  obtain ⟨r, S1, S2, f1, f2, hI2⟩ := e_write (N := 5000) (a := (xs (nI i + 1).toNatClampNeg)) hI
  refine zl_callV (ci := 5) (S := S) (S1 := S1) (r1 := r) (As := [.int (xs (nI i + 1).toNatClampNeg)]) (rest := []) 1 C0 hK hG (zcX5_write 5000 S ((xs (nI i + 1).toNatClampNeg))) f1 (by omega) (by omega) rfl (by omega) rfl zw_101 zw_102 zw_103 zw_2 zw_104 ⟨rfl, by decide +kernel, by decide +kernel, by decide +kernel⟩ rfl rfl (Nat.le_of_ble_eq_true rfl) dL_law_162 hl.1 hP hS (fun H locs hP hS => ?_)
  refine lv_aload_n hx hb dL_law_165 rfl (lv_at hl 2 rfl) ?_
  refine lv_aload_n hx hb dL_law_166 rfl (lv_at hl 0 rfl) ?_
  refine lv_iload_n hx hb dL_law_167 rfl (lv_at hl 3 rfl) ?_
  refine lv_iconst (v := 1) hx hb dL_law_168 (by decide) ?_
  refine lv_iadd hx hb dL_law_169 ?_
  refine va_sld hx hb hX hbl hbA hS (zl_ld (k := 1) hi hL (by omega)) dL_law_170 ?_
  refine zl_callV (ci := 6) (S := S1) (S1 := S2) (r1 := r) (As := [.int (xs (nI i + 1).toNatClampNeg)]) (rest := [.int r]) 1 C0 hK hG (zcX6_write 5000 S1 ((xs (nI i + 1).toNatClampNeg))) f2 (by omega) (by omega) rfl (by omega) rfl zw_110 zw_111 zw_112 zw_5 zw_113 ⟨rfl, by decide +kernel, by decide +kernel, by decide +kernel⟩ rfl rfl (Nat.le_of_ble_eq_true rfl) dL_law_171 hl.1 hP hS (fun H locs hP hS => ?_)
  refine lv_icmp_eq (tgt := 910) hx hb dL_law_174 (by decide) (fun _ => ?_) (fun h => absurd rfl h)
  exact kk S2 H locs hI2 hP hS
set_option maxHeartbeats 4000000 in
set_option maxRecDepth 100000 in
theorem law_1 (hL : L ≤ 2048) (C0 : lw_At p s m meth c b L xs) (hK : zb_K G s s.heap) (hG : ∀ q, zb_A G q → s.heap.size ≤ q) {i : Nat} (hi : i + 4 ≤ L) {S : zb_S} (hI : zi_I S) (hP : va_P (zb_D G) vwCl (zb_pic G S) H) (hS : va_S (zl_A s) s.heap H locs) (hl : lv_has ls 4 [(0, .ref b), (1, .ref (zb_ad G 0)), (2, .ref (zb_ad G 21)), (3, .int (nI i))]) (kk : ∀ (S2 : zb_S) (H : Heap) (locs : List Loc), zi_I S2 → va_P (zb_D G) vwCl (zb_pic G S2) H → va_S (zl_A s) s.heap H locs → zl_W p l e s m below meth c b H locs (F0 m 910 ls [])) : zl_W p l e s m below meth c b H locs (F0 m 179 ls []) := by
  obtain ⟨hx, hb, hr, hml, hown, hts0, hX, hbl, hlocks, hgv⟩ := id C0
  have hts : ∀ w ∈ wsL_law, w.before #[Value.ref b] s = true := fun w h => hts0 w (wsL_law_in w h)
  have hbA : ¬ zl_A s b := Nat.not_le.mpr hbl
  refine lv_aload_n hx hb dL_law_179 rfl (lv_at hl 1 rfl) ?_
  obtain ⟨r, S1, S2, f1, f2, hI2⟩ := e_wipe (N := 5000)  hI
  refine zl_callV (ci := 5) (S := S) (S1 := S1) (r1 := r) (As := []) (rest := []) 0 C0 hK hG (zcX5_wipe 5000 S) f1 (by omega) (by omega) rfl (by omega) rfl zw_120 zw_121 zw_122 zw_2 zw_123 ⟨rfl, by decide +kernel, by decide +kernel, by decide +kernel⟩ rfl rfl (Nat.le_of_ble_eq_true rfl) dL_law_180 hl.1 hP hS (fun H locs hP hS => ?_)
  refine lv_aload_n hx hb dL_law_183 rfl (lv_at hl 2 rfl) ?_
  refine zl_callV (ci := 6) (S := S1) (S1 := S2) (r1 := r) (As := []) (rest := [.int r]) 0 C0 hK hG (zcX6_wipe 5000 S1) f2 (by omega) (by omega) rfl (by omega) rfl zw_124 zw_125 zw_126 zw_5 zw_127 ⟨rfl, by decide +kernel, by decide +kernel, by decide +kernel⟩ rfl rfl (Nat.le_of_ble_eq_true rfl) dL_law_184 hl.1 hP hS (fun H locs hP hS => ?_)
  refine lv_icmp_eq (tgt := 910) hx hb dL_law_187 (by decide) (fun _ => ?_) (fun h => absurd rfl h)
  exact kk S2 H locs hI2 hP hS
set_option maxHeartbeats 4000000 in
set_option maxRecDepth 100000 in
theorem law_2 (hL : L ≤ 2048) (C0 : lw_At p s m meth c b L xs) (hK : zb_K G s s.heap) (hG : ∀ q, zb_A G q → s.heap.size ≤ q) {i : Nat} (hi : i + 4 ≤ L) {S : zb_S} (hI : zi_I S) (hP : va_P (zb_D G) vwCl (zb_pic G S) H) (hS : va_S (zl_A s) s.heap H locs) (hl : lv_has ls 4 [(0, .ref b), (1, .ref (zb_ad G 0)), (2, .ref (zb_ad G 21)), (3, .int (nI i))]) (kk : ∀ (S2 : zb_S) (H : Heap) (locs : List Loc), zi_I S2 → va_P (zb_D G) vwCl (zb_pic G S2) H → va_S (zl_A s) s.heap H locs → zl_W p l e s m below meth c b H locs (F0 m 910 ls [])) : zl_W p l e s m below meth c b H locs (F0 m 192 ls []) := by
  obtain ⟨hx, hb, hr, hml, hown, hts0, hX, hbl, hlocks, hgv⟩ := id C0
  have hts : ∀ w ∈ wsL_law, w.before #[Value.ref b] s = true := fun w h => hts0 w (wsL_law_in w h)
  have hbA : ¬ zl_A s b := Nat.not_le.mpr hbl
  refine lv_aload_n hx hb dL_law_192 rfl (lv_at hl 1 rfl) ?_
  obtain ⟨r, S1, S2, f1, f2, hI2⟩ := e_fault (N := 5000)  (by omega) hI
  refine zl_callV (ci := 5) (S := S) (S1 := S1) (r1 := r) (As := []) (rest := []) 0 C0 hK hG (zcX5_fault 5000 S) f1 (by omega) (by omega) rfl (by omega) rfl zw_128 zw_129 zw_130 zw_2 zw_131 ⟨rfl, by decide +kernel, by decide +kernel, by decide +kernel⟩ rfl rfl (Nat.le_of_ble_eq_true rfl) dL_law_193 hl.1 hP hS (fun H locs hP hS => ?_)
  refine lv_aload_n hx hb dL_law_196 rfl (lv_at hl 2 rfl) ?_
  refine zl_callV (ci := 6) (S := S1) (S1 := S2) (r1 := r) (As := []) (rest := [.int r]) 0 C0 hK hG (zcX6_fault 5000 S1) f2 (by omega) (by omega) rfl (by omega) rfl zw_159 zw_160 zw_161 zw_5 zw_162 ⟨rfl, by decide +kernel, by decide +kernel, by decide +kernel⟩ rfl rfl (Nat.le_of_ble_eq_true rfl) dL_law_197 hl.1 hP hS (fun H locs hP hS => ?_)
  refine lv_icmp_eq (tgt := 910) hx hb dL_law_200 (by decide) (fun _ => ?_) (fun h => absurd rfl h)
  exact kk S2 H locs hI2 hP hS
set_option maxHeartbeats 4000000 in
set_option maxRecDepth 100000 in
theorem law_3 (hL : L ≤ 2048) (C0 : lw_At p s m meth c b L xs) (hK : zb_K G s s.heap) (hG : ∀ q, zb_A G q → s.heap.size ≤ q) {i : Nat} (hi : i + 4 ≤ L) {S : zb_S} (hI : zi_I S) (hP : va_P (zb_D G) vwCl (zb_pic G S) H) (hS : va_S (zl_A s) s.heap H locs) (hl : lv_has ls 4 [(0, .ref b), (1, .ref (zb_ad G 0)), (2, .ref (zb_ad G 21)), (3, .int (nI i))]) (kk : ∀ (S2 : zb_S) (H : Heap) (locs : List Loc), zi_I S2 → va_P (zb_D G) vwCl (zb_pic G S2) H → va_S (zl_A s) s.heap H locs → zl_W p l e s m below meth c b H locs (F0 m 910 ls [])) : zl_W p l e s m below meth c b H locs (F0 m 205 ls []) := by
  obtain ⟨hx, hb, hr, hml, hown, hts0, hX, hbl, hlocks, hgv⟩ := id C0
  have hts : ∀ w ∈ wsL_law, w.before #[Value.ref b] s = true := fun w h => hts0 w (wsL_law_in w h)
  have hbA : ¬ zl_A s b := Nat.not_le.mpr hbl
  refine lv_aload_n hx hb dL_law_205 rfl (lv_at hl 1 rfl) ?_
  obtain ⟨r, S1, S2, f1, f2, hI2⟩ := e_belt (N := 5000)  (by omega) hI
  refine zl_callV (ci := 5) (S := S) (S1 := S1) (r1 := r) (As := []) (rest := []) 0 C0 hK hG (zcX5_belt 5000 S) f1 (by omega) (by omega) rfl (by omega) rfl zw_188 zw_189 zw_190 zw_2 zw_191 ⟨rfl, by decide +kernel, by decide +kernel, by decide +kernel⟩ rfl rfl (Nat.le_of_ble_eq_true rfl) dL_law_206 hl.1 hP hS (fun H locs hP hS => ?_)
  refine lv_aload_n hx hb dL_law_209 rfl (lv_at hl 2 rfl) ?_
  refine zl_callV (ci := 6) (S := S1) (S1 := S2) (r1 := r) (As := []) (rest := [.int r]) 0 C0 hK hG (zcX6_belt 5000 S1) f2 (by omega) (by omega) rfl (by omega) rfl zw_214 zw_215 zw_216 zw_5 zw_217 ⟨rfl, by decide +kernel, by decide +kernel, by decide +kernel⟩ rfl rfl (Nat.le_of_ble_eq_true rfl) dL_law_210 hl.1 hP hS (fun H locs hP hS => ?_)
  refine lv_icmp_eq (tgt := 910) hx hb dL_law_213 (by decide) (fun _ => ?_) (fun h => absurd rfl h)
  exact kk S2 H locs hI2 hP hS
set_option maxHeartbeats 4000000 in
set_option maxRecDepth 100000 in
theorem law_4 (hL : L ≤ 2048) (C0 : lw_At p s m meth c b L xs) (hK : zb_K G s s.heap) (hG : ∀ q, zb_A G q → s.heap.size ≤ q) {i : Nat} (hi : i + 4 ≤ L) {S : zb_S} (hI : zi_I S) (hP : va_P (zb_D G) vwCl (zb_pic G S) H) (hS : va_S (zl_A s) s.heap H locs) (hl : lv_has ls 4 [(0, .ref b), (1, .ref (zb_ad G 0)), (2, .ref (zb_ad G 21)), (3, .int (nI i))]) (kk : ∀ (S2 : zb_S) (H : Heap) (locs : List Loc), zi_I S2 → va_P (zb_D G) vwCl (zb_pic G S2) H → va_S (zl_A s) s.heap H locs → zl_W p l e s m below meth c b H locs (F0 m 910 ls [])) : zl_W p l e s m below meth c b H locs (F0 m 218 ls []) := by
  obtain ⟨hx, hb, hr, hml, hown, hts0, hX, hbl, hlocks, hgv⟩ := id C0
  have hts : ∀ w ∈ wsL_law, w.before #[Value.ref b] s = true := fun w h => hts0 w (wsL_law_in w h)
  have hbA : ¬ zl_A s b := Nat.not_le.mpr hbl
  refine lv_aload_n hx hb dL_law_218 rfl (lv_at hl 1 rfl) ?_
  refine lv_aload_n hx hb dL_law_219 rfl (lv_at hl 0 rfl) ?_
  refine lv_iload_n hx hb dL_law_220 rfl (lv_at hl 3 rfl) ?_
  refine lv_iconst (v := 1) hx hb dL_law_221 (by decide) ?_
  refine lv_iadd hx hb dL_law_222 ?_
  refine va_sld hx hb hX hbl hbA hS (zl_ld (k := 1) hi hL (by omega)) dL_law_223 ?_
  refine lv_aload_n hx hb dL_law_224 rfl (lv_at hl 0 rfl) ?_
  refine lv_iload_n hx hb dL_law_225 rfl (lv_at hl 3 rfl) ?_
  refine lv_iconst (v := 2) hx hb dL_law_226 (by decide) ?_
  refine lv_iadd hx hb dL_law_227 ?_
  refine va_sld hx hb hX hbl hbA hS (zl_ld (k := 2) hi hL (by omega)) dL_law_228 ?_
  obtain ⟨r, S1, S2, f1, f2, hI2⟩ := e_zone (N := 5000) (a := (xs (nI i + 1).toNatClampNeg)) (c := (xs (nI i + 2).toNatClampNeg)) (by omega) hI
  refine zl_callV (ci := 5) (S := S) (S1 := S1) (r1 := r) (As := [.int (xs (nI i + 1).toNatClampNeg), .int (xs (nI i + 2).toNatClampNeg)]) (rest := []) 2 C0 hK hG (zcX5_zone 5000 S ((xs (nI i + 1).toNatClampNeg)) ((xs (nI i + 2).toNatClampNeg))) f1 (by omega) (by omega) rfl (by omega) rfl zw_224 zw_225 zw_226 zw_2 zw_227 ⟨rfl, by decide +kernel, by decide +kernel, by decide +kernel⟩ rfl rfl (Nat.le_of_ble_eq_true rfl) dL_law_229 hl.1 hP hS (fun H locs hP hS => ?_)
  refine lv_aload_n hx hb dL_law_232 rfl (lv_at hl 2 rfl) ?_
  refine lv_aload_n hx hb dL_law_233 rfl (lv_at hl 0 rfl) ?_
  refine lv_iload_n hx hb dL_law_234 rfl (lv_at hl 3 rfl) ?_
  refine lv_iconst (v := 1) hx hb dL_law_235 (by decide) ?_
  refine lv_iadd hx hb dL_law_236 ?_
  refine va_sld hx hb hX hbl hbA hS (zl_ld (k := 1) hi hL (by omega)) dL_law_237 ?_
  refine lv_aload_n hx hb dL_law_238 rfl (lv_at hl 0 rfl) ?_
  refine lv_iload_n hx hb dL_law_239 rfl (lv_at hl 3 rfl) ?_
  refine lv_iconst (v := 2) hx hb dL_law_240 (by decide) ?_
  refine lv_iadd hx hb dL_law_241 ?_
  refine va_sld hx hb hX hbl hbA hS (zl_ld (k := 2) hi hL (by omega)) dL_law_242 ?_
  refine zl_callV (ci := 6) (S := S1) (S1 := S2) (r1 := r) (As := [.int (xs (nI i + 1).toNatClampNeg), .int (xs (nI i + 2).toNatClampNeg)]) (rest := [.int r]) 2 C0 hK hG (zcX6_zone 5000 S1 ((xs (nI i + 1).toNatClampNeg)) ((xs (nI i + 2).toNatClampNeg))) f2 (by omega) (by omega) rfl (by omega) rfl zw_248 zw_249 zw_250 zw_5 zw_251 ⟨rfl, by decide +kernel, by decide +kernel, by decide +kernel⟩ rfl rfl (Nat.le_of_ble_eq_true rfl) dL_law_243 hl.1 hP hS (fun H locs hP hS => ?_)
  refine lv_icmp_eq (tgt := 910) hx hb dL_law_246 (by decide) (fun _ => ?_) (fun h => absurd rfl h)
  exact kk S2 H locs hI2 hP hS
set_option maxHeartbeats 4000000 in
set_option maxRecDepth 100000 in
theorem law_5 (hL : L ≤ 2048) (C0 : lw_At p s m meth c b L xs) (hK : zb_K G s s.heap) (hG : ∀ q, zb_A G q → s.heap.size ≤ q) {i : Nat} (hi : i + 4 ≤ L) {S : zb_S} (hI : zi_I S) (hP : va_P (zb_D G) vwCl (zb_pic G S) H) (hS : va_S (zl_A s) s.heap H locs) (hl : lv_has ls 4 [(0, .ref b), (1, .ref (zb_ad G 0)), (2, .ref (zb_ad G 21)), (3, .int (nI i))]) (kk : ∀ (S2 : zb_S) (H : Heap) (locs : List Loc), zi_I S2 → va_P (zb_D G) vwCl (zb_pic G S2) H → va_S (zl_A s) s.heap H locs → zl_W p l e s m below meth c b H locs (F0 m 910 ls [])) : zl_W p l e s m below meth c b H locs (F0 m 251 ls []) := by
  obtain ⟨hx, hb, hr, hml, hown, hts0, hX, hbl, hlocks, hgv⟩ := id C0
  have hts : ∀ w ∈ wsL_law, w.before #[Value.ref b] s = true := fun w h => hts0 w (wsL_law_in w h)
  have hbA : ¬ zl_A s b := Nat.not_le.mpr hbl
  refine lv_aload_n hx hb dL_law_251 rfl (lv_at hl 1 rfl) ?_
  refine lv_aload_n hx hb dL_law_252 rfl (lv_at hl 0 rfl) ?_
  refine lv_iload_n hx hb dL_law_253 rfl (lv_at hl 3 rfl) ?_
  refine lv_iconst (v := 1) hx hb dL_law_254 (by decide) ?_
  refine lv_iadd hx hb dL_law_255 ?_
  refine va_sld hx hb hX hbl hbA hS (zl_ld (k := 1) hi hL (by omega)) dL_law_256 ?_
  obtain ⟨r, S1, S2, f1, f2, hI2⟩ := e_feed (N := 5000) (a := (xs (nI i + 1).toNatClampNeg)) (by omega) hI
  refine zl_callV (ci := 5) (S := S) (S1 := S1) (r1 := r) (As := [.int (xs (nI i + 1).toNatClampNeg)]) (rest := []) 1 C0 hK hG (zcX5_feed 5000 S ((xs (nI i + 1).toNatClampNeg))) f1 (by omega) (by omega) rfl (by omega) rfl zw_264 zw_265 zw_266 zw_2 zw_267 ⟨rfl, by decide +kernel, by decide +kernel, by decide +kernel⟩ rfl rfl (Nat.le_of_ble_eq_true rfl) dL_law_257 hl.1 hP hS (fun H locs hP hS => ?_)
  refine lv_aload_n hx hb dL_law_260 rfl (lv_at hl 2 rfl) ?_
  refine lv_aload_n hx hb dL_law_261 rfl (lv_at hl 0 rfl) ?_
  refine lv_iload_n hx hb dL_law_262 rfl (lv_at hl 3 rfl) ?_
  refine lv_iconst (v := 1) hx hb dL_law_263 (by decide) ?_
  refine lv_iadd hx hb dL_law_264 ?_
  refine va_sld hx hb hX hbl hbA hS (zl_ld (k := 1) hi hL (by omega)) dL_law_265 ?_
  refine zl_callV (ci := 6) (S := S1) (S1 := S2) (r1 := r) (As := [.int (xs (nI i + 1).toNatClampNeg)]) (rest := [.int r]) 1 C0 hK hG (zcX6_feed 5000 S1 ((xs (nI i + 1).toNatClampNeg))) f2 (by omega) (by omega) rfl (by omega) rfl zw_299 zw_300 zw_301 zw_5 zw_302 ⟨rfl, by decide +kernel, by decide +kernel, by decide +kernel⟩ rfl rfl (Nat.le_of_ble_eq_true rfl) dL_law_266 hl.1 hP hS (fun H locs hP hS => ?_)
  refine lv_icmp_eq (tgt := 910) hx hb dL_law_269 (by decide) (fun _ => ?_) (fun h => absurd rfl h)
  exact kk S2 H locs hI2 hP hS
set_option maxHeartbeats 4000000 in
set_option maxRecDepth 100000 in
theorem law_6 (hL : L ≤ 2048) (C0 : lw_At p s m meth c b L xs) (hK : zb_K G s s.heap) (hG : ∀ q, zb_A G q → s.heap.size ≤ q) {i : Nat} (hi : i + 4 ≤ L) {S : zb_S} (hI : zi_I S) (hP : va_P (zb_D G) vwCl (zb_pic G S) H) (hS : va_S (zl_A s) s.heap H locs) (hl : lv_has ls 4 [(0, .ref b), (1, .ref (zb_ad G 0)), (2, .ref (zb_ad G 21)), (3, .int (nI i))]) (kk : ∀ (S2 : zb_S) (H : Heap) (locs : List Loc), zi_I S2 → va_P (zb_D G) vwCl (zb_pic G S2) H → va_S (zl_A s) s.heap H locs → zl_W p l e s m below meth c b H locs (F0 m 910 ls [])) : zl_W p l e s m below meth c b H locs (F0 m 274 ls []) := by
  obtain ⟨hx, hb, hr, hml, hown, hts0, hX, hbl, hlocks, hgv⟩ := id C0
  have hts : ∀ w ∈ wsL_law, w.before #[Value.ref b] s = true := fun w h => hts0 w (wsL_law_in w h)
  have hbA : ¬ zl_A s b := Nat.not_le.mpr hbl
  refine lv_aload_n hx hb dL_law_274 rfl (lv_at hl 1 rfl) ?_
  refine lv_aload_n hx hb dL_law_275 rfl (lv_at hl 0 rfl) ?_
  refine lv_iload_n hx hb dL_law_276 rfl (lv_at hl 3 rfl) ?_
  refine lv_iconst (v := 1) hx hb dL_law_277 (by decide) ?_
  refine lv_iadd hx hb dL_law_278 ?_
  refine va_sld hx hb hX hbl hbA hS (zl_ld (k := 1) hi hL (by omega)) dL_law_279 ?_
  obtain ⟨r, S1, S2, f1, f2, hI2⟩ := e_lift (N := 5000) (a := (xs (nI i + 1).toNatClampNeg)) (by omega) hI
  refine zl_callV (ci := 5) (S := S) (S1 := S1) (r1 := r) (As := [.int (xs (nI i + 1).toNatClampNeg)]) (rest := []) 1 C0 hK hG (zcX5_lift 5000 S ((xs (nI i + 1).toNatClampNeg))) f1 (by omega) (by omega) rfl (by omega) rfl zw_319 zw_320 zw_321 zw_2 zw_322 ⟨rfl, by decide +kernel, by decide +kernel, by decide +kernel⟩ rfl rfl (Nat.le_of_ble_eq_true rfl) dL_law_280 hl.1 hP hS (fun H locs hP hS => ?_)
  refine lv_aload_n hx hb dL_law_283 rfl (lv_at hl 2 rfl) ?_
  refine lv_aload_n hx hb dL_law_284 rfl (lv_at hl 0 rfl) ?_
  refine lv_iload_n hx hb dL_law_285 rfl (lv_at hl 3 rfl) ?_
  refine lv_iconst (v := 1) hx hb dL_law_286 (by decide) ?_
  refine lv_iadd hx hb dL_law_287 ?_
  refine va_sld hx hb hX hbl hbA hS (zl_ld (k := 1) hi hL (by omega)) dL_law_288 ?_
  refine zl_callV (ci := 6) (S := S1) (S1 := S2) (r1 := r) (As := [.int (xs (nI i + 1).toNatClampNeg)]) (rest := [.int r]) 1 C0 hK hG (zcX6_lift 5000 S1 ((xs (nI i + 1).toNatClampNeg))) f2 (by omega) (by omega) rfl (by omega) rfl zw_335 zw_336 zw_337 zw_5 zw_338 ⟨rfl, by decide +kernel, by decide +kernel, by decide +kernel⟩ rfl rfl (Nat.le_of_ble_eq_true rfl) dL_law_289 hl.1 hP hS (fun H locs hP hS => ?_)
  refine lv_icmp_eq (tgt := 910) hx hb dL_law_292 (by decide) (fun _ => ?_) (fun h => absurd rfl h)
  exact kk S2 H locs hI2 hP hS
set_option maxHeartbeats 4000000 in
set_option maxRecDepth 100000 in
theorem law_7 (hL : L ≤ 2048) (C0 : lw_At p s m meth c b L xs) (hK : zb_K G s s.heap) (hG : ∀ q, zb_A G q → s.heap.size ≤ q) {i : Nat} (hi : i + 4 ≤ L) {S : zb_S} (hI : zi_I S) (hP : va_P (zb_D G) vwCl (zb_pic G S) H) (hS : va_S (zl_A s) s.heap H locs) (hl : lv_has ls 4 [(0, .ref b), (1, .ref (zb_ad G 0)), (2, .ref (zb_ad G 21)), (3, .int (nI i))]) (kk : ∀ (S2 : zb_S) (H : Heap) (locs : List Loc), zi_I S2 → va_P (zb_D G) vwCl (zb_pic G S2) H → va_S (zl_A s) s.heap H locs → zl_W p l e s m below meth c b H locs (F0 m 910 ls [])) : zl_W p l e s m below meth c b H locs (F0 m 297 ls []) := by
  obtain ⟨hx, hb, hr, hml, hown, hts0, hX, hbl, hlocks, hgv⟩ := id C0
  have hts : ∀ w ∈ wsL_law, w.before #[Value.ref b] s = true := fun w h => hts0 w (wsL_law_in w h)
  have hbA : ¬ zl_A s b := Nat.not_le.mpr hbl
  refine lv_aload_n hx hb dL_law_297 rfl (lv_at hl 1 rfl) ?_
  obtain ⟨r, S1, S2, f1, f2, hI2⟩ := e_turn (N := 5000)  (by omega) hI
  refine zl_callV (ci := 5) (S := S) (S1 := S1) (r1 := r) (As := []) (rest := []) 0 C0 hK hG (zcX5_turn 5000 S) f1 (by omega) (by omega) rfl (by omega) rfl zw_342 zw_343 zw_344 zw_2 zw_345 ⟨rfl, by decide +kernel, by decide +kernel, by decide +kernel⟩ rfl rfl (Nat.le_of_ble_eq_true rfl) dL_law_298 hl.1 hP hS (fun H locs hP hS => ?_)
  refine lv_aload_n hx hb dL_law_301 rfl (lv_at hl 2 rfl) ?_
  refine zl_callV (ci := 6) (S := S1) (S1 := S2) (r1 := r) (As := []) (rest := [.int r]) 0 C0 hK hG (zcX6_turn 5000 S1) f2 (by omega) (by omega) rfl (by omega) rfl zw_350 zw_351 zw_352 zw_5 zw_353 ⟨rfl, by decide +kernel, by decide +kernel, by decide +kernel⟩ rfl rfl (Nat.le_of_ble_eq_true rfl) dL_law_302 hl.1 hP hS (fun H locs hP hS => ?_)
  refine lv_icmp_eq (tgt := 910) hx hb dL_law_305 (by decide) (fun _ => ?_) (fun h => absurd rfl h)
  exact kk S2 H locs hI2 hP hS
set_option maxHeartbeats 4000000 in
set_option maxRecDepth 100000 in
theorem law_8 (hL : L ≤ 2048) (C0 : lw_At p s m meth c b L xs) (hK : zb_K G s s.heap) (hG : ∀ q, zb_A G q → s.heap.size ≤ q) {i : Nat} (hi : i + 4 ≤ L) {S : zb_S} (hI : zi_I S) (hP : va_P (zb_D G) vwCl (zb_pic G S) H) (hS : va_S (zl_A s) s.heap H locs) (hl : lv_has ls 4 [(0, .ref b), (1, .ref (zb_ad G 0)), (2, .ref (zb_ad G 21)), (3, .int (nI i))]) (kk : ∀ (S2 : zb_S) (H : Heap) (locs : List Loc), zi_I S2 → va_P (zb_D G) vwCl (zb_pic G S2) H → va_S (zl_A s) s.heap H locs → zl_W p l e s m below meth c b H locs (F0 m 910 ls [])) : zl_W p l e s m below meth c b H locs (F0 m 310 ls []) := by
  obtain ⟨hx, hb, hr, hml, hown, hts0, hX, hbl, hlocks, hgv⟩ := id C0
  have hts : ∀ w ∈ wsL_law, w.before #[Value.ref b] s = true := fun w h => hts0 w (wsL_law_in w h)
  have hbA : ¬ zl_A s b := Nat.not_le.mpr hbl
  refine lv_aload_n hx hb dL_law_310 rfl (lv_at hl 1 rfl) ?_
  refine lv_aload_n hx hb dL_law_311 rfl (lv_at hl 0 rfl) ?_
  refine lv_iload_n hx hb dL_law_312 rfl (lv_at hl 3 rfl) ?_
  refine lv_iconst (v := 1) hx hb dL_law_313 (by decide) ?_
  refine lv_iadd hx hb dL_law_314 ?_
  refine va_sld hx hb hX hbl hbA hS (zl_ld (k := 1) hi hL (by omega)) dL_law_315 ?_
  refine lv_aload_n hx hb dL_law_316 rfl (lv_at hl 0 rfl) ?_
  refine lv_iload_n hx hb dL_law_317 rfl (lv_at hl 3 rfl) ?_
  refine lv_iconst (v := 2) hx hb dL_law_318 (by decide) ?_
  refine lv_iadd hx hb dL_law_319 ?_
  refine va_sld hx hb hX hbl hbA hS (zl_ld (k := 2) hi hL (by omega)) dL_law_320 ?_
  obtain ⟨r, S1, S2, f1, f2, hI2⟩ := e_eye (N := 5000) (a := (xs (nI i + 1).toNatClampNeg)) (c := (xs (nI i + 2).toNatClampNeg)) (by omega) hI
  refine zl_callV (ci := 5) (S := S) (S1 := S1) (r1 := r) (As := [.int (xs (nI i + 1).toNatClampNeg), .int (xs (nI i + 2).toNatClampNeg)]) (rest := []) 2 C0 hK hG (zcX5_eye 5000 S ((xs (nI i + 1).toNatClampNeg)) ((xs (nI i + 2).toNatClampNeg))) f1 (by omega) (by omega) rfl (by omega) rfl zw_354 zw_355 zw_356 zw_2 zw_357 ⟨rfl, by decide +kernel, by decide +kernel, by decide +kernel⟩ rfl rfl (Nat.le_of_ble_eq_true rfl) dL_law_321 hl.1 hP hS (fun H locs hP hS => ?_)
  refine lv_aload_n hx hb dL_law_324 rfl (lv_at hl 2 rfl) ?_
  refine lv_aload_n hx hb dL_law_325 rfl (lv_at hl 0 rfl) ?_
  refine lv_iload_n hx hb dL_law_326 rfl (lv_at hl 3 rfl) ?_
  refine lv_iconst (v := 1) hx hb dL_law_327 (by decide) ?_
  refine lv_iadd hx hb dL_law_328 ?_
  refine va_sld hx hb hX hbl hbA hS (zl_ld (k := 1) hi hL (by omega)) dL_law_329 ?_
  refine lv_aload_n hx hb dL_law_330 rfl (lv_at hl 0 rfl) ?_
  refine lv_iload_n hx hb dL_law_331 rfl (lv_at hl 3 rfl) ?_
  refine lv_iconst (v := 2) hx hb dL_law_332 (by decide) ?_
  refine lv_iadd hx hb dL_law_333 ?_
  refine va_sld hx hb hX hbl hbA hS (zl_ld (k := 2) hi hL (by omega)) dL_law_334 ?_
  refine zl_callV (ci := 6) (S := S1) (S1 := S2) (r1 := r) (As := [.int (xs (nI i + 1).toNatClampNeg), .int (xs (nI i + 2).toNatClampNeg)]) (rest := [.int r]) 2 C0 hK hG (zcX6_eye 5000 S1 ((xs (nI i + 1).toNatClampNeg)) ((xs (nI i + 2).toNatClampNeg))) f2 (by omega) (by omega) rfl (by omega) rfl zw_362 zw_363 zw_364 zw_5 zw_365 ⟨rfl, by decide +kernel, by decide +kernel, by decide +kernel⟩ rfl rfl (Nat.le_of_ble_eq_true rfl) dL_law_335 hl.1 hP hS (fun H locs hP hS => ?_)
  refine lv_icmp_eq (tgt := 910) hx hb dL_law_338 (by decide) (fun _ => ?_) (fun h => absurd rfl h)
  exact kk S2 H locs hI2 hP hS
set_option maxHeartbeats 4000000 in
set_option maxRecDepth 100000 in
theorem law_9 (hL : L ≤ 2048) (C0 : lw_At p s m meth c b L xs) (hK : zb_K G s s.heap) (hG : ∀ q, zb_A G q → s.heap.size ≤ q) {i : Nat} (hi : i + 4 ≤ L) {S : zb_S} (hI : zi_I S) (hP : va_P (zb_D G) vwCl (zb_pic G S) H) (hS : va_S (zl_A s) s.heap H locs) (hl : lv_has ls 4 [(0, .ref b), (1, .ref (zb_ad G 0)), (2, .ref (zb_ad G 21)), (3, .int (nI i))]) (kk : ∀ (S2 : zb_S) (H : Heap) (locs : List Loc), zi_I S2 → va_P (zb_D G) vwCl (zb_pic G S2) H → va_S (zl_A s) s.heap H locs → zl_W p l e s m below meth c b H locs (F0 m 910 ls [])) : zl_W p l e s m below meth c b H locs (F0 m 343 ls []) := by
  obtain ⟨hx, hb, hr, hml, hown, hts0, hX, hbl, hlocks, hgv⟩ := id C0
  have hts : ∀ w ∈ wsL_law, w.before #[Value.ref b] s = true := fun w h => hts0 w (wsL_law_in w h)
  have hbA : ¬ zl_A s b := Nat.not_le.mpr hbl
  refine lv_aload_n hx hb dL_law_343 rfl (lv_at hl 1 rfl) ?_
  refine lv_aload_n hx hb dL_law_344 rfl (lv_at hl 0 rfl) ?_
  refine lv_iload_n hx hb dL_law_345 rfl (lv_at hl 3 rfl) ?_
  refine lv_iconst (v := 1) hx hb dL_law_346 (by decide) ?_
  refine lv_iadd hx hb dL_law_347 ?_
  refine va_sld hx hb hX hbl hbA hS (zl_ld (k := 1) hi hL (by omega)) dL_law_348 ?_
  refine lv_aload_n hx hb dL_law_349 rfl (lv_at hl 0 rfl) ?_
  refine lv_iload_n hx hb dL_law_350 rfl (lv_at hl 3 rfl) ?_
  refine lv_iconst (v := 2) hx hb dL_law_351 (by decide) ?_
  refine lv_iadd hx hb dL_law_352 ?_
  refine va_sld hx hb hX hbl hbA hS (zl_ld (k := 2) hi hL (by omega)) dL_law_353 ?_
  obtain ⟨r, S1, S2, f1, f2, hI2⟩ := e_make (N := 5000) (a := (xs (nI i + 1).toNatClampNeg)) (c := (xs (nI i + 2).toNatClampNeg)) (by omega) hI
  refine zl_callV (ci := 5) (S := S) (S1 := S1) (r1 := r) (As := [.int (xs (nI i + 1).toNatClampNeg), .int (xs (nI i + 2).toNatClampNeg)]) (rest := []) 2 C0 hK hG (zcX5_make 5000 S ((xs (nI i + 1).toNatClampNeg)) ((xs (nI i + 2).toNatClampNeg))) f1 (by omega) (by omega) rfl (by omega) rfl zw_367 zw_368 zw_369 zw_2 zw_370 ⟨rfl, by decide +kernel, by decide +kernel, by decide +kernel⟩ rfl rfl (Nat.le_of_ble_eq_true rfl) dL_law_354 hl.1 hP hS (fun H locs hP hS => ?_)
  refine lv_aload_n hx hb dL_law_357 rfl (lv_at hl 2 rfl) ?_
  refine lv_aload_n hx hb dL_law_358 rfl (lv_at hl 0 rfl) ?_
  refine lv_iload_n hx hb dL_law_359 rfl (lv_at hl 3 rfl) ?_
  refine lv_iconst (v := 1) hx hb dL_law_360 (by decide) ?_
  refine lv_iadd hx hb dL_law_361 ?_
  refine va_sld hx hb hX hbl hbA hS (zl_ld (k := 1) hi hL (by omega)) dL_law_362 ?_
  refine lv_aload_n hx hb dL_law_363 rfl (lv_at hl 0 rfl) ?_
  refine lv_iload_n hx hb dL_law_364 rfl (lv_at hl 3 rfl) ?_
  refine lv_iconst (v := 2) hx hb dL_law_365 (by decide) ?_
  refine lv_iadd hx hb dL_law_366 ?_
  refine va_sld hx hb hX hbl hbA hS (zl_ld (k := 2) hi hL (by omega)) dL_law_367 ?_
  refine zl_callV (ci := 6) (S := S1) (S1 := S2) (r1 := r) (As := [.int (xs (nI i + 1).toNatClampNeg), .int (xs (nI i + 2).toNatClampNeg)]) (rest := [.int r]) 2 C0 hK hG (zcX6_make 5000 S1 ((xs (nI i + 1).toNatClampNeg)) ((xs (nI i + 2).toNatClampNeg))) f2 (by omega) (by omega) rfl (by omega) rfl zw_371 zw_372 zw_373 zw_5 zw_374 ⟨rfl, by decide +kernel, by decide +kernel, by decide +kernel⟩ rfl rfl (Nat.le_of_ble_eq_true rfl) dL_law_368 hl.1 hP hS (fun H locs hP hS => ?_)
  refine lv_icmp_eq (tgt := 910) hx hb dL_law_371 (by decide) (fun _ => ?_) (fun h => absurd rfl h)
  exact kk S2 H locs hI2 hP hS
set_option maxHeartbeats 4000000 in
set_option maxRecDepth 100000 in
theorem law_10 (hL : L ≤ 2048) (C0 : lw_At p s m meth c b L xs) (hK : zb_K G s s.heap) (hG : ∀ q, zb_A G q → s.heap.size ≤ q) {i : Nat} (hi : i + 4 ≤ L) {S : zb_S} (hI : zi_I S) (hP : va_P (zb_D G) vwCl (zb_pic G S) H) (hS : va_S (zl_A s) s.heap H locs) (hl : lv_has ls 4 [(0, .ref b), (1, .ref (zb_ad G 0)), (2, .ref (zb_ad G 21)), (3, .int (nI i))]) (kk : ∀ (S2 : zb_S) (H : Heap) (locs : List Loc), zi_I S2 → va_P (zb_D G) vwCl (zb_pic G S2) H → va_S (zl_A s) s.heap H locs → zl_W p l e s m below meth c b H locs (F0 m 910 ls [])) : zl_W p l e s m below meth c b H locs (F0 m 376 ls []) := by
  obtain ⟨hx, hb, hr, hml, hown, hts0, hX, hbl, hlocks, hgv⟩ := id C0
  have hts : ∀ w ∈ wsL_law, w.before #[Value.ref b] s = true := fun w h => hts0 w (wsL_law_in w h)
  have hbA : ¬ zl_A s b := Nat.not_le.mpr hbl
  refine lv_aload_n hx hb dL_law_376 rfl (lv_at hl 1 rfl) ?_
  refine lv_aload_n hx hb dL_law_377 rfl (lv_at hl 0 rfl) ?_
  refine lv_iload_n hx hb dL_law_378 rfl (lv_at hl 3 rfl) ?_
  refine lv_iconst (v := 1) hx hb dL_law_379 (by decide) ?_
  refine lv_iadd hx hb dL_law_380 ?_
  refine va_sld hx hb hX hbl hbA hS (zl_ld (k := 1) hi hL (by omega)) dL_law_381 ?_
  obtain ⟨r, S1, S2, f1, f2, hI2⟩ := e_clear (N := 5000) (a := (xs (nI i + 1).toNatClampNeg)) (by omega) hI
  refine zl_callV (ci := 5) (S := S) (S1 := S1) (r1 := r) (As := [.int (xs (nI i + 1).toNatClampNeg)]) (rest := []) 1 C0 hK hG (zcX5_clear 5000 S ((xs (nI i + 1).toNatClampNeg))) f1 (by omega) (by omega) rfl (by omega) rfl zw_375 zw_376 zw_377 zw_2 zw_378 ⟨rfl, by decide +kernel, by decide +kernel, by decide +kernel⟩ rfl rfl (Nat.le_of_ble_eq_true rfl) dL_law_382 hl.1 hP hS (fun H locs hP hS => ?_)
  refine lv_aload_n hx hb dL_law_385 rfl (lv_at hl 2 rfl) ?_
  refine lv_aload_n hx hb dL_law_386 rfl (lv_at hl 0 rfl) ?_
  refine lv_iload_n hx hb dL_law_387 rfl (lv_at hl 3 rfl) ?_
  refine lv_iconst (v := 1) hx hb dL_law_388 (by decide) ?_
  refine lv_iadd hx hb dL_law_389 ?_
  refine va_sld hx hb hX hbl hbA hS (zl_ld (k := 1) hi hL (by omega)) dL_law_390 ?_
  refine zl_callV (ci := 6) (S := S1) (S1 := S2) (r1 := r) (As := [.int (xs (nI i + 1).toNatClampNeg)]) (rest := [.int r]) 1 C0 hK hG (zcX6_clear 5000 S1 ((xs (nI i + 1).toNatClampNeg))) f2 (by omega) (by omega) rfl (by omega) rfl zw_387 zw_388 zw_389 zw_5 zw_390 ⟨rfl, by decide +kernel, by decide +kernel, by decide +kernel⟩ rfl rfl (Nat.le_of_ble_eq_true rfl) dL_law_391 hl.1 hP hS (fun H locs hP hS => ?_)
  refine lv_icmp_eq (tgt := 910) hx hb dL_law_394 (by decide) (fun _ => ?_) (fun h => absurd rfl h)
  exact kk S2 H locs hI2 hP hS
set_option maxHeartbeats 4000000 in
set_option maxRecDepth 100000 in
theorem law_11 (hL : L ≤ 2048) (C0 : lw_At p s m meth c b L xs) (hK : zb_K G s s.heap) (hG : ∀ q, zb_A G q → s.heap.size ≤ q) {i : Nat} (hi : i + 4 ≤ L) {S : zb_S} (hI : zi_I S) (hP : va_P (zb_D G) vwCl (zb_pic G S) H) (hS : va_S (zl_A s) s.heap H locs) (hl : lv_has ls 4 [(0, .ref b), (1, .ref (zb_ad G 0)), (2, .ref (zb_ad G 21)), (3, .int (nI i))]) (kk : ∀ (S2 : zb_S) (H : Heap) (locs : List Loc), zi_I S2 → va_P (zb_D G) vwCl (zb_pic G S2) H → va_S (zl_A s) s.heap H locs → zl_W p l e s m below meth c b H locs (F0 m 910 ls [])) : zl_W p l e s m below meth c b H locs (F0 m 399 ls []) := by
  obtain ⟨hx, hb, hr, hml, hown, hts0, hX, hbl, hlocks, hgv⟩ := id C0
  have hts : ∀ w ∈ wsL_law, w.before #[Value.ref b] s = true := fun w h => hts0 w (wsL_law_in w h)
  have hbA : ¬ zl_A s b := Nat.not_le.mpr hbl
  refine lv_aload_n hx hb dL_law_399 rfl (lv_at hl 1 rfl) ?_
  refine lv_aload_n hx hb dL_law_400 rfl (lv_at hl 0 rfl) ?_
  refine lv_iload_n hx hb dL_law_401 rfl (lv_at hl 3 rfl) ?_
  refine lv_iconst (v := 1) hx hb dL_law_402 (by decide) ?_
  refine lv_iadd hx hb dL_law_403 ?_
  refine va_sld hx hb hX hbl hbA hS (zl_ld (k := 1) hi hL (by omega)) dL_law_404 ?_
  obtain ⟨r, S1, S2, f1, f2, hI2⟩ := e_step (N := 5000) (a := (xs (nI i + 1).toNatClampNeg)) (by omega) hI
  refine zl_callV (ci := 5) (S := S) (S1 := S1) (r1 := r) (As := [.int (xs (nI i + 1).toNatClampNeg)]) (rest := []) 1 C0 hK hG (zcX5_step 5000 S ((xs (nI i + 1).toNatClampNeg))) f1 (by omega) (by omega) rfl (by omega) rfl zw_398 zw_399 zw_400 zw_2 zw_401 ⟨rfl, by decide +kernel, by decide +kernel, by decide +kernel⟩ rfl rfl (Nat.le_of_ble_eq_true rfl) dL_law_405 hl.1 hP hS (fun H locs hP hS => ?_)
  refine lv_aload_n hx hb dL_law_408 rfl (lv_at hl 2 rfl) ?_
  refine lv_aload_n hx hb dL_law_409 rfl (lv_at hl 0 rfl) ?_
  refine lv_iload_n hx hb dL_law_410 rfl (lv_at hl 3 rfl) ?_
  refine lv_iconst (v := 1) hx hb dL_law_411 (by decide) ?_
  refine lv_iadd hx hb dL_law_412 ?_
  refine va_sld hx hb hX hbl hbA hS (zl_ld (k := 1) hi hL (by omega)) dL_law_413 ?_
  refine zl_callV (ci := 6) (S := S1) (S1 := S2) (r1 := r) (As := [.int (xs (nI i + 1).toNatClampNeg)]) (rest := [.int r]) 1 C0 hK hG (zcX6_step 5000 S1 ((xs (nI i + 1).toNatClampNeg))) f2 (by omega) (by omega) rfl (by omega) rfl zw_459 zw_460 zw_461 zw_5 zw_462 ⟨rfl, by decide +kernel, by decide +kernel, by decide +kernel⟩ rfl rfl (Nat.le_of_ble_eq_true rfl) dL_law_414 hl.1 hP hS (fun H locs hP hS => ?_)
  refine lv_icmp_eq (tgt := 910) hx hb dL_law_417 (by decide) (fun _ => ?_) (fun h => absurd rfl h)
  exact kk S2 H locs hI2 hP hS
set_option maxHeartbeats 4000000 in
set_option maxRecDepth 100000 in
theorem law_12 (hL : L ≤ 2048) (C0 : lw_At p s m meth c b L xs) (hK : zb_K G s s.heap) (hG : ∀ q, zb_A G q → s.heap.size ≤ q) {i : Nat} (hi : i + 4 ≤ L) {S : zb_S} (hI : zi_I S) (hP : va_P (zb_D G) vwCl (zb_pic G S) H) (hS : va_S (zl_A s) s.heap H locs) (hl : lv_has ls 4 [(0, .ref b), (1, .ref (zb_ad G 0)), (2, .ref (zb_ad G 21)), (3, .int (nI i))]) (kk : ∀ (S2 : zb_S) (H : Heap) (locs : List Loc), zi_I S2 → va_P (zb_D G) vwCl (zb_pic G S2) H → va_S (zl_A s) s.heap H locs → zl_W p l e s m below meth c b H locs (F0 m 910 ls [])) : zl_W p l e s m below meth c b H locs (F0 m 422 ls []) := by
  obtain ⟨hx, hb, hr, hml, hown, hts0, hX, hbl, hlocks, hgv⟩ := id C0
  have hts : ∀ w ∈ wsL_law, w.before #[Value.ref b] s = true := fun w h => hts0 w (wsL_law_in w h)
  have hbA : ¬ zl_A s b := Nat.not_le.mpr hbl
  refine lv_aload_n hx hb dL_law_422 rfl (lv_at hl 1 rfl) ?_
  obtain ⟨r, S1, S2, f1, f2, hI2⟩ := e_undo (N := 5000)  (by omega) hI
  refine zl_callV (ci := 5) (S := S) (S1 := S1) (r1 := r) (As := []) (rest := []) 0 C0 hK hG (zcX5_undo 5000 S) f1 (by omega) (by omega) rfl (by omega) rfl zw_512 zw_513 zw_514 zw_2 zw_515 ⟨rfl, by decide +kernel, by decide +kernel, by decide +kernel⟩ rfl rfl (Nat.le_of_ble_eq_true rfl) dL_law_423 hl.1 hP hS (fun H locs hP hS => ?_)
  refine lv_aload_n hx hb dL_law_426 rfl (lv_at hl 2 rfl) ?_
  refine zl_callV (ci := 6) (S := S1) (S1 := S2) (r1 := r) (As := []) (rest := [.int r]) 0 C0 hK hG (zcX6_undo 5000 S1) f2 (by omega) (by omega) rfl (by omega) rfl zw_525 zw_526 zw_527 zw_5 zw_528 ⟨rfl, by decide +kernel, by decide +kernel, by decide +kernel⟩ rfl rfl (Nat.le_of_ble_eq_true rfl) dL_law_427 hl.1 hP hS (fun H locs hP hS => ?_)
  refine lv_icmp_eq (tgt := 910) hx hb dL_law_430 (by decide) (fun _ => ?_) (fun h => absurd rfl h)
  exact kk S2 H locs hI2 hP hS
set_option maxHeartbeats 4000000 in
set_option maxRecDepth 100000 in
theorem law_13 (hL : L ≤ 2048) (C0 : lw_At p s m meth c b L xs) (hK : zb_K G s s.heap) (hG : ∀ q, zb_A G q → s.heap.size ≤ q) {i : Nat} (hi : i + 4 ≤ L) {S : zb_S} (hI : zi_I S) (hP : va_P (zb_D G) vwCl (zb_pic G S) H) (hS : va_S (zl_A s) s.heap H locs) (hl : lv_has ls 4 [(0, .ref b), (1, .ref (zb_ad G 0)), (2, .ref (zb_ad G 21)), (3, .int (nI i))]) (kk : ∀ (S2 : zb_S) (H : Heap) (locs : List Loc), zi_I S2 → va_P (zb_D G) vwCl (zb_pic G S2) H → va_S (zl_A s) s.heap H locs → zl_W p l e s m below meth c b H locs (F0 m 910 ls [])) : zl_W p l e s m below meth c b H locs (F0 m 435 ls []) := by
  obtain ⟨hx, hb, hr, hml, hown, hts0, hX, hbl, hlocks, hgv⟩ := id C0
  have hts : ∀ w ∈ wsL_law, w.before #[Value.ref b] s = true := fun w h => hts0 w (wsL_law_in w h)
  have hbA : ¬ zl_A s b := Nat.not_le.mpr hbl
  refine lv_aload_n hx hb dL_law_435 rfl (lv_at hl 1 rfl) ?_
  refine lv_aload_n hx hb dL_law_436 rfl (lv_at hl 0 rfl) ?_
  refine lv_iload_n hx hb dL_law_437 rfl (lv_at hl 3 rfl) ?_
  refine lv_iconst (v := 1) hx hb dL_law_438 (by decide) ?_
  refine lv_iadd hx hb dL_law_439 ?_
  refine va_sld hx hb hX hbl hbA hS (zl_ld (k := 1) hi hL (by omega)) dL_law_440 ?_
  refine lv_aload_n hx hb dL_law_441 rfl (lv_at hl 0 rfl) ?_
  refine lv_iload_n hx hb dL_law_442 rfl (lv_at hl 3 rfl) ?_
  refine lv_iconst (v := 2) hx hb dL_law_443 (by decide) ?_
  refine lv_iadd hx hb dL_law_444 ?_
  refine va_sld hx hb hX hbl hbA hS (zl_ld (k := 2) hi hL (by omega)) dL_law_445 ?_
  refine lv_aload_n hx hb dL_law_446 rfl (lv_at hl 0 rfl) ?_
  refine lv_iload_n hx hb dL_law_447 rfl (lv_at hl 3 rfl) ?_
  refine lv_iconst (v := 3) hx hb dL_law_448 (by decide) ?_
  refine lv_iadd hx hb dL_law_449 ?_
  refine va_sld hx hb hX hbl hbA hS (zl_ld (k := 3) hi hL (by omega)) dL_law_450 ?_
  obtain ⟨r, S1, S2, f1, f2, hI2⟩ := e_ahead (N := 5000) (a := (xs (nI i + 1).toNatClampNeg)) (c := (xs (nI i + 2).toNatClampNeg)) (d := (xs (nI i + 3).toNatClampNeg)) (by omega) hI
  refine zl_callV (ci := 5) (S := S) (S1 := S1) (r1 := r) (As := [.int (xs (nI i + 1).toNatClampNeg), .int (xs (nI i + 2).toNatClampNeg), .int (xs (nI i + 3).toNatClampNeg)]) (rest := []) 3 C0 hK hG (zcX5_ahead 5000 S ((xs (nI i + 1).toNatClampNeg)) ((xs (nI i + 2).toNatClampNeg)) ((xs (nI i + 3).toNatClampNeg))) f1 (by omega) (by omega) rfl (by omega) rfl zw_529 zw_530 zw_531 zw_2 zw_532 ⟨rfl, by decide +kernel, by decide +kernel, by decide +kernel⟩ rfl rfl (Nat.le_of_ble_eq_true rfl) dL_law_451 hl.1 hP hS (fun H locs hP hS => ?_)
  refine lv_aload_n hx hb dL_law_454 rfl (lv_at hl 2 rfl) ?_
  refine lv_aload_n hx hb dL_law_455 rfl (lv_at hl 0 rfl) ?_
  refine lv_iload_n hx hb dL_law_456 rfl (lv_at hl 3 rfl) ?_
  refine lv_iconst (v := 1) hx hb dL_law_457 (by decide) ?_
  refine lv_iadd hx hb dL_law_458 ?_
  refine va_sld hx hb hX hbl hbA hS (zl_ld (k := 1) hi hL (by omega)) dL_law_459 ?_
  refine lv_aload_n hx hb dL_law_460 rfl (lv_at hl 0 rfl) ?_
  refine lv_iload_n hx hb dL_law_461 rfl (lv_at hl 3 rfl) ?_
  refine lv_iconst (v := 2) hx hb dL_law_462 (by decide) ?_
  refine lv_iadd hx hb dL_law_463 ?_
  refine va_sld hx hb hX hbl hbA hS (zl_ld (k := 2) hi hL (by omega)) dL_law_464 ?_
  refine lv_aload_n hx hb dL_law_465 rfl (lv_at hl 0 rfl) ?_
  refine lv_iload_n hx hb dL_law_466 rfl (lv_at hl 3 rfl) ?_
  refine lv_iconst (v := 3) hx hb dL_law_467 (by decide) ?_
  refine lv_iadd hx hb dL_law_468 ?_
  refine va_sld hx hb hX hbl hbA hS (zl_ld (k := 3) hi hL (by omega)) dL_law_469 ?_
  refine zl_callV (ci := 6) (S := S1) (S1 := S2) (r1 := r) (As := [.int (xs (nI i + 1).toNatClampNeg), .int (xs (nI i + 2).toNatClampNeg), .int (xs (nI i + 3).toNatClampNeg)]) (rest := [.int r]) 3 C0 hK hG (zcX6_ahead 5000 S1 ((xs (nI i + 1).toNatClampNeg)) ((xs (nI i + 2).toNatClampNeg)) ((xs (nI i + 3).toNatClampNeg))) f2 (by omega) (by omega) rfl (by omega) rfl zw_538 zw_539 zw_540 zw_5 zw_541 ⟨rfl, by decide +kernel, by decide +kernel, by decide +kernel⟩ rfl rfl (Nat.le_of_ble_eq_true rfl) dL_law_470 hl.1 hP hS (fun H locs hP hS => ?_)
  refine lv_icmp_eq (tgt := 910) hx hb dL_law_473 (by decide) (fun _ => ?_) (fun h => absurd rfl h)
  exact kk S2 H locs hI2 hP hS
set_option maxHeartbeats 4000000 in
set_option maxRecDepth 100000 in
theorem law_14 (hL : L ≤ 2048) (C0 : lw_At p s m meth c b L xs) (hK : zb_K G s s.heap) (hG : ∀ q, zb_A G q → s.heap.size ≤ q) {i : Nat} (hi : i + 4 ≤ L) {S : zb_S} (hI : zi_I S) (hP : va_P (zb_D G) vwCl (zb_pic G S) H) (hS : va_S (zl_A s) s.heap H locs) (hl : lv_has ls 4 [(0, .ref b), (1, .ref (zb_ad G 0)), (2, .ref (zb_ad G 21)), (3, .int (nI i))]) (kk : ∀ (S2 : zb_S) (H : Heap) (locs : List Loc), zi_I S2 → va_P (zb_D G) vwCl (zb_pic G S2) H → va_S (zl_A s) s.heap H locs → zl_W p l e s m below meth c b H locs (F0 m 910 ls [])) : zl_W p l e s m below meth c b H locs (F0 m 478 ls []) := by
  obtain ⟨hx, hb, hr, hml, hown, hts0, hX, hbl, hlocks, hgv⟩ := id C0
  have hts : ∀ w ∈ wsL_law, w.before #[Value.ref b] s = true := fun w h => hts0 w (wsL_law_in w h)
  have hbA : ¬ zl_A s b := Nat.not_le.mpr hbl
  refine lv_aload_n hx hb dL_law_478 rfl (lv_at hl 1 rfl) ?_
  refine lv_aload_n hx hb dL_law_479 rfl (lv_at hl 0 rfl) ?_
  refine lv_iload_n hx hb dL_law_480 rfl (lv_at hl 3 rfl) ?_
  refine lv_iconst (v := 1) hx hb dL_law_481 (by decide) ?_
  refine lv_iadd hx hb dL_law_482 ?_
  refine va_sld hx hb hX hbl hbA hS (zl_ld (k := 1) hi hL (by omega)) dL_law_483 ?_
  obtain ⟨r, S1, S2, f1, f2, hI2⟩ := e_ask (N := 5000) (a := (xs (nI i + 1).toNatClampNeg)) (by omega) hI
  refine zl_callV (ci := 5) (S := S) (S1 := S1) (r1 := r) (As := [.int (xs (nI i + 1).toNatClampNeg)]) (rest := []) 1 C0 hK hG (zcX5_ask 5000 S ((xs (nI i + 1).toNatClampNeg))) f1 (by omega) (by omega) rfl (by omega) rfl zw_546 zw_547 zw_548 zw_2 zw_549 ⟨rfl, by decide +kernel, by decide +kernel, by decide +kernel⟩ rfl rfl (Nat.le_of_ble_eq_true rfl) dL_law_484 hl.1 hP hS (fun H locs hP hS => ?_)
  refine lv_aload_n hx hb dL_law_487 rfl (lv_at hl 2 rfl) ?_
  refine lv_aload_n hx hb dL_law_488 rfl (lv_at hl 0 rfl) ?_
  refine lv_iload_n hx hb dL_law_489 rfl (lv_at hl 3 rfl) ?_
  refine lv_iconst (v := 1) hx hb dL_law_490 (by decide) ?_
  refine lv_iadd hx hb dL_law_491 ?_
  refine va_sld hx hb hX hbl hbA hS (zl_ld (k := 1) hi hL (by omega)) dL_law_492 ?_
  refine zl_callV (ci := 6) (S := S1) (S1 := S2) (r1 := r) (As := [.int (xs (nI i + 1).toNatClampNeg)]) (rest := [.int r]) 1 C0 hK hG (zcX6_ask 5000 S1 ((xs (nI i + 1).toNatClampNeg))) f2 (by omega) (by omega) rfl (by omega) rfl zw_563 zw_564 zw_565 zw_5 zw_566 ⟨rfl, by decide +kernel, by decide +kernel, by decide +kernel⟩ rfl rfl (Nat.le_of_ble_eq_true rfl) dL_law_493 hl.1 hP hS (fun H locs hP hS => ?_)
  refine lv_icmp_eq (tgt := 910) hx hb dL_law_496 (by decide) (fun _ => ?_) (fun h => absurd rfl h)
  exact kk S2 H locs hI2 hP hS
set_option maxHeartbeats 4000000 in
set_option maxRecDepth 100000 in
theorem law_15 (hL : L ≤ 2048) (C0 : lw_At p s m meth c b L xs) (hK : zb_K G s s.heap) (hG : ∀ q, zb_A G q → s.heap.size ≤ q) {i : Nat} (hi : i + 4 ≤ L) {S : zb_S} (hI : zi_I S) (hP : va_P (zb_D G) vwCl (zb_pic G S) H) (hS : va_S (zl_A s) s.heap H locs) (hl : lv_has ls 4 [(0, .ref b), (1, .ref (zb_ad G 0)), (2, .ref (zb_ad G 21)), (3, .int (nI i))]) (kk : ∀ (S2 : zb_S) (H : Heap) (locs : List Loc), zi_I S2 → va_P (zb_D G) vwCl (zb_pic G S2) H → va_S (zl_A s) s.heap H locs → zl_W p l e s m below meth c b H locs (F0 m 910 ls [])) : zl_W p l e s m below meth c b H locs (F0 m 501 ls []) := by
  obtain ⟨hx, hb, hr, hml, hown, hts0, hX, hbl, hlocks, hgv⟩ := id C0
  have hts : ∀ w ∈ wsL_law, w.before #[Value.ref b] s = true := fun w h => hts0 w (wsL_law_in w h)
  have hbA : ¬ zl_A s b := Nat.not_le.mpr hbl
  refine lv_aload_n hx hb dL_law_501 rfl (lv_at hl 1 rfl) ?_
  refine lv_aload_n hx hb dL_law_502 rfl (lv_at hl 0 rfl) ?_
  refine lv_iload_n hx hb dL_law_503 rfl (lv_at hl 3 rfl) ?_
  refine lv_iconst (v := 1) hx hb dL_law_504 (by decide) ?_
  refine lv_iadd hx hb dL_law_505 ?_
  refine va_sld hx hb hX hbl hbA hS (zl_ld (k := 1) hi hL (by omega)) dL_law_506 ?_
  obtain ⟨r, S1, S2, f1, f2, hI2⟩ := e_row (N := 5000) (a := (xs (nI i + 1).toNatClampNeg)) (by omega) hI
  refine zl_callV (ci := 5) (S := S) (S1 := S1) (r1 := r) (As := [.int (xs (nI i + 1).toNatClampNeg)]) (rest := []) 1 C0 hK hG (zcX5_row 5000 S ((xs (nI i + 1).toNatClampNeg))) f1 (by omega) (by omega) rfl (by omega) rfl zw_579 zw_580 zw_581 zw_2 zw_582 ⟨rfl, by decide +kernel, by decide +kernel, by decide +kernel⟩ rfl rfl (Nat.le_of_ble_eq_true rfl) dL_law_507 hl.1 hP hS (fun H locs hP hS => ?_)
  refine lv_aload_n hx hb dL_law_510 rfl (lv_at hl 2 rfl) ?_
  refine lv_aload_n hx hb dL_law_511 rfl (lv_at hl 0 rfl) ?_
  refine lv_iload_n hx hb dL_law_512 rfl (lv_at hl 3 rfl) ?_
  refine lv_iconst (v := 1) hx hb dL_law_513 (by decide) ?_
  refine lv_iadd hx hb dL_law_514 ?_
  refine va_sld hx hb hX hbl hbA hS (zl_ld (k := 1) hi hL (by omega)) dL_law_515 ?_
  refine zl_callV (ci := 6) (S := S1) (S1 := S2) (r1 := r) (As := [.int (xs (nI i + 1).toNatClampNeg)]) (rest := [.int r]) 1 C0 hK hG (zcX6_row 5000 S1 ((xs (nI i + 1).toNatClampNeg))) f2 (by omega) (by omega) rfl (by omega) rfl zw_584 zw_585 zw_586 zw_5 zw_587 ⟨rfl, by decide +kernel, by decide +kernel, by decide +kernel⟩ rfl rfl (Nat.le_of_ble_eq_true rfl) dL_law_516 hl.1 hP hS (fun H locs hP hS => ?_)
  refine lv_icmp_eq (tgt := 910) hx hb dL_law_519 (by decide) (fun _ => ?_) (fun h => absurd rfl h)
  exact kk S2 H locs hI2 hP hS
set_option maxHeartbeats 4000000 in
set_option maxRecDepth 100000 in
theorem law_16 (hL : L ≤ 2048) (C0 : lw_At p s m meth c b L xs) (hK : zb_K G s s.heap) (hG : ∀ q, zb_A G q → s.heap.size ≤ q) {i : Nat} (hi : i + 4 ≤ L) {S : zb_S} (hI : zi_I S) (hP : va_P (zb_D G) vwCl (zb_pic G S) H) (hS : va_S (zl_A s) s.heap H locs) (hl : lv_has ls 4 [(0, .ref b), (1, .ref (zb_ad G 0)), (2, .ref (zb_ad G 21)), (3, .int (nI i))]) (kk : ∀ (S2 : zb_S) (H : Heap) (locs : List Loc), zi_I S2 → va_P (zb_D G) vwCl (zb_pic G S2) H → va_S (zl_A s) s.heap H locs → zl_W p l e s m below meth c b H locs (F0 m 910 ls [])) : zl_W p l e s m below meth c b H locs (F0 m 524 ls []) := by
  obtain ⟨hx, hb, hr, hml, hown, hts0, hX, hbl, hlocks, hgv⟩ := id C0
  have hts : ∀ w ∈ wsL_law, w.before #[Value.ref b] s = true := fun w h => hts0 w (wsL_law_in w h)
  have hbA : ¬ zl_A s b := Nat.not_le.mpr hbl
  refine lv_aload_n hx hb dL_law_524 rfl (lv_at hl 1 rfl) ?_
  refine lv_aload_n hx hb dL_law_525 rfl (lv_at hl 0 rfl) ?_
  refine lv_iload_n hx hb dL_law_526 rfl (lv_at hl 3 rfl) ?_
  refine lv_iconst (v := 1) hx hb dL_law_527 (by decide) ?_
  refine lv_iadd hx hb dL_law_528 ?_
  refine va_sld hx hb hX hbl hbA hS (zl_ld (k := 1) hi hL (by omega)) dL_law_529 ?_
  refine lv_aload_n hx hb dL_law_530 rfl (lv_at hl 0 rfl) ?_
  refine lv_iload_n hx hb dL_law_531 rfl (lv_at hl 3 rfl) ?_
  refine lv_iconst (v := 2) hx hb dL_law_532 (by decide) ?_
  refine lv_iadd hx hb dL_law_533 ?_
  refine va_sld hx hb hX hbl hbA hS (zl_ld (k := 2) hi hL (by omega)) dL_law_534 ?_
  refine lv_i2l hx hb dL_law_535 rfl ?_
  refine lv_bipush (v := 32) hx hb dL_law_536 (by decide) ?_
  refine lv_lshl hx hb dL_law_538 rfl ?_
  refine lv_aload_n hx hb dL_law_539 rfl (lv_at hl 0 rfl) ?_
  refine lv_iload_n hx hb dL_law_540 rfl (lv_at hl 3 rfl) ?_
  refine lv_iconst (v := 3) hx hb dL_law_541 (by decide) ?_
  refine lv_iadd hx hb dL_law_542 ?_
  refine va_sld hx hb hX hbl hbA hS (zl_ld (k := 3) hi hL (by omega)) dL_law_543 ?_
  refine lv_i2l hx hb dL_law_544 rfl ?_
  refine lv_ldc2 hx hb hown (hts _ zw_6) dL_law_545 ?_
  refine lv_land hx hb dL_law_548 ?_
  refine lv_lor hx hb dL_law_549 ?_
  refine lv_topl (fun v1 ev1 => ?_)
  obtain ⟨r, S1, S2, f1, f2, hI2⟩ := e_judge (N := 5000) (a := (xs (nI i + 1).toNatClampNeg)) (c := v1) (by omega) hI
  refine zl_callV (ci := 5) (S := S) (S1 := S1) (r1 := r) (As := [.int (xs (nI i + 1).toNatClampNeg), .long v1]) (rest := []) 2 C0 hK hG (zcX5_judge 5000 S ((xs (nI i + 1).toNatClampNeg)) (v1)) f1 (by omega) (by omega) rfl (by omega) rfl zw_592 zw_593 zw_594 zw_2 zw_595 ⟨rfl, by decide +kernel, by decide +kernel, by decide +kernel⟩ rfl rfl (Nat.le_of_ble_eq_true rfl) dL_law_550 hl.1 hP hS (fun H locs hP hS => ?_)
  refine lv_aload_n hx hb dL_law_553 rfl (lv_at hl 2 rfl) ?_
  refine lv_aload_n hx hb dL_law_554 rfl (lv_at hl 0 rfl) ?_
  refine lv_iload_n hx hb dL_law_555 rfl (lv_at hl 3 rfl) ?_
  refine lv_iconst (v := 1) hx hb dL_law_556 (by decide) ?_
  refine lv_iadd hx hb dL_law_557 ?_
  refine va_sld hx hb hX hbl hbA hS (zl_ld (k := 1) hi hL (by omega)) dL_law_558 ?_
  refine lv_aload_n hx hb dL_law_559 rfl (lv_at hl 0 rfl) ?_
  refine lv_iload_n hx hb dL_law_560 rfl (lv_at hl 3 rfl) ?_
  refine lv_iconst (v := 2) hx hb dL_law_561 (by decide) ?_
  refine lv_iadd hx hb dL_law_562 ?_
  refine va_sld hx hb hX hbl hbA hS (zl_ld (k := 2) hi hL (by omega)) dL_law_563 ?_
  refine lv_i2l hx hb dL_law_564 rfl ?_
  refine lv_bipush (v := 32) hx hb dL_law_565 (by decide) ?_
  refine lv_lshl hx hb dL_law_567 rfl ?_
  refine lv_aload_n hx hb dL_law_568 rfl (lv_at hl 0 rfl) ?_
  refine lv_iload_n hx hb dL_law_569 rfl (lv_at hl 3 rfl) ?_
  refine lv_iconst (v := 3) hx hb dL_law_570 (by decide) ?_
  refine lv_iadd hx hb dL_law_571 ?_
  refine va_sld hx hb hX hbl hbA hS (zl_ld (k := 3) hi hL (by omega)) dL_law_572 ?_
  refine lv_i2l hx hb dL_law_573 rfl ?_
  refine lv_ldc2 hx hb hown (hts _ zw_6) dL_law_574 ?_
  refine lv_land hx hb dL_law_577 ?_
  refine lv_lor hx hb dL_law_578 ?_
  refine lv_topl (fun v2 ev2 => ?_)
  rw [ev1.symm] at ev2
  subst ev2
  refine zl_callV (ci := 6) (S := S1) (S1 := S2) (r1 := r) (As := [.int (xs (nI i + 1).toNatClampNeg), .long v2]) (rest := [.int r]) 2 C0 hK hG (zcX6_judge 5000 S1 ((xs (nI i + 1).toNatClampNeg)) (v2)) f2 (by omega) (by omega) rfl (by omega) rfl zw_613 zw_614 zw_615 zw_5 zw_616 ⟨rfl, by decide +kernel, by decide +kernel, by decide +kernel⟩ rfl rfl (Nat.le_of_ble_eq_true rfl) dL_law_579 hl.1 hP hS (fun H locs hP hS => ?_)
  refine lv_icmp_eq (tgt := 910) hx hb dL_law_582 (by decide) (fun _ => ?_) (fun h => absurd rfl h)
  exact kk S2 H locs hI2 hP hS
set_option maxHeartbeats 4000000 in
set_option maxRecDepth 100000 in
theorem law_17 (hL : L ≤ 2048) (C0 : lw_At p s m meth c b L xs) (hK : zb_K G s s.heap) (hG : ∀ q, zb_A G q → s.heap.size ≤ q) {i : Nat} (hi : i + 4 ≤ L) {S : zb_S} (hI : zi_I S) (hP : va_P (zb_D G) vwCl (zb_pic G S) H) (hS : va_S (zl_A s) s.heap H locs) (hl : lv_has ls 4 [(0, .ref b), (1, .ref (zb_ad G 0)), (2, .ref (zb_ad G 21)), (3, .int (nI i))]) (kk : ∀ (S2 : zb_S) (H : Heap) (locs : List Loc), zi_I S2 → va_P (zb_D G) vwCl (zb_pic G S2) H → va_S (zl_A s) s.heap H locs → zl_W p l e s m below meth c b H locs (F0 m 910 ls [])) : zl_W p l e s m below meth c b H locs (F0 m 587 ls []) := by
  obtain ⟨hx, hb, hr, hml, hown, hts0, hX, hbl, hlocks, hgv⟩ := id C0
  have hts : ∀ w ∈ wsL_law, w.before #[Value.ref b] s = true := fun w h => hts0 w (wsL_law_in w h)
  have hbA : ¬ zl_A s b := Nat.not_le.mpr hbl
  refine lv_aload_n hx hb dL_law_587 rfl (lv_at hl 1 rfl) ?_
  refine lv_aload_n hx hb dL_law_588 rfl (lv_at hl 0 rfl) ?_
  refine lv_iload_n hx hb dL_law_589 rfl (lv_at hl 3 rfl) ?_
  refine lv_iconst (v := 1) hx hb dL_law_590 (by decide) ?_
  refine lv_iadd hx hb dL_law_591 ?_
  refine va_sld hx hb hX hbl hbA hS (zl_ld (k := 1) hi hL (by omega)) dL_law_592 ?_
  refine lv_aload_n hx hb dL_law_593 rfl (lv_at hl 0 rfl) ?_
  refine lv_iload_n hx hb dL_law_594 rfl (lv_at hl 3 rfl) ?_
  refine lv_iconst (v := 2) hx hb dL_law_595 (by decide) ?_
  refine lv_iadd hx hb dL_law_596 ?_
  refine va_sld hx hb hX hbl hbA hS (zl_ld (k := 2) hi hL (by omega)) dL_law_597 ?_
  refine lv_aload_n hx hb dL_law_598 rfl (lv_at hl 0 rfl) ?_
  refine lv_iload_n hx hb dL_law_599 rfl (lv_at hl 3 rfl) ?_
  refine lv_iconst (v := 3) hx hb dL_law_600 (by decide) ?_
  refine lv_iadd hx hb dL_law_601 ?_
  refine va_sld hx hb hX hbl hbA hS (zl_ld (k := 3) hi hL (by omega)) dL_law_602 ?_
  obtain ⟨r, S1, S2, f1, f2, hI2⟩ := e_see (N := 5000) (a := (xs (nI i + 1).toNatClampNeg)) (b := (xs (nI i + 2).toNatClampNeg)) (c := (xs (nI i + 3).toNatClampNeg)) hI
  refine zl_callV (ci := 5) (S := S) (S1 := S1) (r1 := r) (As := [.int (xs (nI i + 1).toNatClampNeg), .int (xs (nI i + 2).toNatClampNeg), .int (xs (nI i + 3).toNatClampNeg)]) (rest := []) 3 C0 hK hG (zcX5_see 5000 S ((xs (nI i + 1).toNatClampNeg)) ((xs (nI i + 2).toNatClampNeg)) ((xs (nI i + 3).toNatClampNeg))) f1 (by omega) (by omega) rfl (by omega) rfl zw_626 zw_627 zw_628 zw_2 zw_629 ⟨rfl, by decide +kernel, by decide +kernel, by decide +kernel⟩ rfl rfl (Nat.le_of_ble_eq_true rfl) dL_law_603 hl.1 hP hS (fun H locs hP hS => ?_)
  refine lv_aload_n hx hb dL_law_606 rfl (lv_at hl 2 rfl) ?_
  refine lv_aload_n hx hb dL_law_607 rfl (lv_at hl 0 rfl) ?_
  refine lv_iload_n hx hb dL_law_608 rfl (lv_at hl 3 rfl) ?_
  refine lv_iconst (v := 1) hx hb dL_law_609 (by decide) ?_
  refine lv_iadd hx hb dL_law_610 ?_
  refine va_sld hx hb hX hbl hbA hS (zl_ld (k := 1) hi hL (by omega)) dL_law_611 ?_
  refine lv_aload_n hx hb dL_law_612 rfl (lv_at hl 0 rfl) ?_
  refine lv_iload_n hx hb dL_law_613 rfl (lv_at hl 3 rfl) ?_
  refine lv_iconst (v := 2) hx hb dL_law_614 (by decide) ?_
  refine lv_iadd hx hb dL_law_615 ?_
  refine va_sld hx hb hX hbl hbA hS (zl_ld (k := 2) hi hL (by omega)) dL_law_616 ?_
  refine lv_aload_n hx hb dL_law_617 rfl (lv_at hl 0 rfl) ?_
  refine lv_iload_n hx hb dL_law_618 rfl (lv_at hl 3 rfl) ?_
  refine lv_iconst (v := 3) hx hb dL_law_619 (by decide) ?_
  refine lv_iadd hx hb dL_law_620 ?_
  refine va_sld hx hb hX hbl hbA hS (zl_ld (k := 3) hi hL (by omega)) dL_law_621 ?_
  refine zl_callV (ci := 6) (S := S1) (S1 := S2) (r1 := r) (As := [.int (xs (nI i + 1).toNatClampNeg), .int (xs (nI i + 2).toNatClampNeg), .int (xs (nI i + 3).toNatClampNeg)]) (rest := [.int r]) 3 C0 hK hG (zcX6_see 5000 S1 ((xs (nI i + 1).toNatClampNeg)) ((xs (nI i + 2).toNatClampNeg)) ((xs (nI i + 3).toNatClampNeg))) f2 (by omega) (by omega) rfl (by omega) rfl zw_635 zw_636 zw_637 zw_5 zw_638 ⟨rfl, by decide +kernel, by decide +kernel, by decide +kernel⟩ rfl rfl (Nat.le_of_ble_eq_true rfl) dL_law_622 hl.1 hP hS (fun H locs hP hS => ?_)
  refine lv_icmp_eq (tgt := 910) hx hb dL_law_625 (by decide) (fun _ => ?_) (fun h => absurd rfl h)
  exact kk S2 H locs hI2 hP hS
set_option maxHeartbeats 4000000 in
set_option maxRecDepth 100000 in
theorem law_18 (hL : L ≤ 2048) (C0 : lw_At p s m meth c b L xs) (hK : zb_K G s s.heap) (hG : ∀ q, zb_A G q → s.heap.size ≤ q) {i : Nat} (hi : i + 4 ≤ L) {S : zb_S} (hI : zi_I S) (hP : va_P (zb_D G) vwCl (zb_pic G S) H) (hS : va_S (zl_A s) s.heap H locs) (hl : lv_has ls 4 [(0, .ref b), (1, .ref (zb_ad G 0)), (2, .ref (zb_ad G 21)), (3, .int (nI i))]) (kk : ∀ (S2 : zb_S) (H : Heap) (locs : List Loc), zi_I S2 → va_P (zb_D G) vwCl (zb_pic G S2) H → va_S (zl_A s) s.heap H locs → zl_W p l e s m below meth c b H locs (F0 m 910 ls [])) : zl_W p l e s m below meth c b H locs (F0 m 630 ls []) := by
  obtain ⟨hx, hb, hr, hml, hown, hts0, hX, hbl, hlocks, hgv⟩ := id C0
  have hts : ∀ w ∈ wsL_law, w.before #[Value.ref b] s = true := fun w h => hts0 w (wsL_law_in w h)
  have hbA : ¬ zl_A s b := Nat.not_le.mpr hbl
  refine lv_aload_n hx hb dL_law_630 rfl (lv_at hl 1 rfl) ?_
  obtain ⟨r, S1, S2, f1, f2, hI2⟩ := e_unsee (N := 5000)  hI
  refine zl_callV (ci := 5) (S := S) (S1 := S1) (r1 := r) (As := []) (rest := []) 0 C0 hK hG (zcX5_unsee 5000 S) f1 (by omega) (by omega) rfl (by omega) rfl zw_641 zw_642 zw_643 zw_2 zw_644 ⟨rfl, by decide +kernel, by decide +kernel, by decide +kernel⟩ rfl rfl (Nat.le_of_ble_eq_true rfl) dL_law_631 hl.1 hP hS (fun H locs hP hS => ?_)
  refine lv_aload_n hx hb dL_law_634 rfl (lv_at hl 2 rfl) ?_
  refine zl_callV (ci := 6) (S := S1) (S1 := S2) (r1 := r) (As := []) (rest := [.int r]) 0 C0 hK hG (zcX6_unsee 5000 S1) f2 (by omega) (by omega) rfl (by omega) rfl zw_645 zw_646 zw_647 zw_5 zw_648 ⟨rfl, by decide +kernel, by decide +kernel, by decide +kernel⟩ rfl rfl (Nat.le_of_ble_eq_true rfl) dL_law_635 hl.1 hP hS (fun H locs hP hS => ?_)
  refine lv_icmp_eq (tgt := 910) hx hb dL_law_638 (by decide) (fun _ => ?_) (fun h => absurd rfl h)
  exact kk S2 H locs hI2 hP hS
set_option maxHeartbeats 4000000 in
set_option maxRecDepth 100000 in
theorem law_19 (hL : L ≤ 2048) (C0 : lw_At p s m meth c b L xs) (hK : zb_K G s s.heap) (hG : ∀ q, zb_A G q → s.heap.size ≤ q) {i : Nat} (hi : i + 4 ≤ L) {S : zb_S} (hI : zi_I S) (hP : va_P (zb_D G) vwCl (zb_pic G S) H) (hS : va_S (zl_A s) s.heap H locs) (hl : lv_has ls 4 [(0, .ref b), (1, .ref (zb_ad G 0)), (2, .ref (zb_ad G 21)), (3, .int (nI i))]) (kk : ∀ (S2 : zb_S) (H : Heap) (locs : List Loc), zi_I S2 → va_P (zb_D G) vwCl (zb_pic G S2) H → va_S (zl_A s) s.heap H locs → zl_W p l e s m below meth c b H locs (F0 m 910 ls [])) : zl_W p l e s m below meth c b H locs (F0 m 643 ls []) := by
  obtain ⟨hx, hb, hr, hml, hown, hts0, hX, hbl, hlocks, hgv⟩ := id C0
  have hts : ∀ w ∈ wsL_law, w.before #[Value.ref b] s = true := fun w h => hts0 w (wsL_law_in w h)
  have hbA : ¬ zl_A s b := Nat.not_le.mpr hbl
  refine lv_aload_n hx hb dL_law_643 rfl (lv_at hl 1 rfl) ?_
  obtain ⟨r, S1, S2, f1, f2, hI2⟩ := e_which (N := 5000)  (by omega) hI
  refine zl_callV (ci := 5) (S := S) (S1 := S1) (r1 := r) (As := []) (rest := []) 0 C0 hK hG (zcX5_which 5000 S) f1 (by omega) (by omega) rfl (by omega) rfl zw_649 zw_650 zw_651 zw_2 zw_652 ⟨rfl, by decide +kernel, by decide +kernel, by decide +kernel⟩ rfl rfl (Nat.le_of_ble_eq_true rfl) dL_law_644 hl.1 hP hS (fun H locs hP hS => ?_)
  refine lv_aload_n hx hb dL_law_647 rfl (lv_at hl 2 rfl) ?_
  refine zl_callV (ci := 6) (S := S1) (S1 := S2) (r1 := r) (As := []) (rest := [.int r]) 0 C0 hK hG (zcX6_which 5000 S1) f2 (by omega) (by omega) rfl (by omega) rfl zw_668 zw_669 zw_670 zw_5 zw_671 ⟨rfl, by decide +kernel, by decide +kernel, by decide +kernel⟩ rfl rfl (Nat.le_of_ble_eq_true rfl) dL_law_648 hl.1 hP hS (fun H locs hP hS => ?_)
  refine lv_icmp_eq (tgt := 910) hx hb dL_law_651 (by decide) (fun _ => ?_) (fun h => absurd rfl h)
  exact kk S2 H locs hI2 hP hS
set_option maxHeartbeats 4000000 in
set_option maxRecDepth 100000 in
theorem law_20 (hL : L ≤ 2048) (C0 : lw_At p s m meth c b L xs) (hK : zb_K G s s.heap) (hG : ∀ q, zb_A G q → s.heap.size ≤ q) {i : Nat} (hi : i + 4 ≤ L) {S : zb_S} (hI : zi_I S) (hP : va_P (zb_D G) vwCl (zb_pic G S) H) (hS : va_S (zl_A s) s.heap H locs) (hl : lv_has ls 4 [(0, .ref b), (1, .ref (zb_ad G 0)), (2, .ref (zb_ad G 21)), (3, .int (nI i))]) (kk : ∀ (S2 : zb_S) (H : Heap) (locs : List Loc), zi_I S2 → va_P (zb_D G) vwCl (zb_pic G S2) H → va_S (zl_A s) s.heap H locs → zl_W p l e s m below meth c b H locs (F0 m 910 ls [])) : zl_W p l e s m below meth c b H locs (F0 m 656 ls []) := by
  obtain ⟨hx, hb, hr, hml, hown, hts0, hX, hbl, hlocks, hgv⟩ := id C0
  have hts : ∀ w ∈ wsL_law, w.before #[Value.ref b] s = true := fun w h => hts0 w (wsL_law_in w h)
  have hbA : ¬ zl_A s b := Nat.not_le.mpr hbl
  refine lv_aload_n hx hb dL_law_656 rfl (lv_at hl 1 rfl) ?_
  refine lv_aload_n hx hb dL_law_657 rfl (lv_at hl 0 rfl) ?_
  refine lv_iload_n hx hb dL_law_658 rfl (lv_at hl 3 rfl) ?_
  refine lv_iconst (v := 1) hx hb dL_law_659 (by decide) ?_
  refine lv_iadd hx hb dL_law_660 ?_
  refine va_sld hx hb hX hbl hbA hS (zl_ld (k := 1) hi hL (by omega)) dL_law_661 ?_
  refine lv_aload_n hx hb dL_law_662 rfl (lv_at hl 0 rfl) ?_
  refine lv_iload_n hx hb dL_law_663 rfl (lv_at hl 3 rfl) ?_
  refine lv_iconst (v := 2) hx hb dL_law_664 (by decide) ?_
  refine lv_iadd hx hb dL_law_665 ?_
  refine va_sld hx hb hX hbl hbA hS (zl_ld (k := 2) hi hL (by omega)) dL_law_666 ?_
  refine zl_flag hx hb dL_law_667 dL_law_670 dL_law_671 dL_law_674 ?_
  obtain ⟨r, S1, S2, f1, f2, hI2⟩ := e_share (N := 5000) (a := (xs (nI i + 1).toNatClampNeg)) (u := (if (xs (nI i + 2).toNatClampNeg) = 0 then 0 else 1)) (by omega) hI
  refine zl_callV (ci := 5) (S := S) (S1 := S1) (r1 := r) (As := [.int (xs (nI i + 1).toNatClampNeg), .int (if (xs (nI i + 2).toNatClampNeg) = 0 then 0 else 1)]) (rest := []) 2 C0 hK hG (zcX5_share 5000 S ((xs (nI i + 1).toNatClampNeg)) ((if (xs (nI i + 2).toNatClampNeg) = 0 then 0 else 1))) f1 (by omega) (by omega) rfl (by omega) rfl zw_676 zw_677 zw_678 zw_2 zw_679 ⟨rfl, by decide +kernel, by decide +kernel, by decide +kernel⟩ rfl rfl (Nat.le_of_ble_eq_true rfl) dL_law_675 hl.1 hP hS (fun H locs hP hS => ?_)
  refine lv_aload_n hx hb dL_law_678 rfl (lv_at hl 2 rfl) ?_
  refine lv_aload_n hx hb dL_law_679 rfl (lv_at hl 0 rfl) ?_
  refine lv_iload_n hx hb dL_law_680 rfl (lv_at hl 3 rfl) ?_
  refine lv_iconst (v := 1) hx hb dL_law_681 (by decide) ?_
  refine lv_iadd hx hb dL_law_682 ?_
  refine va_sld hx hb hX hbl hbA hS (zl_ld (k := 1) hi hL (by omega)) dL_law_683 ?_
  refine lv_aload_n hx hb dL_law_684 rfl (lv_at hl 0 rfl) ?_
  refine lv_iload_n hx hb dL_law_685 rfl (lv_at hl 3 rfl) ?_
  refine lv_iconst (v := 2) hx hb dL_law_686 (by decide) ?_
  refine lv_iadd hx hb dL_law_687 ?_
  refine va_sld hx hb hX hbl hbA hS (zl_ld (k := 2) hi hL (by omega)) dL_law_688 ?_
  refine zl_flag hx hb dL_law_689 dL_law_692 dL_law_693 dL_law_696 ?_
  refine zl_callV (ci := 6) (S := S1) (S1 := S2) (r1 := r) (As := [.int (xs (nI i + 1).toNatClampNeg), .int (if (xs (nI i + 2).toNatClampNeg) = 0 then 0 else 1)]) (rest := [.int r]) 2 C0 hK hG (zcX6_share 5000 S1 ((xs (nI i + 1).toNatClampNeg)) ((if (xs (nI i + 2).toNatClampNeg) = 0 then 0 else 1))) f2 (by omega) (by omega) rfl (by omega) rfl zw_706 zw_707 zw_708 zw_5 zw_709 ⟨rfl, by decide +kernel, by decide +kernel, by decide +kernel⟩ rfl rfl (Nat.le_of_ble_eq_true rfl) dL_law_697 hl.1 hP hS (fun H locs hP hS => ?_)
  refine lv_icmp_eq (tgt := 910) hx hb dL_law_700 (by decide) (fun _ => ?_) (fun h => absurd rfl h)
  exact kk S2 H locs hI2 hP hS
set_option maxHeartbeats 4000000 in
set_option maxRecDepth 100000 in
theorem law_21 (hL : L ≤ 2048) (C0 : lw_At p s m meth c b L xs) (hK : zb_K G s s.heap) (hG : ∀ q, zb_A G q → s.heap.size ≤ q) {i : Nat} (hi : i + 4 ≤ L) {S : zb_S} (hI : zi_I S) (hP : va_P (zb_D G) vwCl (zb_pic G S) H) (hS : va_S (zl_A s) s.heap H locs) (hl : lv_has ls 4 [(0, .ref b), (1, .ref (zb_ad G 0)), (2, .ref (zb_ad G 21)), (3, .int (nI i))]) (kk : ∀ (S2 : zb_S) (H : Heap) (locs : List Loc), zi_I S2 → va_P (zb_D G) vwCl (zb_pic G S2) H → va_S (zl_A s) s.heap H locs → zl_W p l e s m below meth c b H locs (F0 m 910 ls [])) : zl_W p l e s m below meth c b H locs (F0 m 705 ls []) := by
  obtain ⟨hx, hb, hr, hml, hown, hts0, hX, hbl, hlocks, hgv⟩ := id C0
  have hts : ∀ w ∈ wsL_law, w.before #[Value.ref b] s = true := fun w h => hts0 w (wsL_law_in w h)
  have hbA : ¬ zl_A s b := Nat.not_le.mpr hbl
  refine lv_aload_n hx hb dL_law_705 rfl (lv_at hl 1 rfl) ?_
  refine lv_aload_n hx hb dL_law_706 rfl (lv_at hl 0 rfl) ?_
  refine lv_iload_n hx hb dL_law_707 rfl (lv_at hl 3 rfl) ?_
  refine lv_iconst (v := 1) hx hb dL_law_708 (by decide) ?_
  refine lv_iadd hx hb dL_law_709 ?_
  refine va_sld hx hb hX hbl hbA hS (zl_ld (k := 1) hi hL (by omega)) dL_law_710 ?_
  refine lv_aload_n hx hb dL_law_711 rfl (lv_at hl 0 rfl) ?_
  refine lv_iload_n hx hb dL_law_712 rfl (lv_at hl 3 rfl) ?_
  refine lv_iconst (v := 2) hx hb dL_law_713 (by decide) ?_
  refine lv_iadd hx hb dL_law_714 ?_
  refine va_sld hx hb hX hbl hbA hS (zl_ld (k := 2) hi hL (by omega)) dL_law_715 ?_
  refine lv_aload_n hx hb dL_law_716 rfl (lv_at hl 0 rfl) ?_
  refine lv_iload_n hx hb dL_law_717 rfl (lv_at hl 3 rfl) ?_
  refine lv_iconst (v := 3) hx hb dL_law_718 (by decide) ?_
  refine lv_iadd hx hb dL_law_719 ?_
  refine va_sld hx hb hX hbl hbA hS (zl_ld (k := 3) hi hL (by omega)) dL_law_720 ?_
  refine zl_flag hx hb dL_law_721 dL_law_724 dL_law_725 dL_law_728 ?_
  obtain ⟨r, S1, S2, f1, f2, hI2⟩ := e_shut (N := 5000) (a := (xs (nI i + 1).toNatClampNeg)) (c := (xs (nI i + 2).toNatClampNeg)) (u := (if (xs (nI i + 3).toNatClampNeg) = 0 then 0 else 1)) (by omega) hI
  refine zl_callV (ci := 5) (S := S) (S1 := S1) (r1 := r) (As := [.int (xs (nI i + 1).toNatClampNeg), .int (xs (nI i + 2).toNatClampNeg), .int (if (xs (nI i + 3).toNatClampNeg) = 0 then 0 else 1)]) (rest := []) 3 C0 hK hG (zcX5_shut 5000 S ((xs (nI i + 1).toNatClampNeg)) ((xs (nI i + 2).toNatClampNeg)) ((if (xs (nI i + 3).toNatClampNeg) = 0 then 0 else 1))) f1 (by omega) (by omega) rfl (by omega) rfl zw_723 zw_724 zw_725 zw_2 zw_726 ⟨rfl, by decide +kernel, by decide +kernel, by decide +kernel⟩ rfl rfl (Nat.le_of_ble_eq_true rfl) dL_law_729 hl.1 hP hS (fun H locs hP hS => ?_)
  refine lv_aload_n hx hb dL_law_732 rfl (lv_at hl 2 rfl) ?_
  refine lv_aload_n hx hb dL_law_733 rfl (lv_at hl 0 rfl) ?_
  refine lv_iload_n hx hb dL_law_734 rfl (lv_at hl 3 rfl) ?_
  refine lv_iconst (v := 1) hx hb dL_law_735 (by decide) ?_
  refine lv_iadd hx hb dL_law_736 ?_
  refine va_sld hx hb hX hbl hbA hS (zl_ld (k := 1) hi hL (by omega)) dL_law_737 ?_
  refine lv_aload_n hx hb dL_law_738 rfl (lv_at hl 0 rfl) ?_
  refine lv_iload_n hx hb dL_law_739 rfl (lv_at hl 3 rfl) ?_
  refine lv_iconst (v := 2) hx hb dL_law_740 (by decide) ?_
  refine lv_iadd hx hb dL_law_741 ?_
  refine va_sld hx hb hX hbl hbA hS (zl_ld (k := 2) hi hL (by omega)) dL_law_742 ?_
  refine lv_aload_n hx hb dL_law_743 rfl (lv_at hl 0 rfl) ?_
  refine lv_iload_n hx hb dL_law_744 rfl (lv_at hl 3 rfl) ?_
  refine lv_iconst (v := 3) hx hb dL_law_745 (by decide) ?_
  refine lv_iadd hx hb dL_law_746 ?_
  refine va_sld hx hb hX hbl hbA hS (zl_ld (k := 3) hi hL (by omega)) dL_law_747 ?_
  refine zl_flag hx hb dL_law_748 dL_law_751 dL_law_752 dL_law_755 ?_
  refine zl_callV (ci := 6) (S := S1) (S1 := S2) (r1 := r) (As := [.int (xs (nI i + 1).toNatClampNeg), .int (xs (nI i + 2).toNatClampNeg), .int (if (xs (nI i + 3).toNatClampNeg) = 0 then 0 else 1)]) (rest := [.int r]) 3 C0 hK hG (zcX6_shut 5000 S1 ((xs (nI i + 1).toNatClampNeg)) ((xs (nI i + 2).toNatClampNeg)) ((if (xs (nI i + 3).toNatClampNeg) = 0 then 0 else 1))) f2 (by omega) (by omega) rfl (by omega) rfl zw_735 zw_736 zw_737 zw_5 zw_738 ⟨rfl, by decide +kernel, by decide +kernel, by decide +kernel⟩ rfl rfl (Nat.le_of_ble_eq_true rfl) dL_law_756 hl.1 hP hS (fun H locs hP hS => ?_)
  refine lv_icmp_eq (tgt := 910) hx hb dL_law_759 (by decide) (fun _ => ?_) (fun h => absurd rfl h)
  exact kk S2 H locs hI2 hP hS
set_option maxHeartbeats 4000000 in
set_option maxRecDepth 100000 in
theorem law_22 (hL : L ≤ 2048) (C0 : lw_At p s m meth c b L xs) (hK : zb_K G s s.heap) (hG : ∀ q, zb_A G q → s.heap.size ≤ q) {i : Nat} (hi : i + 4 ≤ L) {S : zb_S} (hI : zi_I S) (hP : va_P (zb_D G) vwCl (zb_pic G S) H) (hS : va_S (zl_A s) s.heap H locs) (hl : lv_has ls 4 [(0, .ref b), (1, .ref (zb_ad G 0)), (2, .ref (zb_ad G 21)), (3, .int (nI i))]) (kk : ∀ (S2 : zb_S) (H : Heap) (locs : List Loc), zi_I S2 → va_P (zb_D G) vwCl (zb_pic G S2) H → va_S (zl_A s) s.heap H locs → zl_W p l e s m below meth c b H locs (F0 m 910 ls [])) : zl_W p l e s m below meth c b H locs (F0 m 764 ls []) := by
  obtain ⟨hx, hb, hr, hml, hown, hts0, hX, hbl, hlocks, hgv⟩ := id C0
  have hts : ∀ w ∈ wsL_law, w.before #[Value.ref b] s = true := fun w h => hts0 w (wsL_law_in w h)
  have hbA : ¬ zl_A s b := Nat.not_le.mpr hbl
  refine lv_aload_n hx hb dL_law_764 rfl (lv_at hl 1 rfl) ?_
  refine lv_aload_n hx hb dL_law_765 rfl (lv_at hl 0 rfl) ?_
  refine lv_iload_n hx hb dL_law_766 rfl (lv_at hl 3 rfl) ?_
  refine lv_iconst (v := 1) hx hb dL_law_767 (by decide) ?_
  refine lv_iadd hx hb dL_law_768 ?_
  refine va_sld hx hb hX hbl hbA hS (zl_ld (k := 1) hi hL (by omega)) dL_law_769 ?_
  refine lv_i2l hx hb dL_law_770 rfl ?_
  refine lv_bipush (v := 32) hx hb dL_law_771 (by decide) ?_
  refine lv_lshl hx hb dL_law_773 rfl ?_
  refine lv_aload_n hx hb dL_law_774 rfl (lv_at hl 0 rfl) ?_
  refine lv_iload_n hx hb dL_law_775 rfl (lv_at hl 3 rfl) ?_
  refine lv_iconst (v := 2) hx hb dL_law_776 (by decide) ?_
  refine lv_iadd hx hb dL_law_777 ?_
  refine va_sld hx hb hX hbl hbA hS (zl_ld (k := 2) hi hL (by omega)) dL_law_778 ?_
  refine lv_i2l hx hb dL_law_779 rfl ?_
  refine lv_ldc2 hx hb hown (hts _ zw_6) dL_law_780 ?_
  refine lv_land hx hb dL_law_783 ?_
  refine lv_lor hx hb dL_law_784 ?_
  refine lv_topl (fun v1 ev1 => ?_)
  obtain ⟨r, S1, S2, f1, f2, hI2⟩ := e_seed (N := 5000) (a := v1) hI
  refine zl_callV (ci := 5) (S := S) (S1 := S1) (r1 := r) (As := [.long v1]) (rest := []) 1 C0 hK hG (zcX5_seed 5000 S (v1)) f1 (by omega) (by omega) rfl (by omega) rfl zw_744 zw_745 zw_746 zw_2 zw_747 ⟨rfl, by decide +kernel, by decide +kernel, by decide +kernel⟩ rfl rfl (Nat.le_of_ble_eq_true rfl) dL_law_785 hl.1 hP hS (fun H locs hP hS => ?_)
  refine lv_aload_n hx hb dL_law_788 rfl (lv_at hl 2 rfl) ?_
  refine lv_aload_n hx hb dL_law_789 rfl (lv_at hl 0 rfl) ?_
  refine lv_iload_n hx hb dL_law_790 rfl (lv_at hl 3 rfl) ?_
  refine lv_iconst (v := 1) hx hb dL_law_791 (by decide) ?_
  refine lv_iadd hx hb dL_law_792 ?_
  refine va_sld hx hb hX hbl hbA hS (zl_ld (k := 1) hi hL (by omega)) dL_law_793 ?_
  refine lv_i2l hx hb dL_law_794 rfl ?_
  refine lv_bipush (v := 32) hx hb dL_law_795 (by decide) ?_
  refine lv_lshl hx hb dL_law_797 rfl ?_
  refine lv_aload_n hx hb dL_law_798 rfl (lv_at hl 0 rfl) ?_
  refine lv_iload_n hx hb dL_law_799 rfl (lv_at hl 3 rfl) ?_
  refine lv_iconst (v := 2) hx hb dL_law_800 (by decide) ?_
  refine lv_iadd hx hb dL_law_801 ?_
  refine va_sld hx hb hX hbl hbA hS (zl_ld (k := 2) hi hL (by omega)) dL_law_802 ?_
  refine lv_i2l hx hb dL_law_803 rfl ?_
  refine lv_ldc2 hx hb hown (hts _ zw_6) dL_law_804 ?_
  refine lv_land hx hb dL_law_807 ?_
  refine lv_lor hx hb dL_law_808 ?_
  refine lv_topl (fun v2 ev2 => ?_)
  rw [ev1.symm] at ev2
  subst ev2
  refine zl_callV (ci := 6) (S := S1) (S1 := S2) (r1 := r) (As := [.long v2]) (rest := [.long r]) 1 C0 hK hG (zcX6_seed 5000 S1 (v2)) f2 (by omega) (by omega) rfl (by omega) rfl zw_748 zw_749 zw_750 zw_5 zw_751 ⟨rfl, by decide +kernel, by decide +kernel, by decide +kernel⟩ rfl rfl (Nat.le_of_ble_eq_true rfl) dL_law_809 hl.1 hP hS (fun H locs hP hS => ?_)
  refine W.lcmp hx hb dL_law_812 ?_
  refine lv_if_eq (tgt := 910) hx hb dL_law_813 (by decide) (fun _ => ?_) (fun h => absurd ((lg_cmp_eq _ _).mpr rfl) h)
  exact kk S2 H locs hI2 hP hS
set_option maxHeartbeats 4000000 in
set_option maxRecDepth 100000 in
theorem law_23 (hL : L ≤ 2048) (C0 : lw_At p s m meth c b L xs) (hK : zb_K G s s.heap) (hG : ∀ q, zb_A G q → s.heap.size ≤ q) {i : Nat} (hi : i + 4 ≤ L) {S : zb_S} (hI : zi_I S) (hP : va_P (zb_D G) vwCl (zb_pic G S) H) (hS : va_S (zl_A s) s.heap H locs) (hl : lv_has ls 4 [(0, .ref b), (1, .ref (zb_ad G 0)), (2, .ref (zb_ad G 21)), (3, .int (nI i))]) (kk : ∀ (S2 : zb_S) (H : Heap) (locs : List Loc), zi_I S2 → va_P (zb_D G) vwCl (zb_pic G S2) H → va_S (zl_A s) s.heap H locs → zl_W p l e s m below meth c b H locs (F0 m 910 ls [])) : zl_W p l e s m below meth c b H locs (F0 m 818 ls []) := by
  obtain ⟨hx, hb, hr, hml, hown, hts0, hX, hbl, hlocks, hgv⟩ := id C0
  have hts : ∀ w ∈ wsL_law, w.before #[Value.ref b] s = true := fun w h => hts0 w (wsL_law_in w h)
  have hbA : ¬ zl_A s b := Nat.not_le.mpr hbl
  refine lv_aload_n hx hb dL_law_818 rfl (lv_at hl 1 rfl) ?_
  refine lv_aload_n hx hb dL_law_819 rfl (lv_at hl 0 rfl) ?_
  refine lv_iload_n hx hb dL_law_820 rfl (lv_at hl 3 rfl) ?_
  refine lv_iconst (v := 1) hx hb dL_law_821 (by decide) ?_
  refine lv_iadd hx hb dL_law_822 ?_
  refine va_sld hx hb hX hbl hbA hS (zl_ld (k := 1) hi hL (by omega)) dL_law_823 ?_
  obtain ⟨r, S1, S2, f1, f2, hI2⟩ := e_drawn (N := 5000) (a := (xs (nI i + 1).toNatClampNeg)) (by omega) hI
  refine zl_callV (ci := 5) (S := S) (S1 := S1) (r1 := r) (As := [.int (xs (nI i + 1).toNatClampNeg)]) (rest := []) 1 C0 hK hG (zcX5_drawn 5000 S ((xs (nI i + 1).toNatClampNeg))) f1 (by omega) (by omega) rfl (by omega) rfl zw_753 zw_754 zw_755 zw_2 zw_756 ⟨rfl, by decide +kernel, by decide +kernel, by decide +kernel⟩ rfl rfl (Nat.le_of_ble_eq_true rfl) dL_law_824 hl.1 hP hS (fun H locs hP hS => ?_)
  refine lv_aload_n hx hb dL_law_827 rfl (lv_at hl 2 rfl) ?_
  refine lv_aload_n hx hb dL_law_828 rfl (lv_at hl 0 rfl) ?_
  refine lv_iload_n hx hb dL_law_829 rfl (lv_at hl 3 rfl) ?_
  refine lv_iconst (v := 1) hx hb dL_law_830 (by decide) ?_
  refine lv_iadd hx hb dL_law_831 ?_
  refine va_sld hx hb hX hbl hbA hS (zl_ld (k := 1) hi hL (by omega)) dL_law_832 ?_
  refine zl_callV (ci := 6) (S := S1) (S1 := S2) (r1 := r) (As := [.int (xs (nI i + 1).toNatClampNeg)]) (rest := [.int r]) 1 C0 hK hG (zcX6_drawn 5000 S1 ((xs (nI i + 1).toNatClampNeg))) f2 (by omega) (by omega) rfl (by omega) rfl zw_759 zw_760 zw_761 zw_5 zw_762 ⟨rfl, by decide +kernel, by decide +kernel, by decide +kernel⟩ rfl rfl (Nat.le_of_ble_eq_true rfl) dL_law_833 hl.1 hP hS (fun H locs hP hS => ?_)
  refine lv_icmp_eq (tgt := 910) hx hb dL_law_836 (by decide) (fun _ => ?_) (fun h => absurd rfl h)
  exact kk S2 H locs hI2 hP hS
set_option maxHeartbeats 4000000 in
set_option maxRecDepth 100000 in
theorem law_24 (hL : L ≤ 2048) (C0 : lw_At p s m meth c b L xs) (hK : zb_K G s s.heap) (hG : ∀ q, zb_A G q → s.heap.size ≤ q) {i : Nat} (hi : i + 4 ≤ L) {S : zb_S} (hI : zi_I S) (hP : va_P (zb_D G) vwCl (zb_pic G S) H) (hS : va_S (zl_A s) s.heap H locs) (hl : lv_has ls 4 [(0, .ref b), (1, .ref (zb_ad G 0)), (2, .ref (zb_ad G 21)), (3, .int (nI i))]) (kk : ∀ (S2 : zb_S) (H : Heap) (locs : List Loc), zi_I S2 → va_P (zb_D G) vwCl (zb_pic G S2) H → va_S (zl_A s) s.heap H locs → zl_W p l e s m below meth c b H locs (F0 m 910 ls [])) : zl_W p l e s m below meth c b H locs (F0 m 841 ls []) := by
  obtain ⟨hx, hb, hr, hml, hown, hts0, hX, hbl, hlocks, hgv⟩ := id C0
  have hts : ∀ w ∈ wsL_law, w.before #[Value.ref b] s = true := fun w h => hts0 w (wsL_law_in w h)
  have hbA : ¬ zl_A s b := Nat.not_le.mpr hbl
  refine lv_aload_n hx hb dL_law_841 rfl (lv_at hl 1 rfl) ?_
  refine lv_aload_n hx hb dL_law_842 rfl (lv_at hl 0 rfl) ?_
  refine lv_iload_n hx hb dL_law_843 rfl (lv_at hl 3 rfl) ?_
  refine lv_iconst (v := 1) hx hb dL_law_844 (by decide) ?_
  refine lv_iadd hx hb dL_law_845 ?_
  refine va_sld hx hb hX hbl hbA hS (zl_ld (k := 1) hi hL (by omega)) dL_law_846 ?_
  obtain ⟨r, S1, S2, f1, f2, hI2⟩ := e_keep (N := 5000) (a := (xs (nI i + 1).toNatClampNeg)) (by omega) hI
  refine zl_callV (ci := 5) (S := S) (S1 := S1) (r1 := r) (As := [.int (xs (nI i + 1).toNatClampNeg)]) (rest := []) 1 C0 hK hG (zcX5_keep 5000 S ((xs (nI i + 1).toNatClampNeg))) f1 (by omega) (by omega) rfl (by omega) rfl zw_766 zw_767 zw_768 zw_2 zw_769 ⟨rfl, by decide +kernel, by decide +kernel, by decide +kernel⟩ rfl rfl (Nat.le_of_ble_eq_true rfl) dL_law_847 hl.1 hP hS (fun H locs hP hS => ?_)
  refine lv_aload_n hx hb dL_law_850 rfl (lv_at hl 2 rfl) ?_
  refine lv_aload_n hx hb dL_law_851 rfl (lv_at hl 0 rfl) ?_
  refine lv_iload_n hx hb dL_law_852 rfl (lv_at hl 3 rfl) ?_
  refine lv_iconst (v := 1) hx hb dL_law_853 (by decide) ?_
  refine lv_iadd hx hb dL_law_854 ?_
  refine va_sld hx hb hX hbl hbA hS (zl_ld (k := 1) hi hL (by omega)) dL_law_855 ?_
  refine zl_callV (ci := 6) (S := S1) (S1 := S2) (r1 := r) (As := [.int (xs (nI i + 1).toNatClampNeg)]) (rest := [.int r]) 1 C0 hK hG (zcX6_keep 5000 S1 ((xs (nI i + 1).toNatClampNeg))) f2 (by omega) (by omega) rfl (by omega) rfl zw_770 zw_771 zw_772 zw_5 zw_773 ⟨rfl, by decide +kernel, by decide +kernel, by decide +kernel⟩ rfl rfl (Nat.le_of_ble_eq_true rfl) dL_law_856 hl.1 hP hS (fun H locs hP hS => ?_)
  refine lv_icmp_eq (tgt := 910) hx hb dL_law_859 (by decide) (fun _ => ?_) (fun h => absurd rfl h)
  exact kk S2 H locs hI2 hP hS
set_option maxHeartbeats 4000000 in
set_option maxRecDepth 100000 in
theorem law_25 (hL : L ≤ 2048) (C0 : lw_At p s m meth c b L xs) (hK : zb_K G s s.heap) (hG : ∀ q, zb_A G q → s.heap.size ≤ q) {i : Nat} (hi : i + 4 ≤ L) {S : zb_S} (hI : zi_I S) (hP : va_P (zb_D G) vwCl (zb_pic G S) H) (hS : va_S (zl_A s) s.heap H locs) (hl : lv_has ls 4 [(0, .ref b), (1, .ref (zb_ad G 0)), (2, .ref (zb_ad G 21)), (3, .int (nI i))]) (kk : ∀ (S2 : zb_S) (H : Heap) (locs : List Loc), zi_I S2 → va_P (zb_D G) vwCl (zb_pic G S2) H → va_S (zl_A s) s.heap H locs → zl_W p l e s m below meth c b H locs (F0 m 910 ls [])) : zl_W p l e s m below meth c b H locs (F0 m 864 ls []) := by
  obtain ⟨hx, hb, hr, hml, hown, hts0, hX, hbl, hlocks, hgv⟩ := id C0
  have hts : ∀ w ∈ wsL_law, w.before #[Value.ref b] s = true := fun w h => hts0 w (wsL_law_in w h)
  have hbA : ¬ zl_A s b := Nat.not_le.mpr hbl
  refine lv_aload_n hx hb dL_law_864 rfl (lv_at hl 1 rfl) ?_
  refine lv_aload_n hx hb dL_law_865 rfl (lv_at hl 0 rfl) ?_
  refine lv_iload_n hx hb dL_law_866 rfl (lv_at hl 3 rfl) ?_
  refine lv_iconst (v := 1) hx hb dL_law_867 (by decide) ?_
  refine lv_iadd hx hb dL_law_868 ?_
  refine va_sld hx hb hX hbl hbA hS (zl_ld (k := 1) hi hL (by omega)) dL_law_869 ?_
  obtain ⟨r, S1, S2, f1, f2, hI2⟩ := e_again (N := 5000) (a := (xs (nI i + 1).toNatClampNeg)) (by omega) hI
  refine zl_callV (ci := 5) (S := S) (S1 := S1) (r1 := r) (As := [.int (xs (nI i + 1).toNatClampNeg)]) (rest := []) 1 C0 hK hG (zcX5_again 5000 S ((xs (nI i + 1).toNatClampNeg))) f1 (by omega) (by omega) rfl (by omega) rfl zw_774 zw_775 zw_776 zw_2 zw_777 ⟨rfl, by decide +kernel, by decide +kernel, by decide +kernel⟩ rfl rfl (Nat.le_of_ble_eq_true rfl) dL_law_870 hl.1 hP hS (fun H locs hP hS => ?_)
  refine lv_aload_n hx hb dL_law_873 rfl (lv_at hl 2 rfl) ?_
  refine lv_aload_n hx hb dL_law_874 rfl (lv_at hl 0 rfl) ?_
  refine lv_iload_n hx hb dL_law_875 rfl (lv_at hl 3 rfl) ?_
  refine lv_iconst (v := 1) hx hb dL_law_876 (by decide) ?_
  refine lv_iadd hx hb dL_law_877 ?_
  refine va_sld hx hb hX hbl hbA hS (zl_ld (k := 1) hi hL (by omega)) dL_law_878 ?_
  refine zl_callV (ci := 6) (S := S1) (S1 := S2) (r1 := r) (As := [.int (xs (nI i + 1).toNatClampNeg)]) (rest := [.int r]) 1 C0 hK hG (zcX6_again 5000 S1 ((xs (nI i + 1).toNatClampNeg))) f2 (by omega) (by omega) rfl (by omega) rfl zw_778 zw_779 zw_780 zw_5 zw_781 ⟨rfl, by decide +kernel, by decide +kernel, by decide +kernel⟩ rfl rfl (Nat.le_of_ble_eq_true rfl) dL_law_879 hl.1 hP hS (fun H locs hP hS => ?_)
  refine lv_icmp_eq (tgt := 910) hx hb dL_law_882 (by decide) (fun _ => ?_) (fun h => absurd rfl h)
  exact kk S2 H locs hI2 hP hS
set_option maxHeartbeats 4000000 in
set_option maxRecDepth 100000 in
theorem law_26 (hL : L ≤ 2048) (C0 : lw_At p s m meth c b L xs) (hK : zb_K G s s.heap) (hG : ∀ q, zb_A G q → s.heap.size ≤ q) {i : Nat} (hi : i + 4 ≤ L) {S : zb_S} (hI : zi_I S) (hP : va_P (zb_D G) vwCl (zb_pic G S) H) (hS : va_S (zl_A s) s.heap H locs) (hl : lv_has ls 4 [(0, .ref b), (1, .ref (zb_ad G 0)), (2, .ref (zb_ad G 21)), (3, .int (nI i))]) (kk : ∀ (S2 : zb_S) (H : Heap) (locs : List Loc), zi_I S2 → va_P (zb_D G) vwCl (zb_pic G S2) H → va_S (zl_A s) s.heap H locs → zl_W p l e s m below meth c b H locs (F0 m 910 ls [])) : zl_W p l e s m below meth c b H locs (F0 m 887 ls []) := by
  obtain ⟨hx, hb, hr, hml, hown, hts0, hX, hbl, hlocks, hgv⟩ := id C0
  have hts : ∀ w ∈ wsL_law, w.before #[Value.ref b] s = true := fun w h => hts0 w (wsL_law_in w h)
  have hbA : ¬ zl_A s b := Nat.not_le.mpr hbl
  refine lv_aload_n hx hb dL_law_887 rfl (lv_at hl 1 rfl) ?_
  refine lv_aload_n hx hb dL_law_888 rfl (lv_at hl 0 rfl) ?_
  refine lv_iload_n hx hb dL_law_889 rfl (lv_at hl 3 rfl) ?_
  refine lv_iconst (v := 1) hx hb dL_law_890 (by decide) ?_
  refine lv_iadd hx hb dL_law_891 ?_
  refine va_sld hx hb hX hbl hbA hS (zl_ld (k := 1) hi hL (by omega)) dL_law_892 ?_
  obtain ⟨r, S1, S2, f1, f2, hI2⟩ := e_count (N := 5000) (a := (xs (nI i + 1).toNatClampNeg)) (by omega) hI
  refine zl_callV (ci := 5) (S := S) (S1 := S1) (r1 := r) (As := [.int (xs (nI i + 1).toNatClampNeg)]) (rest := []) 1 C0 hK hG (zcX5_count 5000 S ((xs (nI i + 1).toNatClampNeg))) f1 (by omega) (by omega) rfl (by omega) rfl zw_782 zw_783 zw_784 zw_2 zw_785 ⟨rfl, by decide +kernel, by decide +kernel, by decide +kernel⟩ rfl rfl (Nat.le_of_ble_eq_true rfl) dL_law_893 hl.1 hP hS (fun H locs hP hS => ?_)
  refine lv_aload_n hx hb dL_law_896 rfl (lv_at hl 2 rfl) ?_
  refine lv_aload_n hx hb dL_law_897 rfl (lv_at hl 0 rfl) ?_
  refine lv_iload_n hx hb dL_law_898 rfl (lv_at hl 3 rfl) ?_
  refine lv_iconst (v := 1) hx hb dL_law_899 (by decide) ?_
  refine lv_iadd hx hb dL_law_900 ?_
  refine va_sld hx hb hX hbl hbA hS (zl_ld (k := 1) hi hL (by omega)) dL_law_901 ?_
  refine zl_callV (ci := 6) (S := S1) (S1 := S2) (r1 := r) (As := [.int (xs (nI i + 1).toNatClampNeg)]) (rest := [.int r]) 1 C0 hK hG (zcX6_count 5000 S1 ((xs (nI i + 1).toNatClampNeg))) f2 (by omega) (by omega) rfl (by omega) rfl zw_789 zw_790 zw_791 zw_5 zw_792 ⟨rfl, by decide +kernel, by decide +kernel, by decide +kernel⟩ rfl rfl (Nat.le_of_ble_eq_true rfl) dL_law_902 hl.1 hP hS (fun H locs hP hS => ?_)
  refine lv_icmp_eq (tgt := 910) hx hb dL_law_905 (by decide) (fun _ => ?_) (fun h => absurd rfl h)
  exact kk S2 H locs hI2 hP hS
theorem zl_sub {i : Nat} (hL : L ≤ 2048) (hi : i ≤ 3000) : ¬ (Int32.ofNat L - 4 < nI i) ↔ i + 4 ≤ L := by
  rw [show Int32.ofNat L - 4 = nI L - nI 4 from rfl, Int32.lt_iff_toInt_lt, pk_sub_toInt (by omega) (by omega), show (nI i).toInt = (i : Int) from nI_toInt (by omega)]
  omega
theorem zl_31 (x : Int32) : ∃ k, k < 32 ∧ x &&& 31 = nI k := pk_andE x (m := 31) 5 (by decide)
set_option maxHeartbeats 4000000 in
set_option maxRecDepth 100000 in
/-- the law's loop -/
theorem law_loop (hL : L ≤ 2048) (C0 : lw_At p s m meth c b L xs) (hK : zb_K G s s.heap) (hG : ∀ q, zb_A G q → s.heap.size ≤ q) : ∀ (n i : Nat) (S : zb_S) (H : Heap) (locs : List Loc) (ls : Array Slot), L + 1 ≤ i + n → i ≤ 2052 → zi_I S → va_P (zb_D G) vwCl (zb_pic G S) H → va_S (zl_A s) s.heap H locs → lv_has ls 4 [(0, .ref b), (1, .ref (zb_ad G 0)), (2, .ref (zb_ad G 21)), (3, .int (nI i))] → zl_W p l e s m below meth c b H locs (F0 m 18 ls []) := by
  obtain ⟨hx, hb, hr, hml, hown, hts0, hX, hbl, hlocks, hgv⟩ := id C0
  have hbA : ¬ zl_A s b := Nat.not_le.mpr hbl
  have fin : ∀ (H : Heap) (locs : List Loc) (ls : Array Slot), va_S (zl_A s) s.heap H locs → zl_W p l e s m below meth c b H locs (F0 m 916 ls []) := by
    intro H locs ls hS
    refine lv_iconst (v := 1) hx hb dL_law_916 (by decide) ?_
    refine va_forget (fun q hq => hS.2.2 q hq) ?_
    exact lw_ret hx hb hr hlocks dL_law_917
  intro n
  induction n with
  | zero =>
    intro i S H locs ls hin hi2 hI hP hS hl
    refine lv_iload_n hx hb dL_law_18 rfl (lv_at hl 3 rfl) ?_
    refine lv_aload_n hx hb dL_law_19 rfl (lv_at hl 0 rfl) ?_
    refine va_slen hx hb hX hbl hbA hS dL_law_20 ?_
    refine lv_iconst (v := 4) hx hb dL_law_21 (by decide) ?_
    refine lv_isub hx hb dL_law_22 ?_
    refine lv_icmp_gt (tgt := 916) hx hb dL_law_23 (by decide) (fun _ => fin H locs ls hS) (fun h => absurd ((zl_sub hL (by omega)).mp h) (by omega))
  | succ n ih =>
    intro i S H locs ls hin hi2 hI hP hS hl
    refine lv_iload_n hx hb dL_law_18 rfl (lv_at hl 3 rfl) ?_
    refine lv_aload_n hx hb dL_law_19 rfl (lv_at hl 0 rfl) ?_
    refine va_slen hx hb hX hbl hbA hS dL_law_20 ?_
    refine lv_iconst (v := 4) hx hb dL_law_21 (by decide) ?_
    refine lv_isub hx hb dL_law_22 ?_
    refine lv_icmp_gt (tgt := 916) hx hb dL_law_23 (by decide) (fun _ => fin H locs ls hS) (fun h => ?_)
    have hi := (zl_sub hL (by omega)).mp h
    have kk : ∀ (S2 : zb_S) (H : Heap) (locs : List Loc), zi_I S2 → va_P (zb_D G) vwCl (zb_pic G S2) H → va_S (zl_A s) s.heap H locs → zl_W p l e s m below meth c b H locs (F0 m 910 ls []) := by
      intro S2 H locs hI hP hS
      refine lv_iinc (v := nI (i + 4)) (lv' := [(3, .int (nI (i + 4))), (0, .ref b), (1, .ref (zb_ad G 0)), (2, .ref (zb_ad G 21))]) hx hb dL_law_910 hl (k := 3) rfl (nI_add i 4) (by decide) rfl (fun ls hl => ?_)
      refine lv_goto (tgt := 18) hx hb dL_law_913 (by decide) ?_
      exact ih (i + 4) S2 H locs ls (by omega) (by omega) hI hP hS (lv_sub hl [1, 2, 3, 0] rfl)
    refine lv_aload_n hx hb dL_law_26 rfl (lv_at hl 0 rfl) ?_
    refine lv_iload_n hx hb dL_law_27 rfl (lv_at hl 3 rfl) ?_
    refine va_sld hx hb hX hbl hbA hS (zl_ld0 hi hL) dL_law_28 ?_
    refine lv_bipush (v := 31) hx hb dL_law_29 (by decide) ?_
    refine lv_iand hx hb dL_law_31 ?_
    obtain ⟨k, k1, k2⟩ := zl_31 (xs (nI i).toNatClampNeg)
    rw [k2]
    match k, k1 with
    | 0, _ => exact lv_tableIn (tgt := 156) hx hb dL_law_32 (by decide) (by decide) rfl (by decide) (law_0 hL C0 hK hG hi hI hP hS hl kk)
    | 1, _ => exact lv_tableIn (tgt := 179) hx hb dL_law_32 (by decide) (by decide) rfl (by decide) (law_1 hL C0 hK hG hi hI hP hS hl kk)
    | 2, _ => exact lv_tableIn (tgt := 192) hx hb dL_law_32 (by decide) (by decide) rfl (by decide) (law_2 hL C0 hK hG hi hI hP hS hl kk)
    | 3, _ => exact lv_tableIn (tgt := 205) hx hb dL_law_32 (by decide) (by decide) rfl (by decide) (law_3 hL C0 hK hG hi hI hP hS hl kk)
    | 4, _ => exact lv_tableIn (tgt := 218) hx hb dL_law_32 (by decide) (by decide) rfl (by decide) (law_4 hL C0 hK hG hi hI hP hS hl kk)
    | 5, _ => exact lv_tableIn (tgt := 251) hx hb dL_law_32 (by decide) (by decide) rfl (by decide) (law_5 hL C0 hK hG hi hI hP hS hl kk)
    | 6, _ => exact lv_tableIn (tgt := 274) hx hb dL_law_32 (by decide) (by decide) rfl (by decide) (law_6 hL C0 hK hG hi hI hP hS hl kk)
    | 7, _ => exact lv_tableIn (tgt := 297) hx hb dL_law_32 (by decide) (by decide) rfl (by decide) (law_7 hL C0 hK hG hi hI hP hS hl kk)
    | 8, _ => exact lv_tableIn (tgt := 310) hx hb dL_law_32 (by decide) (by decide) rfl (by decide) (law_8 hL C0 hK hG hi hI hP hS hl kk)
    | 9, _ => exact lv_tableIn (tgt := 343) hx hb dL_law_32 (by decide) (by decide) rfl (by decide) (law_9 hL C0 hK hG hi hI hP hS hl kk)
    | 10, _ => exact lv_tableIn (tgt := 376) hx hb dL_law_32 (by decide) (by decide) rfl (by decide) (law_10 hL C0 hK hG hi hI hP hS hl kk)
    | 11, _ => exact lv_tableIn (tgt := 399) hx hb dL_law_32 (by decide) (by decide) rfl (by decide) (law_11 hL C0 hK hG hi hI hP hS hl kk)
    | 12, _ => exact lv_tableIn (tgt := 422) hx hb dL_law_32 (by decide) (by decide) rfl (by decide) (law_12 hL C0 hK hG hi hI hP hS hl kk)
    | 13, _ => exact lv_tableIn (tgt := 435) hx hb dL_law_32 (by decide) (by decide) rfl (by decide) (law_13 hL C0 hK hG hi hI hP hS hl kk)
    | 14, _ => exact lv_tableIn (tgt := 478) hx hb dL_law_32 (by decide) (by decide) rfl (by decide) (law_14 hL C0 hK hG hi hI hP hS hl kk)
    | 15, _ => exact lv_tableIn (tgt := 501) hx hb dL_law_32 (by decide) (by decide) rfl (by decide) (law_15 hL C0 hK hG hi hI hP hS hl kk)
    | 16, _ => exact lv_tableIn (tgt := 524) hx hb dL_law_32 (by decide) (by decide) rfl (by decide) (law_16 hL C0 hK hG hi hI hP hS hl kk)
    | 17, _ => exact lv_tableIn (tgt := 587) hx hb dL_law_32 (by decide) (by decide) rfl (by decide) (law_17 hL C0 hK hG hi hI hP hS hl kk)
    | 18, _ => exact lv_tableIn (tgt := 630) hx hb dL_law_32 (by decide) (by decide) rfl (by decide) (law_18 hL C0 hK hG hi hI hP hS hl kk)
    | 19, _ => exact lv_tableIn (tgt := 643) hx hb dL_law_32 (by decide) (by decide) rfl (by decide) (law_19 hL C0 hK hG hi hI hP hS hl kk)
    | 20, _ => exact lv_tableIn (tgt := 656) hx hb dL_law_32 (by decide) (by decide) rfl (by decide) (law_20 hL C0 hK hG hi hI hP hS hl kk)
    | 21, _ => exact lv_tableIn (tgt := 705) hx hb dL_law_32 (by decide) (by decide) rfl (by decide) (law_21 hL C0 hK hG hi hI hP hS hl kk)
    | 22, _ => exact lv_tableIn (tgt := 764) hx hb dL_law_32 (by decide) (by decide) rfl (by decide) (law_22 hL C0 hK hG hi hI hP hS hl kk)
    | 23, _ => exact lv_tableIn (tgt := 818) hx hb dL_law_32 (by decide) (by decide) rfl (by decide) (law_23 hL C0 hK hG hi hI hP hS hl kk)
    | 24, _ => exact lv_tableIn (tgt := 841) hx hb dL_law_32 (by decide) (by decide) rfl (by decide) (law_24 hL C0 hK hG hi hI hP hS hl kk)
    | 25, _ => exact lv_tableIn (tgt := 864) hx hb dL_law_32 (by decide) (by decide) rfl (by decide) (law_25 hL C0 hK hG hi hI hP hS hl kk)
    | 26, _ => exact lv_tableIn (tgt := 887) hx hb dL_law_32 (by decide) (by decide) rfl (by decide) (law_26 hL C0 hK hG hi hI hP hS hl kk)
    | 27, _ => exact lv_tableOut (tgt := 910) hx hb dL_law_32 (by decide) (by decide) (kk S H locs hI hP hS)
    | 28, _ => exact lv_tableOut (tgt := 910) hx hb dL_law_32 (by decide) (by decide) (kk S H locs hI hP hS)
    | 29, _ => exact lv_tableOut (tgt := 910) hx hb dL_law_32 (by decide) (by decide) (kk S H locs hI hP hS)
    | 30, _ => exact lv_tableOut (tgt := 910) hx hb dL_law_32 (by decide) (by decide) (kk S H locs hI hP hS)
    | 31, _ => exact lv_tableOut (tgt := 910) hx hb dL_law_32 (by decide) (by decide) (kk S H locs hI hP hS)
    | k + 32, h => exact absurd h (by omega)
end LW
