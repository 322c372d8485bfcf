/-! the world of the two objects (class and reference): 32 cells, by their numbers; what they hold is three functions -/
abbrev zb_S : Type := (Nat → Nat → Int32) × (Nat → Nat → Int64) × (Nat → Nat → Int32)
def zb_i (S : zb_S) (o k : Nat) : Int32 := S.1 o k
def zb_l (S : zb_S) (o k : Nat) : Int64 := S.2.1 o k
def zb_a (S : zb_S) (o k : Nat) : Int32 := S.2.2 o k
def zb_pi (S : zb_S) (o k : Nat) (v : Int32) : zb_S := (va_up S.1 o (va_up (S.1 o) k v), S.2.1, S.2.2)
def zb_pl (S : zb_S) (o k : Nat) (v : Int64) : zb_S := (S.1, va_up S.2.1 o (va_up (S.2.1 o) k v), S.2.2)
def zb_pa (S : zb_S) (o k : Nat) (v : Int32) : zb_S := (S.1, S.2.1, va_up S.2.2 o (upd (S.2.2 o) k v))
def zb_cp (S : zb_S) (x sp y dp n : Nat) : zb_S := (S.1, S.2.1, va_up S.2.2 y (va_cpy (S.2.2 x) (S.2.2 y) sp dp n))
def zb_let {α β : Type} (v : α) (k : α → β) : β := k v
def zb_bind {α β : Type} (f : Option (β × zb_S)) (k : β → zb_S → Option (α × zb_S)) : Option (α × zb_S) := match f with
  | none => none
  | some q => k q.1 q.2
theorem zb_bind_some {α β : Type} (r : β) (S : zb_S) (k : β → zb_S → Option (α × zb_S)) : zb_bind (some (r, S)) k = k r S := rfl
theorem zb_bind_eq {α β : Type} (f : Option (β × zb_S)) (k : β → zb_S → Option (α × zb_S)) : zb_bind f k = f.bind (fun q => k q.1 q.2) := by cases f <;> rfl
abbrev zb_in (i : Int32) (n : Nat) : Prop := ¬ i < 0 ∧ i.toNatClampNeg < n
theorem zb_vp {i : Int32} {n : Nat} (h : zb_in i n) : vp_in i n := fun q => q.elim h.1 (fun z => absurd h.2 (Nat.not_lt.mpr z))
/-- kinds: 0..6 the classes, 7 an int row, 8 a boolean row -/
def zb_kdl : List Nat := [5, 4, 7, 1, 7, 1, 7, 0, 3, 7, 3, 7, 3, 7, 2, 7, 7, 7, 7, 7, 7, 6, 7, 7, 7, 7, 7, 7, 8, 7, 7, 7]
def zb_szl : List Nat := [0, 0, 40, 0, 57, 0, 57, 0, 0, 798, 0, 114, 0, 513, 0, 6, 6, 6, 4, 6, 64, 0, 40, 79, 79, 79, 1106, 158, 2, 6, 6, 6]
def zb_rfll : List (List Nat) := [[1, 3, 5, 7, 10, 0, 12, 14, 18, 19, 20, 0], [2, 0], [], [0, 0, 0, 0, 4, 0], [], [0, 0, 0, 0, 6, 0], [], [8, 0, 0], [0, 9], [], [0, 11], [], [0, 13], [], [15, 16, 17, 0], [], [], [], [], [], [], [0, 22, 0, 0, 0, 0, 0, 0, 0, 0, 23, 24, 25, 26, 0, 27, 28, 0, 29, 30, 31, 0, 0, 0, 0, 0, 0]]
/-- of a kind of object the types of its fields: 0 int, 1 long, 2 a cell -/
def zb_tyl : List (List Nat) := [[2, 0, 0], [0, 0, 0, 0, 2, 0], [2, 2, 2, 0], [0, 2], [2, 0], [2, 2, 2, 2, 2, 0, 2, 2, 2, 2, 2, 1], [0, 2, 0, 0, 0, 0, 0, 0, 0, 0, 2, 2, 2, 2, 0, 2, 2, 0, 2, 2, 2, 1, 0, 0, 0, 0, 0]]
def zb_kd (b : Nat) : Nat := zb_kdl.getD b 99
def zb_sz (b : Nat) : Nat := zb_szl.getD b 0
def zb_rf (b k : Nat) : Nat := (zb_rfll.getD b []).getD k 0
def zb_tyk (c k : Nat) : Nat := (zb_tyl.getD c []).getD k 9
def zb_nfk (c : Nat) : Nat := (zb_tyl.getD c []).length
theorem zb_lt {b n : Nat} (h : zb_kd b = n) (hn : n < 99) : b < 32 := by
  rcases Nat.lt_or_ge b 32 with q | q
  · exact q
  · have h2 : zb_kd b = 99 := by
      unfold zb_kd
      rw [List.getD_eq_getElem?_getD, List.getElem?_eq_none (show zb_kdl.length ≤ b from q)]
      rfl
    omega
abbrev zb_G : Type := (Nat → Nat) × va_G × ClassId × ClassId × Nat × Nat
def zb_ad (G : zb_G) : Nat → Nat := G.1
def zb_D (G : zb_G) : va_G := G.2.1
def zb_cI (G : zb_G) : ClassId := G.2.2.1
def zb_cZ (G : zb_G) : ClassId := G.2.2.2.1
def zb_tF (G : zb_G) : Nat := G.2.2.2.2.1
def zb_tT (G : zb_G) : Nat := G.2.2.2.2.2
def zb_val (G : zb_G) (S : zb_S) (b k : Nat) : Value := if zb_tyk (zb_kd b) k = 0 then .int (zb_i S b k) else if zb_tyk (zb_kd b) k = 1 then .long (zb_l S b k) else .ref (zb_ad G (zb_rf b k))
def zb_fs (G : zb_G) (S : zb_S) (b : Nat) : List Value := (List.range (zb_nfk (zb_kd b))).map (zb_val G S b)
def zb_cell (G : zb_G) (S : zb_S) (b : Nat) : va_E := if zb_kd b = 7 then .inl (zb_cI G, zb_sz b, .inl (zb_a S b)) else if zb_kd b = 8 then .inl (zb_cZ G, zb_sz b, .inl (zb_a S b)) else .inr (zb_kd b, zb_fs G S b)
def zb_pic (G : zb_G) (S : zb_S) : va_W := (List.range 32).map (fun b => (zb_ad G b, zb_cell G S b))
def zb_A (G : zb_G) : Nat → Prop := fun q => ∃ b, b < 32 ∧ zb_ad G b = q
def zb_fac (k : Nat) : Int32 := [1, 1, 2, 6, 24, 120, 720].getD k 0
def zb_tho (k : Nat) : Int64 := [1, 1000, 1000000, 1000000000, 1000000000000].getD k 0
def zb_tys (G : zb_G) : List (ClassId × FieldType) := [(zb_cI G, .int), (zb_cZ G, .boolean)]
/-- what stays: the tables, the addresses apart, the two static rows -/
def zb_K (G : zb_G) (U : State) (H : Heap) : Prop := va_K (zb_D G) vwCl (zb_tys G) U ∧ (∀ i j : Nat, i < 32 → j < 32 → zb_ad G i = zb_ad G j → i = j) ∧ va_Z "ZoneBelt" "FACTORIALS" "[I" (.ref (zb_tF G)) (zb_A G) U H ∧ va_T .int (zb_tF G) 7 (fun k => .int (zb_fac k)) (zb_A G) U H ∧ va_Z "ZoneBelt" "THOUSANDS" "[J" (.ref (zb_tT G)) (zb_A G) U H ∧ va_T .long (zb_tT G) 5 (fun k => .long (zb_tho k)) (zb_A G) U H
theorem zb_K.moved {G : zb_G} {u U : State} {H : Heap} (hvm : u.vm.Alike U.vm) (h : zb_K G u H) : zb_K G U H := ⟨va_K.moved hvm h.1, h.2.1, h.2.2.1.moved hvm, h.2.2.2.1.moved hvm, h.2.2.2.2.1.moved hvm, h.2.2.2.2.2.moved hvm⟩
theorem zb_K.kept {G : zb_G} {U : State} {H H1 : Heap} (h : zb_K G U H) (hq : ∀ a : Nat, a < H.size → ¬ zb_A G a → H1[a]? = H[a]?) : zb_K G U H1 := ⟨h.1, h.2.1, h.2.2.1.kept hq, h.2.2.2.1.kept hq, h.2.2.2.2.1.kept hq, h.2.2.2.2.2.kept hq⟩
def zb_W (G : zb_G) (S : zb_S) (U : State) : Prop := va_P (zb_D G) vwCl (zb_pic G S) U.heap ∧ zb_K G U U.heap
theorem zb_at {G : zb_G} {S : zb_S} {b : Nat} (hb : b < 32) : (zb_pic G S)[b]? = some (zb_ad G b, zb_cell G S b) := by
  simp [zb_pic, hb]
theorem zb_Dd {G : zb_G} {S : zb_S} {U : State} {H : Heap} (h : zb_K G U H) : va_D (zb_A G) (zb_pic G S) := by
  have key : ∀ (i : Nat) (q : Nat × va_E), (zb_pic G S)[i]? = some q → i < 32 ∧ zb_ad G i = q.1 := by
    intro i q hq
    have hi : i < 32 := by
      have := (List.getElem?_eq_some_iff.mp hq).1
      simpa [zb_pic] using this
    rw [zb_at hi] at hq
    cases hq
    exact ⟨hi, rfl⟩
  refine ⟨fun i j x y hx hy hxy => ?_, fun k q hk => ?_⟩
  · obtain ⟨a1, a2⟩ := key i x hx
    obtain ⟨b1, b2⟩ := key j y hy
    exact h.2.1 i j a1 b1 (by rw [a2, b2, hxy])
  · obtain ⟨a1, a2⟩ := key k q hk
    exact ⟨k, a1, a2⟩
theorem zb_set {G : zb_G} {S S' : zb_S} {b : Nat} {e : va_E} (hb : b < 32) (he : zb_cell G S' b = e) (ho : ∀ j, j ≠ b → zb_cell G S' j = zb_cell G S j) : (zb_pic G S).set b (zb_ad G b, e) = zb_pic G S' := by
  apply List.ext_getElem?
  intro j
  rw [List.getElem?_set]
  by_cases hj : b = j
  · subst hj
    rw [if_pos rfl, zb_at (S := S') hb, he]
    simp [zb_pic, hb]
  · rw [if_neg hj]
    by_cases h2 : j < 32
    · rw [zb_at h2, zb_at h2, ho j (Ne.symm hj)]
    · rw [List.getElem?_eq_none (by simpa [zb_pic] using h2), List.getElem?_eq_none (by simpa [zb_pic] using h2)]
/-- the answer of a method -/
def zb_Q (G : zb_G) (r : Option Value) (S' : zb_S) : Array Value → State → Outcome → State → Prop := fun _ st oc t => oc = .returned r ∧ zb_W G S' t ∧ va_F (zb_A G) st t
def zb_rm (d : Nat) : Room := { frames := d + 1, cells := 0, slots := 0, locals := 40 * (d + 1) }
def zb_ws (y : MethodName) (cc : ByteArray) (nL : Nat) (ret : Option FieldType) : List Cond := .code y cc nL ret :: wsL_law
/-- a method's contract: it does what the pure function says, wherever that says something -/
def zb_C {α : Type} (em : α → Option Value) (l : Launch) (G : zb_G) (d : Nat) (y : MethodName) (cc : ByteArray) (nL : Nat) (ret : Option FieldType) (as : List Value) (S : zb_S) (o : Option (α × zb_S)) : Prop :=
  ∀ (r : α) (S' : zb_S), o = some (r, S') → Met l y (zb_ws y cc nL ret) (zb_rm d) (va_Pc as (zb_W G S)) (zb_Q G (em r) S') 0 0 (zb_A G)
abbrev zb_X (p : Program) (s : State) (m : MethodId) (args : Array Value) (meth : Method) (c : Code) (G : zb_G) (own : String) (cc : ByteArray) (nL : Nat) (ret : Option FieldType) : Prop :=
  p.tables.exec = Jvm.exec ∧ c.code = cc ∧ meth.sig.returnType = ret ∧ c.maxLocals = nL ∧ s.vm.findClass own = some m.cls ∧ (∀ w ∈ wsL_law, w.before args s = true) ∧ meth.locks = false ∧ zb_K G s s.heap
/-- inside a method: from this place it does what the pure value says -/
def zb_Go {α : Type} (em : α → Option Value) (l : Launch) (G : zb_G) (d : Nat) (own : String) (cc : ByteArray) (nL : Nat) (ret : Option FieldType) (pc : Nat) (lv : List (Nat × Value)) (st : List Value) (S : zb_S) (o : Option (α × zb_S)) : Prop :=
  ∀ (r : α) (S' : zb_S), o = some (r, S') → ∀ (p : Program) (e : Env) (s : State) (m : MethodId) (args : Array Value) (below : List Frame) (meth : Method) (c : Code) (H : Heap) (locs : List Loc) (ls : Array Slot),
    zb_X p s m args meth c G own cc nL ret → va_P (zb_D G) vwCl (zb_pic G S) H → va_S (zb_A G) s.heap H locs → lv_has ls nL lv →
    W p l e (zb_rm d) s m args below meth c H locs 0 0 (MQ below (zb_Q G (em r) S') args s 0 0 (zb_A G)) (F0 m pc ls st)
def zb_eI (x : Int32) : Option Value := some (.int x)
def zb_eL (x : Int64) : Option Value := some (.long x)
def zb_eV (_ : Unit) : Option Value := none
theorem zb_C.of {α : Type} {em : α → Option Value} {l : Launch} {G : zb_G} {d : Nat} {y : MethodName} {own : String} {cc : ByteArray} {nL : Nat} {ret : Option FieldType} {as : List Value} {lv : List (Nat × Value)} {S : zb_S} {o : Option (α × zb_S)} (hy : plainName y.cls = true) (hown : y.cls = own) (hlen : (lg_sl as).length ≤ nL) (hlv : lv_args 0 as = lv) (hg : zb_Go em l G d own cc nL ret 0 lv [] S o) : zb_C em l G d y cc nL ret as S o := by
  intro r S' ho
  refine Met.ofW (cc := cc) (maxL := nL) (ret := ret) hy rfl ?_
  intro p e s m args below meth c s₁ B hml hv
  obtain ⟨rfl, hP, hK⟩ := hv
  have hts := atoms_spec (ws := zb_ws y cc nL ret) B.pre
  have ho2 : s.vm.findClass y.cls = some m.cls := findClass_of_methodNamed B.named
  subst hlv; subst hown
  have hl := lv_entry as (n := nL) hlen
  rw [lg_entry_eq]
  exact hg r S' ho p e s m _ below meth c s.heap [] _ ⟨B.exec, B.bytes, B.returns, hml, ho2, fun w h => hts w (List.mem_cons_of_mem _ h), B.notSynchronized, hK⟩ hP va_S.rf hl
section ZG
variable {α β : Type} {em : α → Option Value} {l : Launch} {G : zb_G} {d : Nat} {own : String} {cc : ByteArray} {nL : Nat} {ret : Option FieldType} {pc : Nat} {lv lv' : List (Nat × Value)} {st rest : List Value} {S : zb_S} {o : Option (α × zb_S)}
theorem zg_none : zb_Go em l G d own cc nL ret pc lv st S (none : Option (α × zb_S)) := fun _ _ h => by cases h
theorem zg_name {β : Type} {v : β} {k : β → Option (α × zb_S)} (kk : zb_Go em l G d own cc nL ret pc lv st S (k v)) : zb_Go em l G d own cc nL ret pc lv st S (zb_let v k) := kk
theorem zg_iconst {n : Int} {v : Int32} (hd : decode cc pc = .ok (.iconst n, 1)) (hv : Int32.ofInt n = v) (kk : zb_Go em l G d own cc nL ret (pc + 1) lv (.int v :: st) S o) : zb_Go em l G d own cc nL ret pc lv st S o :=
  fun r S' ho p e s m args below meth c H locs ls X hP hS hl => lv_iconst X.1 X.2.1 hd hv (kk r S' ho p e s m args below meth c H locs ls X hP hS hl)
theorem zg_bipush {n : Int} {v : Int32} (hd : decode cc pc = .ok (.bipush n, 2)) (hv : (Int8.ofInt n).toInt32 = v) (kk : zb_Go em l G d own cc nL ret (pc + 2) lv (.int v :: st) S o) : zb_Go em l G d own cc nL ret pc lv st S o :=
  fun r S' ho p e s m args below meth c H locs ls X hP hS hl => lv_bipush X.1 X.2.1 hd hv (kk r S' ho p e s m args below meth c H locs ls X hP hS hl)
theorem zg_sipush {n : Int} {v : Int32} (hd : decode cc pc = .ok (.sipush n, 3)) (hv : (Int16.ofInt n).toInt32 = v) (kk : zb_Go em l G d own cc nL ret (pc + 3) lv (.int v :: st) S o) : zb_Go em l G d own cc nL ret pc lv st S o :=
  fun r S' ho p e s m args below meth c H locs ls X hP hS hl => lv_sipush X.1 X.2.1 hd hv (kk r S' ho p e s m args below meth c H locs ls X hP hS hl)
theorem zg_lconst {n : Fin 2} {v : Int64} (hd : decode cc pc = .ok (.lconst n, 1)) (hv : Int64.ofNat (n : Nat) = v) (kk : zb_Go em l G d own cc nL ret (pc + 1) lv (.long v :: st) S o) : zb_Go em l G d own cc nL ret pc lv st S o :=
  fun r S' ho p e s m args below meth c H locs ls X hP hS hl => lv_lconst X.1 X.2.1 hd hv (kk r S' ho p e s m args below meth c H locs ls X hP hS hl)
theorem zg_ldc2 {index : Nat} {v : Int64} (hw : Cond.constantLong own index v ∈ wsL_law) (hd : decode cc pc = .ok (.ldc2_w index, 3)) (kk : zb_Go em l G d own cc nL ret (pc + 3) lv (.long v :: st) S o) : zb_Go em l G d own cc nL ret pc lv st S o :=
  fun r S' ho p e s m args below meth c H locs ls X hP hS hl => lv_ldc2 X.1 X.2.1 X.2.2.2.2.1 (X.2.2.2.2.2.1 _ hw) hd (kk r S' ho p e s m args below meth c H locs ls X hP hS hl)
theorem zg_ldcw {index : Nat} {v : Int32} (hw : Cond.constant own index v ∈ wsL_law) (hd : decode cc pc = .ok (.ldc_w index, 3)) (kk : zb_Go em l G d own cc nL ret (pc + 3) lv (.int v :: st) S o) : zb_Go em l G d own cc nL ret pc lv st S o :=
  fun r S' ho p e s m args below meth c H locs ls X hP hS hl => lv_ldcw X.1 X.2.1 X.2.2.2.2.1 (X.2.2.2.2.2.1 _ hw) hd (kk r S' ho p e s m args below meth c H locs ls X hP hS hl)
theorem zg_iload_n {k : Fin 4} {i : Nat} {x : Int32} (n : Nat) (hd : decode cc pc = .ok (.iload_n k, 1)) (hi : (k : Nat) = i) (hk : lv[n]? = some (i, .int x)) (kk : zb_Go em l G d own cc nL ret (pc + 1) lv (.int x :: st) S o) : zb_Go em l G d own cc nL ret pc lv st S o :=
  fun r S' ho p e s m args below meth c H locs ls X hP hS hl => lv_iload_n X.1 X.2.1 hd hi (lv_at hl n hk) (kk r S' ho p e s m args below meth c H locs ls X hP hS hl)
theorem zg_iload {i : Nat} {x : Int32} (n : Nat) (hd : decode cc pc = .ok (.iload i, 2)) (hk : lv[n]? = some (i, .int x)) (kk : zb_Go em l G d own cc nL ret (pc + 2) lv (.int x :: st) S o) : zb_Go em l G d own cc nL ret pc lv st S o :=
  fun r S' ho p e s m args below meth c H locs ls X hP hS hl => lv_iload X.1 X.2.1 hd (lv_at hl n hk) (kk r S' ho p e s m args below meth c H locs ls X hP hS hl)
theorem zg_lload_n {k : Fin 4} {i : Nat} {x : Int64} (n : Nat) (hd : decode cc pc = .ok (.lload_n k, 1)) (hi : (k : Nat) = i) (hk : lv[n]? = some (i, .long x)) (kk : zb_Go em l G d own cc nL ret (pc + 1) lv (.long x :: st) S o) : zb_Go em l G d own cc nL ret pc lv st S o :=
  fun r S' ho p e s m args below meth c H locs ls X hP hS hl => lv_lload_n X.1 X.2.1 hd hi (lv_at hl n hk) (kk r S' ho p e s m args below meth c H locs ls X hP hS hl)
theorem zg_lload {i : Nat} {x : Int64} (n : Nat) (hd : decode cc pc = .ok (.lload i, 2)) (hk : lv[n]? = some (i, .long x)) (kk : zb_Go em l G d own cc nL ret (pc + 2) lv (.long x :: st) S o) : zb_Go em l G d own cc nL ret pc lv st S o :=
  fun r S' ho p e s m args below meth c H locs ls X hP hS hl => lv_lload X.1 X.2.1 hd (lv_at hl n hk) (kk r S' ho p e s m args below meth c H locs ls X hP hS hl)
theorem zg_aload_n {k : Fin 4} {i : Nat} {x : Nat} (n : Nat) (hd : decode cc pc = .ok (.aload_n k, 1)) (hi : (k : Nat) = i) (hk : lv[n]? = some (i, .ref x)) (kk : zb_Go em l G d own cc nL ret (pc + 1) lv (.ref x :: st) S o) : zb_Go em l G d own cc nL ret pc lv st S o :=
  fun r S' ho p e s m args below meth c H locs ls X hP hS hl => lv_aload_n X.1 X.2.1 hd hi (lv_at hl n hk) (kk r S' ho p e s m args below meth c H locs ls X hP hS hl)
theorem zg_istore_n {k : Fin 4} {i : Nat} {x : Int32} (hd : decode cc pc = .ok (.istore_n k, 1)) (hi : (k : Nat) = i) (hn : i < nL) (hl0 : (i, Value.int x) :: lv.filter (fun q => !(q.1 == i) && !(q.1 + 1 == i && q.2.category == 2)) = lv') (kk : zb_Go em l G d own cc nL ret (pc + 1) lv' rest S o) : zb_Go em l G d own cc nL ret pc lv (.int x :: rest) S o :=
  fun r S' ho p e s m args below meth c H locs ls X hP hS hl => lv_istore_n X.1 X.2.1 hd hi hl hn hl0 (fun ls hl => kk r S' ho p e s m args below meth c H locs ls X hP hS hl)
theorem zg_istore {i : Nat} {x : Int32} (hd : decode cc pc = .ok (.istore i, 2)) (hn : i < nL) (hl0 : (i, Value.int x) :: lv.filter (fun q => !(q.1 == i) && !(q.1 + 1 == i && q.2.category == 2)) = lv') (kk : zb_Go em l G d own cc nL ret (pc + 2) lv' rest S o) : zb_Go em l G d own cc nL ret pc lv (.int x :: rest) S o :=
  fun r S' ho p e s m args below meth c H locs ls X hP hS hl => lv_istore X.1 X.2.1 hd hl hn hl0 (fun ls hl => kk r S' ho p e s m args below meth c H locs ls X hP hS hl)
theorem zg_lstore_n {k : Fin 4} {i : Nat} {x : Int64} (hd : decode cc pc = .ok (.lstore_n k, 1)) (hi : (k : Nat) = i) (hn : i + 1 < nL) (hl0 : (i, Value.long x) :: lv.filter (fun q => !(q.1 == i) && (!(q.1 == i + 1) && !(q.1 + 1 == i && q.2.category == 2))) = lv') (kk : zb_Go em l G d own cc nL ret (pc + 1) lv' rest S o) : zb_Go em l G d own cc nL ret pc lv (.long x :: rest) S o :=
  fun r S' ho p e s m args below meth c H locs ls X hP hS hl => lv_lstore_n X.1 X.2.1 hd hi hl hn hl0 (fun ls hl => kk r S' ho p e s m args below meth c H locs ls X hP hS hl)
theorem zg_lstore {i : Nat} {x : Int64} (hd : decode cc pc = .ok (.lstore i, 2)) (hn : i + 1 < nL) (hl0 : (i, Value.long x) :: lv.filter (fun q => !(q.1 == i) && (!(q.1 == i + 1) && !(q.1 + 1 == i && q.2.category == 2))) = lv') (kk : zb_Go em l G d own cc nL ret (pc + 2) lv' rest S o) : zb_Go em l G d own cc nL ret pc lv (.long x :: rest) S o :=
  fun r S' ho p e s m args below meth c H locs ls X hP hS hl => lv_lstore X.1 X.2.1 hd hl hn hl0 (fun ls hl => kk r S' ho p e s m args below meth c H locs ls X hP hS hl)
theorem zg_iinc {i : Nat} {n : Int} {x v : Int32} (j : Nat) (hd : decode cc pc = .ok (.iinc i n, 3)) (hk : lv[j]? = some (i, .int x)) (hv : x + Int32.ofInt n = v) (hn : i < nL) (hl0 : (i, Value.int v) :: lv.filter (fun q => !(q.1 == i) && !(q.1 + 1 == i && q.2.category == 2)) = lv') (kk : zb_Go em l G d own cc nL ret (pc + 3) lv' st S o) : zb_Go em l G d own cc nL ret pc lv st S o :=
  fun r S' ho p e s m args below meth c H locs ls X hP hS hl => lv_iinc X.1 X.2.1 hd hl hk hv hn hl0 (fun ls hl => kk r S' ho p e s m args below meth c H locs ls X hP hS hl)
theorem zg_sub (ks : List Nat) (h : lv_pick lv ks = lv') (kk : zb_Go em l G d own cc nL ret pc lv' st S o) : zb_Go em l G d own cc nL ret pc lv st S o :=
  fun r S' ho p e s m args below meth c H locs ls X hP hS hl => kk r S' ho p e s m args below meth c H locs ls X hP hS (lv_sub hl ks h)
theorem zg_idiv {x y : Int32} (hd : decode cc pc = .ok (.idiv, 1)) (kk : ¬ y = 0 → zb_Go em l G d own cc nL ret (pc + 1) lv (.int (x / y) :: rest) S o) : zb_Go em l G d own cc nL ret pc lv (.int y :: .int x :: rest) S (if y = 0 then none else o) := by
  by_cases h : y = 0
  · rw [if_pos h]; exact zg_none
  · rw [if_neg h]
    exact fun r S' ho p e s m args below meth c H locs ls X hP hS hl => lv_idiv X.1 X.2.1 hd h (kk h r S' ho p e s m args below meth c H locs ls X hP hS hl)
theorem zg_irem {x y : Int32} (hd : decode cc pc = .ok (.irem, 1)) (kk : ¬ y = 0 → zb_Go em l G d own cc nL ret (pc + 1) lv (.int (x - x / y * y) :: rest) S o) : zb_Go em l G d own cc nL ret pc lv (.int y :: .int x :: rest) S (if y = 0 then none else o) := by
  by_cases h : y = 0
  · rw [if_pos h]; exact zg_none
  · rw [if_neg h]
    exact fun r S' ho p e s m args below meth c H locs ls X hP hS hl => lv_irem X.1 X.2.1 hd h (kk h r S' ho p e s m args below meth c H locs ls X hP hS hl)
theorem zg_ldiv {x y : Int64} (hd : decode cc pc = .ok (.ldiv, 1)) (kk : ¬ y = 0 → zb_Go em l G d own cc nL ret (pc + 1) lv (.long (x / y) :: rest) S o) : zb_Go em l G d own cc nL ret pc lv (.long y :: .long x :: rest) S (if y = 0 then none else o) := by
  by_cases h : y = 0
  · rw [if_pos h]; exact zg_none
  · rw [if_neg h]
    exact fun r S' ho p e s m args below meth c H locs ls X hP hS hl => lv_ldiv X.1 X.2.1 hd h (kk h r S' ho p e s m args below meth c H locs ls X hP hS hl)
theorem zg_lrem {x y : Int64} (hd : decode cc pc = .ok (.lrem, 1)) (kk : ¬ y = 0 → zb_Go em l G d own cc nL ret (pc + 1) lv (.long (x - x / y * y) :: rest) S o) : zb_Go em l G d own cc nL ret pc lv (.long y :: .long x :: rest) S (if y = 0 then none else o) := by
  by_cases h : y = 0
  · rw [if_pos h]; exact zg_none
  · rw [if_neg h]
    exact fun r S' ho p e s m args below meth c H locs ls X hP hS hl => lv_lrem X.1 X.2.1 hd h (kk h r S' ho p e s m args below meth c H locs ls X hP hS hl)
theorem zg_iadd {x y : Int32} (hd : decode cc pc = .ok (.iadd, 1)) (kk : zb_Go em l G d own cc nL ret (pc + 1) lv (.int (x + y) :: rest) S o) : zb_Go em l G d own cc nL ret pc lv (.int y :: .int x :: rest) S o :=
  fun r S' ho p e s m args below meth c H locs ls X hP hS hl => lv_iadd X.1 X.2.1 hd (kk r S' ho p e s m args below meth c H locs ls X hP hS hl)
theorem zg_isub {x y : Int32} (hd : decode cc pc = .ok (.isub, 1)) (kk : zb_Go em l G d own cc nL ret (pc + 1) lv (.int (x - y) :: rest) S o) : zb_Go em l G d own cc nL ret pc lv (.int y :: .int x :: rest) S o :=
  fun r S' ho p e s m args below meth c H locs ls X hP hS hl => lv_isub X.1 X.2.1 hd (kk r S' ho p e s m args below meth c H locs ls X hP hS hl)
theorem zg_imul {x y : Int32} (hd : decode cc pc = .ok (.imul, 1)) (kk : zb_Go em l G d own cc nL ret (pc + 1) lv (.int (x * y) :: rest) S o) : zb_Go em l G d own cc nL ret pc lv (.int y :: .int x :: rest) S o :=
  fun r S' ho p e s m args below meth c H locs ls X hP hS hl => lv_imul X.1 X.2.1 hd (kk r S' ho p e s m args below meth c H locs ls X hP hS hl)
theorem zg_iand {x y : Int32} (hd : decode cc pc = .ok (.iand, 1)) (kk : zb_Go em l G d own cc nL ret (pc + 1) lv (.int (x &&& y) :: rest) S o) : zb_Go em l G d own cc nL ret pc lv (.int y :: .int x :: rest) S o :=
  fun r S' ho p e s m args below meth c H locs ls X hP hS hl => lv_iand X.1 X.2.1 hd (kk r S' ho p e s m args below meth c H locs ls X hP hS hl)
theorem zg_ior {x y : Int32} (hd : decode cc pc = .ok (.ior, 1)) (kk : zb_Go em l G d own cc nL ret (pc + 1) lv (.int (x ||| y) :: rest) S o) : zb_Go em l G d own cc nL ret pc lv (.int y :: .int x :: rest) S o :=
  fun r S' ho p e s m args below meth c H locs ls X hP hS hl => lv_ior X.1 X.2.1 hd (kk r S' ho p e s m args below meth c H locs ls X hP hS hl)
theorem zg_ixor {x y : Int32} (hd : decode cc pc = .ok (.ixor, 1)) (kk : zb_Go em l G d own cc nL ret (pc + 1) lv (.int (x ^^^ y) :: rest) S o) : zb_Go em l G d own cc nL ret pc lv (.int y :: .int x :: rest) S o :=
  fun r S' ho p e s m args below meth c H locs ls X hP hS hl => lv_ixor X.1 X.2.1 hd (kk r S' ho p e s m args below meth c H locs ls X hP hS hl)
theorem zg_ishl {x y : Int32} (hd : decode cc pc = .ok (.ishl, 1)) (kk : zb_Go em l G d own cc nL ret (pc + 1) lv (.int (x <<< (y &&& 31)) :: rest) S o) : zb_Go em l G d own cc nL ret pc lv (.int y :: .int x :: rest) S o :=
  fun r S' ho p e s m args below meth c H locs ls X hP hS hl => lv_ishl X.1 X.2.1 hd (kk r S' ho p e s m args below meth c H locs ls X hP hS hl)
theorem zg_ishr {x y : Int32} (hd : decode cc pc = .ok (.ishr, 1)) (kk : zb_Go em l G d own cc nL ret (pc + 1) lv (.int (x >>> (y &&& 31)) :: rest) S o) : zb_Go em l G d own cc nL ret pc lv (.int y :: .int x :: rest) S o :=
  fun r S' ho p e s m args below meth c H locs ls X hP hS hl => lv_ishr X.1 X.2.1 hd (kk r S' ho p e s m args below meth c H locs ls X hP hS hl)
theorem zg_ladd {x y : Int64} (hd : decode cc pc = .ok (.ladd, 1)) (kk : zb_Go em l G d own cc nL ret (pc + 1) lv (.long (x + y) :: rest) S o) : zb_Go em l G d own cc nL ret pc lv (.long y :: .long x :: rest) S o :=
  fun r S' ho p e s m args below meth c H locs ls X hP hS hl => lv_ladd X.1 X.2.1 hd (kk r S' ho p e s m args below meth c H locs ls X hP hS hl)
theorem zg_lsub {x y : Int64} (hd : decode cc pc = .ok (.lsub, 1)) (kk : zb_Go em l G d own cc nL ret (pc + 1) lv (.long (x - y) :: rest) S o) : zb_Go em l G d own cc nL ret pc lv (.long y :: .long x :: rest) S o :=
  fun r S' ho p e s m args below meth c H locs ls X hP hS hl => lv_lsub X.1 X.2.1 hd (kk r S' ho p e s m args below meth c H locs ls X hP hS hl)
theorem zg_lmul {x y : Int64} (hd : decode cc pc = .ok (.lmul, 1)) (kk : zb_Go em l G d own cc nL ret (pc + 1) lv (.long (x * y) :: rest) S o) : zb_Go em l G d own cc nL ret pc lv (.long y :: .long x :: rest) S o :=
  fun r S' ho p e s m args below meth c H locs ls X hP hS hl => lv_lmul X.1 X.2.1 hd (kk r S' ho p e s m args below meth c H locs ls X hP hS hl)
theorem zg_land {x y : Int64} (hd : decode cc pc = .ok (.land, 1)) (kk : zb_Go em l G d own cc nL ret (pc + 1) lv (.long (x &&& y) :: rest) S o) : zb_Go em l G d own cc nL ret pc lv (.long y :: .long x :: rest) S o :=
  fun r S' ho p e s m args below meth c H locs ls X hP hS hl => lv_land X.1 X.2.1 hd (kk r S' ho p e s m args below meth c H locs ls X hP hS hl)
theorem zg_lor {x y : Int64} (hd : decode cc pc = .ok (.lor, 1)) (kk : zb_Go em l G d own cc nL ret (pc + 1) lv (.long (x ||| y) :: rest) S o) : zb_Go em l G d own cc nL ret pc lv (.long y :: .long x :: rest) S o :=
  fun r S' ho p e s m args below meth c H locs ls X hP hS hl => lv_lor X.1 X.2.1 hd (kk r S' ho p e s m args below meth c H locs ls X hP hS hl)
theorem zg_i2l {x : Int32} (hd : decode cc pc = .ok (.i2l, 1)) (kk : zb_Go em l G d own cc nL ret (pc + 1) lv (.long x.toInt64 :: rest) S o) : zb_Go em l G d own cc nL ret pc lv (.int x :: rest) S o :=
  fun r S' ho p e s m args below meth c H locs ls X hP hS hl => lv_i2l X.1 X.2.1 hd rfl (kk r S' ho p e s m args below meth c H locs ls X hP hS hl)
theorem zg_l2i {x : Int64} (hd : decode cc pc = .ok (.l2i, 1)) (kk : zb_Go em l G d own cc nL ret (pc + 1) lv (.int x.toInt32 :: rest) S o) : zb_Go em l G d own cc nL ret pc lv (.long x :: rest) S o :=
  fun r S' ho p e s m args below meth c H locs ls X hP hS hl => lv_l2i X.1 X.2.1 hd rfl (kk r S' ho p e s m args below meth c H locs ls X hP hS hl)
theorem zg_iushr {x y : Int32} (hd : decode cc pc = .ok (.iushr, 1)) (kk : zb_Go em l G d own cc nL ret (pc + 1) lv (.int (x.toUInt32 >>> (y.toUInt32 &&& Int32.toUInt32 31)).toInt32 :: rest) S o) : zb_Go em l G d own cc nL ret pc lv (.int y :: .int x :: rest) S o :=
  fun r S' ho p e s m args below meth c H locs ls X hP hS hl => lv_iushr X.1 X.2.1 hd rfl (kk r S' ho p e s m args below meth c H locs ls X hP hS hl)
theorem zg_lushr {x : Int64} {y : Int32} (hd : decode cc pc = .ok (.lushr, 1)) (kk : zb_Go em l G d own cc nL ret (pc + 1) lv (.long (x.toUInt64 >>> (y.toInt64.toUInt64 &&& Int64.toUInt64 63)).toInt64 :: rest) S o) : zb_Go em l G d own cc nL ret pc lv (.int y :: .long x :: rest) S o :=
  fun r S' ho p e s m args below meth c H locs ls X hP hS hl => lv_lushr X.1 X.2.1 hd rfl (kk r S' ho p e s m args below meth c H locs ls X hP hS hl)
theorem zg_lshl {x : Int64} {y : Int32} (hd : decode cc pc = .ok (.lshl, 1)) (kk : zb_Go em l G d own cc nL ret (pc + 1) lv (.long (x <<< (y.toInt64 &&& 63)) :: rest) S o) : zb_Go em l G d own cc nL ret pc lv (.int y :: .long x :: rest) S o :=
  fun r S' ho p e s m args below meth c H locs ls X hP hS hl => lv_lshl X.1 X.2.1 hd rfl (kk r S' ho p e s m args below meth c H locs ls X hP hS hl)
theorem zg_ineg {x : Int32} (hd : decode cc pc = .ok (.ineg, 1)) (kk : zb_Go em l G d own cc nL ret (pc + 1) lv (.int (-x) :: rest) S o) : zb_Go em l G d own cc nL ret pc lv (.int x :: rest) S o :=
  fun r S' ho p e s m args below meth c H locs ls X hP hS hl => lv_ineg X.1 X.2.1 hd (kk r S' ho p e s m args below meth c H locs ls X hP hS hl)
theorem zg_lcmp {x y : Int64} (hd : decode cc pc = .ok (.lcmp, 1)) (kk : zb_Go em l G d own cc nL ret (pc + 1) lv (.int (lg_cmp x y) :: rest) S o) : zb_Go em l G d own cc nL ret pc lv (.long y :: .long x :: rest) S o :=
  fun r S' ho p e s m args below meth c H locs ls X hP hS hl => W.lcmp X.1 X.2.1 hd (kk r S' ho p e s m args below meth c H locs ls X hP hS hl)
theorem zg_dup {va : Value} (hd : decode cc pc = .ok (.dup, 1)) (hva : va.category = 1) (kk : zb_Go em l G d own cc nL ret (pc + 1) lv (va :: va :: rest) S o) : zb_Go em l G d own cc nL ret pc lv (va :: rest) S o :=
  fun r S' ho p e s m args below meth c H locs ls X hP hS hl => lv_dup X.1 X.2.1 hd hva (kk r S' ho p e s m args below meth c H locs ls X hP hS hl)
theorem zg_dup2 {va vb : Value} (hd : decode cc pc = .ok (.dup2, 1)) (hva : va.category = 1) (hvb : vb.category = 1) (kk : zb_Go em l G d own cc nL ret (pc + 1) lv (va :: vb :: va :: vb :: rest) S o) : zb_Go em l G d own cc nL ret pc lv (va :: vb :: rest) S o :=
  fun r S' ho p e s m args below meth c H locs ls X hP hS hl => lv_dup2_11 X.1 X.2.1 hd hva hvb (kk r S' ho p e s m args below meth c H locs ls X hP hS hl)
theorem zg_pop {va : Value} (hd : decode cc pc = .ok (.pop, 1)) (hva : va.category = 1) (kk : zb_Go em l G d own cc nL ret (pc + 1) lv rest S o) : zb_Go em l G d own cc nL ret pc lv (va :: rest) S o :=
  fun r S' ho p e s m args below meth c H locs ls X hP hS hl => lv_pop X.1 X.2.1 hd hva (kk r S' ho p e s m args below meth c H locs ls X hP hS hl)
theorem zg_goto {off : Int} {tgt : Nat} (hd : decode cc pc = .ok (.goto off, 3)) (ht : (pc : Int) + off = (tgt : Int)) (kk : zb_Go em l G d own cc nL ret tgt lv st S o) : zb_Go em l G d own cc nL ret pc lv st S o :=
  fun r S' ho p e s m args below meth c H locs ls X hP hS hl => lv_goto X.1 X.2.1 hd ht (kk r S' ho p e s m args below meth c H locs ls X hP hS hl)
theorem zg_if_eq {x : Int32} {off : Int} {oT oF : Option (α × zb_S)} (tgt : Nat) (hd : decode cc pc = .ok (.ifCond .eq off, 3)) (ht : (pc : Int) + off = (tgt : Int)) (kt : zb_Go em l G d own cc nL ret tgt lv rest S oT) (kf : zb_Go em l G d own cc nL ret (pc + 3) lv rest S oF) : zb_Go em l G d own cc nL ret pc lv (.int x :: rest) S (if x = 0 then oT else oF) :=
  fun r S' ho p e s m args below meth c H locs ls X hP hS hl => lv_if_eq X.1 X.2.1 hd ht (fun h => kt r S' (by rw [if_pos h] at ho; exact ho) p e s m args below meth c H locs ls X hP hS hl) (fun h => kf r S' (by rw [if_neg h] at ho; exact ho) p e s m args below meth c H locs ls X hP hS hl)
theorem zg_icmp_eq {x y : Int32} {off : Int} {oT oF : Option (α × zb_S)} (tgt : Nat) (hd : decode cc pc = .ok (.if_icmp .eq off, 3)) (ht : (pc : Int) + off = (tgt : Int)) (kt : zb_Go em l G d own cc nL ret tgt lv rest S oT) (kf : zb_Go em l G d own cc nL ret (pc + 3) lv rest S oF) : zb_Go em l G d own cc nL ret pc lv (.int y :: .int x :: rest) S (if x = y then oT else oF) :=
  fun r S' ho p e s m args below meth c H locs ls X hP hS hl => lv_icmp_eq X.1 X.2.1 hd ht (fun h => kt r S' (by rw [if_pos h] at ho; exact ho) p e s m args below meth c H locs ls X hP hS hl) (fun h => kf r S' (by rw [if_neg h] at ho; exact ho) p e s m args below meth c H locs ls X hP hS hl)
theorem zg_if_ne {x : Int32} {off : Int} {oT oF : Option (α × zb_S)} (tgt : Nat) (hd : decode cc pc = .ok (.ifCond .ne off, 3)) (ht : (pc : Int) + off = (tgt : Int)) (kt : zb_Go em l G d own cc nL ret tgt lv rest S oT) (kf : zb_Go em l G d own cc nL ret (pc + 3) lv rest S oF) : zb_Go em l G d own cc nL ret pc lv (.int x :: rest) S (if x = 0 then oF else oT) :=
  fun r S' ho p e s m args below meth c H locs ls X hP hS hl => lv_if_ne X.1 X.2.1 hd ht (fun h => kt r S' (by rw [if_neg h] at ho; exact ho) p e s m args below meth c H locs ls X hP hS hl) (fun h => kf r S' (by rw [if_pos h] at ho; exact ho) p e s m args below meth c H locs ls X hP hS hl)
theorem zg_icmp_ne {x y : Int32} {off : Int} {oT oF : Option (α × zb_S)} (tgt : Nat) (hd : decode cc pc = .ok (.if_icmp .ne off, 3)) (ht : (pc : Int) + off = (tgt : Int)) (kt : zb_Go em l G d own cc nL ret tgt lv rest S oT) (kf : zb_Go em l G d own cc nL ret (pc + 3) lv rest S oF) : zb_Go em l G d own cc nL ret pc lv (.int y :: .int x :: rest) S (if x = y then oF else oT) :=
  fun r S' ho p e s m args below meth c H locs ls X hP hS hl => lv_icmp_ne X.1 X.2.1 hd ht (fun h => kt r S' (by rw [if_neg h] at ho; exact ho) p e s m args below meth c H locs ls X hP hS hl) (fun h => kf r S' (by rw [if_pos h] at ho; exact ho) p e s m args below meth c H locs ls X hP hS hl)
theorem zg_if_lt {x : Int32} {off : Int} {oT oF : Option (α × zb_S)} (tgt : Nat) (hd : decode cc pc = .ok (.ifCond .lt off, 3)) (ht : (pc : Int) + off = (tgt : Int)) (kt : zb_Go em l G d own cc nL ret tgt lv rest S oT) (kf : zb_Go em l G d own cc nL ret (pc + 3) lv rest S oF) : zb_Go em l G d own cc nL ret pc lv (.int x :: rest) S (if x < 0 then oT else oF) :=
  fun r S' ho p e s m args below meth c H locs ls X hP hS hl => lv_if_lt X.1 X.2.1 hd ht (fun h => kt r S' (by rw [if_pos h] at ho; exact ho) p e s m args below meth c H locs ls X hP hS hl) (fun h => kf r S' (by rw [if_neg h] at ho; exact ho) p e s m args below meth c H locs ls X hP hS hl)
theorem zg_icmp_lt {x y : Int32} {off : Int} {oT oF : Option (α × zb_S)} (tgt : Nat) (hd : decode cc pc = .ok (.if_icmp .lt off, 3)) (ht : (pc : Int) + off = (tgt : Int)) (kt : zb_Go em l G d own cc nL ret tgt lv rest S oT) (kf : zb_Go em l G d own cc nL ret (pc + 3) lv rest S oF) : zb_Go em l G d own cc nL ret pc lv (.int y :: .int x :: rest) S (if x < y then oT else oF) :=
  fun r S' ho p e s m args below meth c H locs ls X hP hS hl => lv_icmp_lt X.1 X.2.1 hd ht (fun h => kt r S' (by rw [if_pos h] at ho; exact ho) p e s m args below meth c H locs ls X hP hS hl) (fun h => kf r S' (by rw [if_neg h] at ho; exact ho) p e s m args below meth c H locs ls X hP hS hl)
theorem zg_if_ge {x : Int32} {off : Int} {oT oF : Option (α × zb_S)} (tgt : Nat) (hd : decode cc pc = .ok (.ifCond .ge off, 3)) (ht : (pc : Int) + off = (tgt : Int)) (kt : zb_Go em l G d own cc nL ret tgt lv rest S oT) (kf : zb_Go em l G d own cc nL ret (pc + 3) lv rest S oF) : zb_Go em l G d own cc nL ret pc lv (.int x :: rest) S (if 0 ≤ x then oT else oF) :=
  fun r S' ho p e s m args below meth c H locs ls X hP hS hl => lv_if_ge X.1 X.2.1 hd ht (fun h => kt r S' (by rw [if_pos h] at ho; exact ho) p e s m args below meth c H locs ls X hP hS hl) (fun h => kf r S' (by rw [if_neg h] at ho; exact ho) p e s m args below meth c H locs ls X hP hS hl)
theorem zg_icmp_ge {x y : Int32} {off : Int} {oT oF : Option (α × zb_S)} (tgt : Nat) (hd : decode cc pc = .ok (.if_icmp .ge off, 3)) (ht : (pc : Int) + off = (tgt : Int)) (kt : zb_Go em l G d own cc nL ret tgt lv rest S oT) (kf : zb_Go em l G d own cc nL ret (pc + 3) lv rest S oF) : zb_Go em l G d own cc nL ret pc lv (.int y :: .int x :: rest) S (if y ≤ x then oT else oF) :=
  fun r S' ho p e s m args below meth c H locs ls X hP hS hl => lv_icmp_ge X.1 X.2.1 hd ht (fun h => kt r S' (by rw [if_pos h] at ho; exact ho) p e s m args below meth c H locs ls X hP hS hl) (fun h => kf r S' (by rw [if_neg h] at ho; exact ho) p e s m args below meth c H locs ls X hP hS hl)
theorem zg_if_gt {x : Int32} {off : Int} {oT oF : Option (α × zb_S)} (tgt : Nat) (hd : decode cc pc = .ok (.ifCond .gt off, 3)) (ht : (pc : Int) + off = (tgt : Int)) (kt : zb_Go em l G d own cc nL ret tgt lv rest S oT) (kf : zb_Go em l G d own cc nL ret (pc + 3) lv rest S oF) : zb_Go em l G d own cc nL ret pc lv (.int x :: rest) S (if 0 < x then oT else oF) :=
  fun r S' ho p e s m args below meth c H locs ls X hP hS hl => lv_if_gt X.1 X.2.1 hd ht (fun h => kt r S' (by rw [if_pos h] at ho; exact ho) p e s m args below meth c H locs ls X hP hS hl) (fun h => kf r S' (by rw [if_neg h] at ho; exact ho) p e s m args below meth c H locs ls X hP hS hl)
theorem zg_icmp_gt {x y : Int32} {off : Int} {oT oF : Option (α × zb_S)} (tgt : Nat) (hd : decode cc pc = .ok (.if_icmp .gt off, 3)) (ht : (pc : Int) + off = (tgt : Int)) (kt : zb_Go em l G d own cc nL ret tgt lv rest S oT) (kf : zb_Go em l G d own cc nL ret (pc + 3) lv rest S oF) : zb_Go em l G d own cc nL ret pc lv (.int y :: .int x :: rest) S (if y < x then oT else oF) :=
  fun r S' ho p e s m args below meth c H locs ls X hP hS hl => lv_icmp_gt X.1 X.2.1 hd ht (fun h => kt r S' (by rw [if_pos h] at ho; exact ho) p e s m args below meth c H locs ls X hP hS hl) (fun h => kf r S' (by rw [if_neg h] at ho; exact ho) p e s m args below meth c H locs ls X hP hS hl)
theorem zg_if_le {x : Int32} {off : Int} {oT oF : Option (α × zb_S)} (tgt : Nat) (hd : decode cc pc = .ok (.ifCond .le off, 3)) (ht : (pc : Int) + off = (tgt : Int)) (kt : zb_Go em l G d own cc nL ret tgt lv rest S oT) (kf : zb_Go em l G d own cc nL ret (pc + 3) lv rest S oF) : zb_Go em l G d own cc nL ret pc lv (.int x :: rest) S (if x ≤ 0 then oT else oF) :=
  fun r S' ho p e s m args below meth c H locs ls X hP hS hl => lv_if_le X.1 X.2.1 hd ht (fun h => kt r S' (by rw [if_pos h] at ho; exact ho) p e s m args below meth c H locs ls X hP hS hl) (fun h => kf r S' (by rw [if_neg h] at ho; exact ho) p e s m args below meth c H locs ls X hP hS hl)
theorem zg_icmp_le {x y : Int32} {off : Int} {oT oF : Option (α × zb_S)} (tgt : Nat) (hd : decode cc pc = .ok (.if_icmp .le off, 3)) (ht : (pc : Int) + off = (tgt : Int)) (kt : zb_Go em l G d own cc nL ret tgt lv rest S oT) (kf : zb_Go em l G d own cc nL ret (pc + 3) lv rest S oF) : zb_Go em l G d own cc nL ret pc lv (.int y :: .int x :: rest) S (if x ≤ y then oT else oF) :=
  fun r S' ho p e s m args below meth c H locs ls X hP hS hl => lv_icmp_le X.1 X.2.1 hd ht (fun h => kt r S' (by rw [if_pos h] at ho; exact ho) p e s m args below meth c H locs ls X hP hS hl) (fun h => kf r S' (by rw [if_neg h] at ho; exact ho) p e s m args below meth c H locs ls X hP hS hl)
theorem zg_tableOut {dflt lo hi : Int} {offs : Array Int} {len : Nat} {x : Int32} {tgt : Nat} (hd : decode cc pc = .ok (.tableswitch dflt lo hi offs, len)) (h : x.toInt < lo ∨ hi < x.toInt) (ht : (pc : Int) + dflt = (tgt : Int)) (kk : zb_Go em l G d own cc nL ret tgt lv rest S o) : zb_Go em l G d own cc nL ret pc lv (.int x :: rest) S o :=
  fun r S' ho p e s m args below meth c H locs ls X hP hS hl => lv_tableOut X.1 X.2.1 hd h ht (kk r S' ho p e s m args below meth c H locs ls X hP hS hl)
theorem zg_tableIn {dflt lo hi : Int} {offs : Array Int} {len : Nat} {x : Int32} {off : Int} {tgt : Nat} (hd : decode cc pc = .ok (.tableswitch dflt lo hi offs, len)) (h1 : ¬ x.toInt < lo) (h2 : ¬ hi < x.toInt) (hoff : offs[(x.toInt - lo).toNat]? = some off) (ht : (pc : Int) + off = (tgt : Int)) (kk : zb_Go em l G d own cc nL ret tgt lv rest S o) : zb_Go em l G d own cc nL ret pc lv (.int x :: rest) S o :=
  fun r S' ho p e s m args below meth c H locs ls X hP hS hl => lv_tableIn X.1 X.2.1 hd h1 h2 hoff ht (kk r S' ho p e s m args below meth c H locs ls X hP hS hl)
theorem zg_lookup {dflt : Int} {ps : Array (Int × Int)} {len : Nat} {x : Int32} {off : Int} {tgt : Nat} (hd : decode cc pc = .ok (.lookupswitch dflt ps, len)) (hp : (ps.toList.zip (ps.toList.drop 1)).all (fun (a, next) => a.1 < next.1) = true) (hoff : Op.lookupswitch.offset ps.toList dflt x.toInt = off) (ht : (pc : Int) + off = (tgt : Int)) (kk : zb_Go em l G d own cc nL ret tgt lv rest S o) : zb_Go em l G d own cc nL ret pc lv (.int x :: rest) S o :=
  fun r S' ho p e s m args below meth c H locs ls X hP hS hl => lv_lookup X.1 X.2.1 hd hp hoff ht (kk r S' ho p e s m args below meth c H locs ls X hP hS hl)
theorem zg_if {c : Prop} [Decidable c] {o1 o2 : Option (α × zb_S)} (k1 : c → zb_Go em l G d own cc nL ret pc lv st S o1) (k2 : ¬ c → zb_Go em l G d own cc nL ret pc lv st S o2) : zb_Go em l G d own cc nL ret pc lv st S (if c then o1 else o2) := by
  by_cases h : c
  · rw [if_pos h]; exact k1 h
  · rw [if_neg h]; exact k2 h
theorem zb_val_i {b k : Nat} (h : zb_tyk (zb_kd b) k = 0) : zb_val G S b k = .int (zb_i S b k) := by simp [zb_val, h]
theorem zb_val_l {b k : Nat} (h : zb_tyk (zb_kd b) k = 1) : zb_val G S b k = .long (zb_l S b k) := by simp [zb_val, h]
theorem zb_val_r {b k : Nat} (h : zb_tyk (zb_kd b) k = 2) : zb_val G S b k = .ref (zb_ad G (zb_rf b k)) := by simp [zb_val, h]
theorem zb_cell_o {b ci : Nat} (hkd : zb_kd b = ci) (h7 : ci < 7) : zb_cell G S b = .inr (ci, zb_fs G S b) := by
  simp only [zb_cell, hkd]
  rw [if_neg (by omega), if_neg (by omega)]
theorem zb_cell_I {b : Nat} (hkd : zb_kd b = 7) : zb_cell G S b = .inl (zb_cI G, zb_sz b, .inl (zb_a S b)) := by simp [zb_cell, hkd]
theorem zb_cell_Z {b : Nat} (hkd : zb_kd b = 8) : zb_cell G S b = .inl (zb_cZ G, zb_sz b, .inl (zb_a S b)) := by simp [zb_cell, hkd]
theorem zb_fs_at {b k : Nat} (hk : k < zb_nfk (zb_kd b)) : (zb_fs G S b)[k]? = some (zb_val G S b k) := by simp [zb_fs, hk]
theorem zb_fs_len {b : Nat} : (zb_fs G S b).length = zb_nfk (zb_kd b) := by simp [zb_fs]
theorem zb_fs_pi {b k : Nat} {x : Int32} (h0 : zb_tyk (zb_kd b) k = 0) : zb_fs G (zb_pi S b k x) b = (zb_fs G S b).set k (.int x) := by
  apply List.ext_getElem?
  intro j
  rw [List.getElem?_set, zb_fs_len]
  by_cases hj : j < zb_nfk (zb_kd b)
  · rw [zb_fs_at hj, zb_fs_at hj]
    by_cases hjk : k = j
    · subst hjk
      simp [hj, zb_val, h0, zb_pi, zb_i, va_up]
    · simp [hjk, zb_val, zb_pi, zb_i, zb_l, va_up, Ne.symm hjk]
  · rw [List.getElem?_eq_none (by rw [zb_fs_len]; omega), List.getElem?_eq_none (by rw [zb_fs_len]; omega)]
    by_cases hjk : k = j
    · subst hjk; simp [hj]
    · simp [hjk]
theorem zb_fs_pl {b k : Nat} {x : Int64} (h0 : zb_tyk (zb_kd b) k = 1) : zb_fs G (zb_pl S b k x) b = (zb_fs G S b).set k (.long x) := by
  apply List.ext_getElem?
  intro j
  rw [List.getElem?_set, zb_fs_len]
  by_cases hj : j < zb_nfk (zb_kd b)
  · rw [zb_fs_at hj, zb_fs_at hj]
    by_cases hjk : k = j
    · subst hjk
      simp [hj, zb_val, h0, zb_pl, zb_l, va_up]
    · simp [hjk, zb_val, zb_pl, zb_i, zb_l, va_up, Ne.symm hjk]
  · rw [List.getElem?_eq_none (by rw [zb_fs_len]; omega), List.getElem?_eq_none (by rw [zb_fs_len]; omega)]
    by_cases hjk : k = j
    · subst hjk; simp [hj]
    · simp [hjk]
theorem zb_cell_ext {S1 S2 : zb_S} {j : Nat} (h1 : S1.1 j = S2.1 j) (h2 : S1.2.1 j = S2.2.1 j) (h3 : S1.2.2 j = S2.2.2 j) : zb_cell G S1 j = zb_cell G S2 j := by
  have e1 : zb_i S1 j = zb_i S2 j := h1
  have e2 : zb_l S1 j = zb_l S2 j := h2
  have e3 : zb_a S1 j = zb_a S2 j := h3
  have e4 : zb_val G S1 j = zb_val G S2 j := by funext k; simp only [zb_val, e1, e2]
  simp only [zb_cell, zb_fs, e3, e4]
theorem zg_get {b ci k N index : Nat} {C : String} {Tt : u_T} {v : Value} (hkd : zb_kd b = ci) (h7 : ci < 7) (hc : vwCl[ci]? = some (C, Tt, N)) (hN : zb_nfk ci = N) (hin : ∀ w ∈ u_ws C Tt N, w ∈ wsL_law) (hk : k < N) (hT : (Tt k).1 = C) (hw : Cond.fieldLink own index (Tt k).1 (Tt k).2.1 (Tt k).2.2.1 ∈ wsL_law) (hv : zb_val G S b k = v) (hd : decode cc pc = .ok (.getfield index, 3)) (kk : zb_Go em l G d own cc nL ret (pc + 3) lv (v :: rest) S o) : zb_Go em l G d own cc nL ret pc lv (.ref (zb_ad G b) :: rest) S o :=
  fun r S' ho p e s m args below meth c H locs ls X hP hS hl => va_get X.1 X.2.1 X.2.2.2.2.2.1 hin X.2.2.2.2.1 X.2.2.2.2.2.2.2.1 hP b (by rw [zb_at (zb_lt hkd (by omega)), zb_cell_o hkd h7]) hc k hk (X.2.2.2.2.2.1 _ hw) (fun _ h9 => h9) (by rw [zb_fs_at (by rw [hkd, hN]; exact hk), hv]) hd (kk r S' ho p e s m args below meth c H locs ls X hP hS hl)
theorem zg_puti {b ci k N index : Nat} {C : String} {Tt : u_T} {x : Int32} {kf : zb_S → Option (α × zb_S)} (hkd : zb_kd b = ci) (h7 : ci < 7) (hc : vwCl[ci]? = some (C, Tt, N)) (hN : zb_nfk ci = N) (hin : ∀ w ∈ u_ws C Tt N, w ∈ wsL_law) (ty0 : Nat → FieldType) (hty : ∀ k, k < N → parseFieldDescriptor (Tt k).2.2.1 = some (ty0 k)) (hnm : ∀ a, a < N → ∀ b, b < N → a ≠ b → (Tt a).2.1 ≠ (Tt b).2.1) (hk : k < N) (hw : Cond.fieldLink own index (Tt k).1 (Tt k).2.1 (Tt k).2.2.1 ∈ wsL_law) (h0 : zb_tyk ci k = 0) (hfin : (Tt k).2.2.2 = false) (hti : parseFieldDescriptor (Tt k).2.2.1 = some .int) (hd : decode cc pc = .ok (.putfield index, 3)) (kk : ∀ S1 : zb_S, zb_Go em l G d own cc nL ret (pc + 3) lv rest S1 (kf S1)) : zb_Go em l G d own cc nL ret pc lv (.int x :: .ref (zb_ad G b) :: rest) S (zb_let (zb_pi S b k x) kf) := by
  intro r S' ho p e s m args below meth c H locs ls X hP hS hl
  have hlt := zb_lt hkd (by omega)
  refine va_put (ty := .int) (v := .int x) X.1 X.2.1 X.2.2.2.2.2.1 hin ty0 hty hnm X.2.2.2.2.1 X.2.2.2.2.2.2.2.1 hP (zb_Dd X.2.2.2.2.2.2.2) hS b (by rw [zb_at hlt, zb_cell_o hkd h7]) hc k hk (X.2.2.2.2.2.1 _ hw) (fun _ h9 => h9) hfin hti rfl rfl (by rw [zb_fs_len, hkd, hN]; exact hk) hd (fun H1 locs1 hP1 _ hS1 => ?_)
  have e1 : (zb_pic G S).set b (zb_ad G b, .inr (ci, (zb_fs G S b).set k (.int x))) = zb_pic G (zb_pi S b k x) := zb_set hlt (by rw [zb_cell_o hkd h7, zb_fs_pi (by rw [hkd]; exact h0)]) (fun j hj => zb_cell_ext (by simp [zb_pi, va_up, hj]) rfl rfl)
  rw [e1] at hP1
  exact kk _ r S' ho p e s m args below meth c H1 locs1 ls X hP1 hS1 hl
theorem zg_putl {b ci k N index : Nat} {C : String} {Tt : u_T} {x : Int64} {kf : zb_S → Option (α × zb_S)} (hkd : zb_kd b = ci) (h7 : ci < 7) (hc : vwCl[ci]? = some (C, Tt, N)) (hN : zb_nfk ci = N) (hin : ∀ w ∈ u_ws C Tt N, w ∈ wsL_law) (ty0 : Nat → FieldType) (hty : ∀ k, k < N → parseFieldDescriptor (Tt k).2.2.1 = some (ty0 k)) (hnm : ∀ a, a < N → ∀ b, b < N → a ≠ b → (Tt a).2.1 ≠ (Tt b).2.1) (hk : k < N) (hw : Cond.fieldLink own index (Tt k).1 (Tt k).2.1 (Tt k).2.2.1 ∈ wsL_law) (h0 : zb_tyk ci k = 1) (hfin : (Tt k).2.2.2 = false) (hti : parseFieldDescriptor (Tt k).2.2.1 = some .long) (hd : decode cc pc = .ok (.putfield index, 3)) (kk : ∀ S1 : zb_S, zb_Go em l G d own cc nL ret (pc + 3) lv rest S1 (kf S1)) : zb_Go em l G d own cc nL ret pc lv (.long x :: .ref (zb_ad G b) :: rest) S (zb_let (zb_pl S b k x) kf) := by
  intro r S' ho p e s m args below meth c H locs ls X hP hS hl
  have hlt := zb_lt hkd (by omega)
  refine va_put (ty := .long) (v := .long x) X.1 X.2.1 X.2.2.2.2.2.1 hin ty0 hty hnm X.2.2.2.2.1 X.2.2.2.2.2.2.2.1 hP (zb_Dd X.2.2.2.2.2.2.2) hS b (by rw [zb_at hlt, zb_cell_o hkd h7]) hc k hk (X.2.2.2.2.2.1 _ hw) (fun _ h9 => h9) hfin hti rfl rfl (by rw [zb_fs_len, hkd, hN]; exact hk) hd (fun H1 locs1 hP1 _ hS1 => ?_)
  have e1 : (zb_pic G S).set b (zb_ad G b, .inr (ci, (zb_fs G S b).set k (.long x))) = zb_pic G (zb_pl S b k x) := zb_set hlt (by rw [zb_cell_o hkd h7, zb_fs_pl (by rw [hkd]; exact h0)]) (fun j hj => zb_cell_ext rfl (by simp [zb_pl, va_up, hj]) rfl)
  rw [e1] at hP1
  exact kk _ r S' ho p e s m args below meth c H1 locs1 ls X hP1 hS1 hl
theorem zb_if {c : Prop} [Decidable c] {o1 : Option (α × zb_S)} {x : α × zb_S} (h : (if c then o1 else none) = some x) : c ∧ o1 = some x := by
  by_cases q : c
  · rw [if_pos q] at h; exact ⟨q, h⟩
  · rw [if_neg q] at h; cases h
theorem zg_iald {b : Nat} {i : Int32} (hkd : zb_kd b = 7) (hd : decode cc pc = .ok (.iaload, 1)) (kk : zb_Go em l G d own cc nL ret (pc + 1) lv (.int (zb_a S b i.toNatClampNeg) :: rest) S o) : zb_Go em l G d own cc nL ret pc lv (.int i :: .ref (zb_ad G b) :: rest) S (if zb_in i (zb_sz b) then o else none) :=
  fun r S' ho p e s m args below meth c H locs ls X hP hS hl => va_iald X.1 X.2.1 X.2.2.2.2.2.2.2.1 hP b 0 (by rw [zb_at (zb_lt hkd (by omega)), zb_cell_I hkd]) rfl (zb_vp (zb_if ho).1) hd (kk r S' (zb_if ho).2 p e s m args below meth c H locs ls X hP hS hl)
theorem zg_zald {b : Nat} {i : Int32} (hkd : zb_kd b = 8) (hd : decode cc pc = .ok (.baload, 1)) (kk : zb_Go em l G d own cc nL ret (pc + 1) lv (.int (zb_a S b i.toNatClampNeg) :: rest) S o) : zb_Go em l G d own cc nL ret pc lv (.int i :: .ref (zb_ad G b) :: rest) S (if zb_in i (zb_sz b) then o else none) :=
  fun r S' ho p e s m args below meth c H locs ls X hP hS hl => va_zald X.1 X.2.1 X.2.2.2.2.2.2.2.1 hP b 1 (by rw [zb_at (zb_lt hkd (by omega)), zb_cell_Z hkd]) rfl (zb_vp (zb_if ho).1) hd (kk r S' (zb_if ho).2 p e s m args below meth c H locs ls X hP hS hl)
theorem zg_iast {b : Nat} {i x : Int32} {kf : zb_S → Option (α × zb_S)} (hkd : zb_kd b = 7) (hd : decode cc pc = .ok (.iastore, 1)) (kk : ∀ S1 : zb_S, zb_Go em l G d own cc nL ret (pc + 1) lv rest S1 (kf S1)) : zb_Go em l G d own cc nL ret pc lv (.int x :: .int i :: .ref (zb_ad G b) :: rest) S (if zb_in i (zb_sz b) then zb_let (zb_pa S b i.toNatClampNeg x) kf else none) := by
  intro r S' ho p e s m args below meth c H locs ls X hP hS hl
  have hlt := zb_lt hkd (by omega)
  obtain ⟨h1, h2⟩ := zb_if ho
  refine va_iast X.1 X.2.1 X.2.2.2.2.2.2.2.1 hP (zb_Dd X.2.2.2.2.2.2.2) hS b 0 (by rw [zb_at hlt, zb_cell_I hkd]) rfl (zb_vp h1) hd (fun H1 locs1 hP1 _ hS1 => ?_)
  have e1 : (zb_pic G S).set b (zb_ad G b, .inl (zb_cI G, zb_sz b, .inl (upd (zb_a S b) i.toNatClampNeg x))) = zb_pic G (zb_pa S b i.toNatClampNeg x) := zb_set hlt (by
    rw [zb_cell_I hkd]
    have e2 : zb_a (zb_pa S b i.toNatClampNeg x) b = upd (zb_a S b) i.toNatClampNeg x := by funext q; simp [zb_a, zb_pa, va_up]; rfl
    rw [e2]) (fun j hj => zb_cell_ext rfl rfl (by simp [zb_pa, va_up, hj]))
  rw [e1] at hP1
  exact kk _ r S' h2 p e s m args below meth c H1 locs1 ls X hP1 hS1 hl
theorem zg_zast {b : Nat} {i x : Int32} {kf : zb_S → Option (α × zb_S)} (hkd : zb_kd b = 8) (hd : decode cc pc = .ok (.bastore, 1)) (kk : ∀ S1 : zb_S, zb_Go em l G d own cc nL ret (pc + 1) lv rest S1 (kf S1)) : zb_Go em l G d own cc nL ret pc lv (.int x :: .int i :: .ref (zb_ad G b) :: rest) S (if zb_in i (zb_sz b) then zb_let (zb_pa S b i.toNatClampNeg (vp_nar .boolean x)) kf else none) := by
  intro r S' ho p e s m args below meth c H locs ls X hP hS hl
  have hlt := zb_lt hkd (by omega)
  obtain ⟨h1, h2⟩ := zb_if ho
  refine va_zast X.1 X.2.1 X.2.2.2.2.2.2.2.1 hP (zb_Dd X.2.2.2.2.2.2.2) hS b 1 (by rw [zb_at hlt, zb_cell_Z hkd]) rfl (zb_vp h1) hd (fun H1 locs1 hP1 _ hS1 => ?_)
  have e1 : (zb_pic G S).set b (zb_ad G b, .inl (zb_cZ G, zb_sz b, .inl (upd (zb_a S b) i.toNatClampNeg (vp_nar .boolean x)))) = zb_pic G (zb_pa S b i.toNatClampNeg (vp_nar .boolean x)) := zb_set hlt (by
    rw [zb_cell_Z hkd]
    have e2 : zb_a (zb_pa S b i.toNatClampNeg (vp_nar .boolean x)) b = upd (zb_a S b) i.toNatClampNeg (vp_nar .boolean x) := by funext q; simp [zb_a, zb_pa, va_up]; rfl
    rw [e2]) (fun j hj => zb_cell_ext rfl rfl (by simp [zb_pa, va_up, hj]))
  rw [e1] at hP1
  exact kk _ r S' h2 p e s m args below meth c H1 locs1 ls X hP1 hS1 hl
/-- the static row of factorials: fetched and read -/
theorem zg_getsF {index : Nat} (hown : own = "ZoneBelt") (hw : Cond.fieldLink own index "ZoneBelt" "FACTORIALS" "[I" ∈ wsL_law) (hd : decode cc pc = .ok (.getstatic index, 3)) (kk : zb_Go em l G d own cc nL ret (pc + 3) lv (.ref (zb_tF G) :: st) S o) : zb_Go em l G d own cc nL ret pc lv st S o :=
  fun r S' ho p e s m args below meth c H locs ls X hP hS hl => va_gets X.1 X.2.1 X.2.2.2.2.2.2.2.2.2.1 hS X.2.2.2.2.1 (X.2.2.2.2.2.1 _ hw) (fun _ h => h) hd (kk r S' ho p e s m args below meth c H locs ls X hP hS hl)
theorem zg_getsT {index : Nat} (hown : own = "ZoneBelt") (hw : Cond.fieldLink own index "ZoneBelt" "THOUSANDS" "[J" ∈ wsL_law) (hd : decode cc pc = .ok (.getstatic index, 3)) (kk : zb_Go em l G d own cc nL ret (pc + 3) lv (.ref (zb_tT G) :: st) S o) : zb_Go em l G d own cc nL ret pc lv st S o :=
  fun r S' ho p e s m args below meth c H locs ls X hP hS hl => va_gets X.1 X.2.1 X.2.2.2.2.2.2.2.2.2.2.2.1 hS X.2.2.2.2.1 (X.2.2.2.2.2.1 _ hw) (fun _ h => h) hd (kk r S' ho p e s m args below meth c H locs ls X hP hS hl)
theorem zg_tiF {i : Int32} (hd : decode cc pc = .ok (.iaload, 1)) (kk : zb_Go em l G d own cc nL ret (pc + 1) lv (.int (zb_fac i.toNatClampNeg) :: rest) S o) : zb_Go em l G d own cc nL ret pc lv (.int i :: .ref (zb_tF G) :: rest) S (if zb_in i 7 then o else none) :=
  fun r S' ho p e s m args below meth c H locs ls X hP hS hl => va_ti X.1 X.2.1 X.2.2.2.2.2.2.2.2.2.2.1 hS (zb_vp (zb_if ho).1) rfl hd (kk r S' (zb_if ho).2 p e s m args below meth c H locs ls X hP hS hl)
theorem zg_tlT {i : Int32} (hd : decode cc pc = .ok (.laload, 1)) (kk : zb_Go em l G d own cc nL ret (pc + 1) lv (.long (zb_tho i.toNatClampNeg) :: rest) S o) : zb_Go em l G d own cc nL ret pc lv (.int i :: .ref (zb_tT G) :: rest) S (if zb_in i 5 then o else none) :=
  fun r S' ho p e s m args below meth c H locs ls X hP hS hl => va_tl X.1 X.2.1 X.2.2.2.2.2.2.2.2.2.2.2.2 hS (zb_vp (zb_if ho).1) rfl hd (kk r S' (zb_if ho).2 p e s m args below meth c H locs ls X hP hS hl)
theorem zb_gd {w : Cond} (h : w ∈ wsL_law) : w ∈ wsL_law ∧ ((w.onTables && w.keeps) = true ∨ ∃ ty, w = .arrayClass ty) := ⟨h, good_of_word (List.all_eq_true.mp zw_good w h)⟩
theorem zb_gV {index : Nat} {C : String} {y2 : MethodName} {cc2 : ByteArray} {nL2 : Nat} {ret2 : Option FieldType} (w1 : Cond.methodLink own index y2 ∈ wsL_law) (w2 : Cond.instanceMethod y2 ∈ wsL_law) (w3 : Cond.selects C y2 y2 ∈ wsL_law) (w4 : Cond.initialized C ∈ wsL_law) (w5 : Cond.code y2 cc2 nL2 ret2 ∈ wsL_law) : GoodIn wsL_law (wsV own index C y2 (zb_ws y2 cc2 nL2 ret2)) := by
  intro w hw
  simp only [wsV, zb_ws, List.mem_append, List.mem_cons, List.not_mem_nil, or_false] at hw
  rcases hw with (rfl | rfl | rfl | rfl) | rfl | hw
  · exact zb_gd w1
  · exact zb_gd w2
  · exact zb_gd w3
  · exact zb_gd w4
  · exact zb_gd w5
  · exact zb_gd hw
theorem zb_gS {index : Nat} {y2 : MethodName} {cc2 : ByteArray} {nL2 : Nat} {ret2 : Option FieldType} (w1 : Cond.methodLink own index y2 ∈ wsL_law) (w2 : Cond.static y2 ∈ wsL_law) (w4 : Cond.initialized y2.cls ∈ wsL_law) (w5 : Cond.code y2 cc2 nL2 ret2 ∈ wsL_law) : GoodIn wsL_law (va_wsS own index y2 (zb_ws y2 cc2 nL2 ret2)) := by
  intro w hw
  simp only [va_wsS, zb_ws, List.mem_append, List.mem_cons, List.not_mem_nil, or_false] at hw
  rcases hw with (rfl | rfl | rfl) | rfl | hw
  · exact zb_gd w1
  · exact zb_gd w2
  · exact zb_gd w4
  · exact zb_gd w5
  · exact zb_gd hw
theorem zb_blind {as : List Value} : FrameBlind (va_Pc as (zb_W G S)) := by
  intro a U g mk q
  obtain ⟨q0, qP, qK⟩ := q
  exact ⟨q0, qP, zb_K.moved (u := U) (U := U.calling g mk a) (Vm.Alike.refl U.vm) qK⟩
/-- behind a call -/
theorem zb_run {p : Program} {e : Env} {s : State} {m : MethodId} {args : Array Value} {below : List Frame} {meth : Method} {c : Code} {H : Heap} {locs : List Loc} {ls : Array Slot} {st0 : List Value} {a : Array Value} {ov : Option Value} {S1 : zb_S} {Qf : State → Prop} (hr : va_Run p l e (zb_rm d) s m args below meth c H locs 0 0 0 0 (F0 m pc ls st0) rest (zb_Q G ov S1 a) (zb_A G)) (hS : va_S (zb_A G) s.heap H locs)
    (kk : ∀ (H1 : Heap) (locs1 : List Loc), va_P (zb_D G) vwCl (zb_pic G S1) H1 → va_S (zb_A G) s.heap H1 locs1 → W p l e (zb_rm d) s m args below meth c H1 locs1 0 0 Qf (F0 m (pc + 3) ls (ov.toList ++ rest))) : W p l e (zb_rm d) s m args below meth c H locs 0 0 Qf (F0 m pc ls st0) := by
  intro T hT X
  obtain ⟨v, st₀, t, T', L, h0, X', hL, e1, e2, ⟨hv, ⟨hP1, -⟩, hz, hk⟩, st⟩ := hr T hT X
  cases hv
  rw [h0] at hz hk
  obtain ⟨t2, a1, b1⟩ := kk T'.heap (locs ++ L) (by rw [e1]; exact hP1)
    ⟨Nat.le_trans hS.1 (by rw [e1]; exact hz), fun q h1 h2 => by rw [e1, hk q (Nat.lt_of_lt_of_le h1 hS.1) h2]; exact hS.2.1 q h1 h2, fun q hq => by
      rcases List.mem_append.mp hq with h | h
      · exact hS.2.2 q h
      · exact hL q h⟩ T' rfl X'
  exact ⟨t2, st t2 a1, b1⟩
theorem zg_callV {em' : β → Option Value} {y2 : MethodName} {cc2 : ByteArray} {nL2 : Nat} {ret2 : Option FieldType} {d2 index b ci N2 : Nat} {C : String} {T2 : u_T} {As : List Value} {f : Option (β × zb_S)} {k : β × zb_S → Option (α × zb_S)} (n : Nat)
    (hM : zb_C em' l G d2 y2 cc2 nL2 ret2 (.ref (zb_ad G b) :: As) S f) (hd2 : d2 + 1 ≤ d) (hnL : nL2 ≤ 20) (hkd : zb_kd b = ci) (h7 : ci < 7) (hc : vwCl[ci]? = some (C, T2, N2))
    (w1 : Cond.methodLink own index y2 ∈ wsL_law) (w2 : Cond.instanceMethod y2 ∈ wsL_law) (w3 : Cond.selects C y2 y2 ∈ wsL_law) (w4 : Cond.initialized C ∈ wsL_law) (w5 : Cond.code y2 cc2 nL2 ret2 ∈ wsL_law)
    (hcls : y2.cls = C ∧ y2.cls ≠ "java/lang/invoke/MethodHandle" ∧ y2.cls ≠ "java/lang/invoke/VarHandle" ∧ (parseMethodDescriptor y2.desc).map (fun d => d.parameters.length) = some n) (hn : As.length = n) (hst : st = As.reverse ++ .ref (zb_ad G b) :: rest) (hrm : (rest.map fun v => v.category).sum ≤ 8) (hdg : decode cc pc = .ok (.invokevirtual index, 3))
    (kk : ∀ (r1 : β) (S1 : zb_S), zb_Go em l G d own cc nL ret (pc + 3) lv ((em' r1).toList ++ rest) S1 (k (r1, S1))) : zb_Go em l G d own cc nL ret pc lv st S (f.bind k) := by
  intro r S' ho p e s m args below meth c H locs ls X hP hS hl
  cases hf : f with
  | none => rw [hf] at ho; cases ho
  | some q =>
    obtain ⟨r1, S1⟩ := q
    rw [hf] at ho
    have hlt := zb_lt hkd (by omega)
    have hrun := va_runV (R := zb_rm d) (e := e) (below := below) (meth := meth) (H := H) (locs := locs) (cells := 0) (slots := 0) (g := F0 m pc ls st) (rest := rest) (As := As) (b := zb_ad G b) ⟨X.1, X.2.1, X.2.2.2.1, X.2.2.2.2.1, X.2.2.2.2.2.1⟩ (hM r1 S1 hf) (cwV n X.2.2.2.2.2.1 (zb_gV w1 w2 w3 w4 w5) rfl rfl rfl hcls ⟨by show d2 + 1 + 1 ≤ d + 1; omega, by show 8 + (nL2 + 11) + 40 * (d2 + 1) ≤ 40 * (d + 1); omega⟩) ⟨zb_blind, va_recv X.2.2.2.2.2.2.2.1 hP hc (by rw [zb_at hlt, zb_cell_o hkd h7]), fun U hU hW => ⟨rfl, by rw [hU]; exact hP, by rw [hU]; exact (X.2.2.2.2.2.2.2.moved hW.alike).kept (fun a h1 h2 => hS.2.1 a h1 h2)⟩⟩ rfl hn hl.1 hst (lv_room hrm) hdg ⟨Nat.le_refl _, Nat.le_refl _⟩
    exact zb_run hrun hS (fun H1 locs1 hP1 hS1 => kk r1 S1 r S' ho p e s m args below meth c H1 locs1 ls X hP1 hS1 hl)
theorem zg_callS {em' : β → Option Value} {y2 : MethodName} {cc2 : ByteArray} {nL2 : Nat} {ret2 : Option FieldType} {d2 index : Nat} {As : List Value} {f : Option (β × zb_S)} {k : β × zb_S → Option (α × zb_S)} (n : Nat)
    (hM : zb_C em' l G d2 y2 cc2 nL2 ret2 As S f) (hd2 : d2 + 1 ≤ d) (hnL : nL2 ≤ 20)
    (w1 : Cond.methodLink own index y2 ∈ wsL_law) (w2 : Cond.static y2 ∈ wsL_law) (w4 : Cond.initialized y2.cls ∈ wsL_law) (w5 : Cond.code y2 cc2 nL2 ret2 ∈ wsL_law)
    (hcls : y2.cls ≠ "java/lang/invoke/MethodHandle" ∧ y2.cls ≠ "java/lang/invoke/VarHandle" ∧ (parseMethodDescriptor y2.desc).map (fun d => d.parameters.length) = some n) (hn : As.length = n) (hst : st = As.reverse ++ rest) (hrm : (rest.map fun v => v.category).sum ≤ 8) (hdg : decode cc pc = .ok (.invokestatic index, 3))
    (kk : ∀ (r1 : β) (S1 : zb_S), zb_Go em l G d own cc nL ret (pc + 3) lv ((em' r1).toList ++ rest) S1 (k (r1, S1))) : zb_Go em l G d own cc nL ret pc lv st S (f.bind k) := by
  intro r S' ho p e s m args below meth c H locs ls X hP hS hl
  cases hf : f with
  | none => rw [hf] at ho; cases ho
  | some q =>
    obtain ⟨r1, S1⟩ := q
    rw [hf] at ho
    have hrun := va_runS (R := zb_rm d) (e := e) (below := below) (meth := meth) (H := H) (locs := locs) (cells := 0) (slots := 0) (g := F0 m pc ls st) (rest := rest) (As := As) ⟨X.1, X.2.1, X.2.2.2.1, X.2.2.2.2.1, X.2.2.2.2.2.1⟩ (hM r1 S1 hf) (va_cwS n X.2.2.2.2.2.1 (zb_gS w1 w2 w4 w5) rfl rfl rfl hcls ⟨by show d2 + 1 + 1 ≤ d + 1; omega, by show 8 + (nL2 + 11) + 40 * (d2 + 1) ≤ 40 * (d + 1); omega⟩) ⟨zb_blind, fun U hU hW => ⟨rfl, by rw [hU]; exact hP, by rw [hU]; exact (X.2.2.2.2.2.2.2.moved hW.alike).kept (fun a h1 h2 => hS.2.1 a h1 h2)⟩⟩ rfl hn hl.1 hst (lv_room hrm) hdg ⟨Nat.le_refl _, Nat.le_refl _⟩
    exact zb_run hrun hS (fun H1 locs1 hP1 hS1 => kk r1 S1 r S' ho p e s m args below meth c H1 locs1 ls X hP1 hS1 hl)
theorem zg_mabs {index : Nat} {x : Int32} (w1 : Cond.methodLink own index Lib.Math.abs.name ∈ wsL_law) (w2 : Cond.static Lib.Math.abs.name ∈ wsL_law) (w4 : Cond.initialized "java/lang/Math" ∈ wsL_law) (w5 : Cond.code Lib.Math.abs.name Lib.Math.abs.code 1 (some .int) ∈ wsL_law) (hrm : (rest.map fun v => v.category).sum ≤ 8) (hd : decode cc pc = .ok (.invokestatic index, 3)) (kk : zb_Go em l G d own cc nL ret (pc + 3) lv (.int (if 0 ≤ x then x else 0 - x) :: rest) S o) : zb_Go em l G d own cc nL ret pc lv (.int x :: rest) S o :=
  fun r S' ho p e s m args below meth c H locs ls X hP hS hl => va_mabs X.1 X.2.1 (by rw [X.2.2.2.1, hl.1]) X.2.2.2.2.1 (X.2.2.2.2.2.1 _ w1) (X.2.2.2.2.2.1 _ w2) (X.2.2.2.2.2.1 _ w4) (X.2.2.2.2.2.1 _ w5) (by show 1 ≤ d + 1; omega) (by show _ + 13 ≤ 40 * (d + 1); omega) (Nat.le_refl _) (Nat.le_refl _) hd (kk r S' ho p e s m args below meth c H locs ls X hP hS hl)
theorem zg_mmax {index : Nat} {x y : Int32} (w1 : Cond.methodLink own index Lib.Math.max.name ∈ wsL_law) (w2 : Cond.static Lib.Math.max.name ∈ wsL_law) (w4 : Cond.initialized "java/lang/Math" ∈ wsL_law) (w5 : Cond.code Lib.Math.max.name Lib.Math.max.code 2 (some .int) ∈ wsL_law) (hrm : (rest.map fun v => v.category).sum ≤ 8) (hd : decode cc pc = .ok (.invokestatic index, 3)) (kk : zb_Go em l G d own cc nL ret (pc + 3) lv (.int (if x < y then y else x) :: rest) S o) : zb_Go em l G d own cc nL ret pc lv (.int y :: .int x :: rest) S o :=
  fun r S' ho p e s m args below meth c H locs ls X hP hS hl => va_mmax X.1 X.2.1 (by rw [X.2.2.2.1, hl.1]) X.2.2.2.2.1 (X.2.2.2.2.2.1 _ w1) (X.2.2.2.2.2.1 _ w2) (X.2.2.2.2.2.1 _ w4) (X.2.2.2.2.2.1 _ w5) (by show 1 ≤ d + 1; omega) (by show _ + 13 ≤ 40 * (d + 1); omega) (Nat.le_refl _) (Nat.le_refl _) hd (kk r S' ho p e s m args below meth c H locs ls X hP hS hl)
theorem zg_mmin {index : Nat} {x y : Int32} (w1 : Cond.methodLink own index Lib.Math.min.name ∈ wsL_law) (w2 : Cond.static Lib.Math.min.name ∈ wsL_law) (w4 : Cond.initialized "java/lang/Math" ∈ wsL_law) (w5 : Cond.code Lib.Math.min.name Lib.Math.min.code 2 (some .int) ∈ wsL_law) (hrm : (rest.map fun v => v.category).sum ≤ 8) (hd : decode cc pc = .ok (.invokestatic index, 3)) (kk : zb_Go em l G d own cc nL ret (pc + 3) lv (.int (if y < x then y else x) :: rest) S o) : zb_Go em l G d own cc nL ret pc lv (.int y :: .int x :: rest) S o :=
  fun r S' ho p e s m args below meth c H locs ls X hP hS hl => va_mmin X.1 X.2.1 (by rw [X.2.2.2.1, hl.1]) X.2.2.2.2.1 (X.2.2.2.2.2.1 _ w1) (X.2.2.2.2.2.1 _ w2) (X.2.2.2.2.2.1 _ w4) (X.2.2.2.2.2.1 _ w5) (by show 1 ≤ d + 1; omega) (by show _ + 13 ≤ 40 * (d + 1); omega) (Nat.le_refl _) (Nat.le_refl _) hd (kk r S' ho p e s m args below meth c H locs ls X hP hS hl)
abbrev zb_cpok (sp dp n : Int32) (n0 n1 : Nat) : Prop := ¬ sp < 0 ∧ ¬ dp < 0 ∧ ¬ n < 0 ∧ sp.toNatClampNeg + n.toNatClampNeg ≤ n0 ∧ dp.toNatClampNeg + n.toNatClampNeg ≤ n1
theorem zg_copy {index x y : Nat} {sp dp n : Int32} {kf : zb_S → Option (α × zb_S)} (hkx : zb_kd x = 7) (hky : zb_kd y = 7) (w1 : Cond.methodLink own index arraycopyName ∈ wsL_law) (w2 : Cond.native arraycopyName ∈ wsL_law) (w3 : Cond.static arraycopyName ∈ wsL_law) (w4 : Cond.initialized "java/lang/System" ∈ wsL_law) (hrm : (rest.map fun v => v.category).sum ≤ 8) (hd : decode cc pc = .ok (.invokestatic index, 3)) (kk : ∀ S1 : zb_S, zb_Go em l G d own cc nL ret (pc + 3) lv rest S1 (kf S1)) :
    zb_Go em l G d own cc nL ret pc lv (.int n :: .int dp :: .ref (zb_ad G y) :: .int sp :: .ref (zb_ad G x) :: rest) S (if zb_cpok sp dp n (zb_sz x) (zb_sz y) then zb_let (zb_cp S x sp.toNatClampNeg y dp.toNatClampNeg n.toNatClampNeg) kf else none) := by
  intro r S' ho p e s m args below meth c H locs ls X hP hS hl
  have hltx := zb_lt hkx (by omega)
  have hlty := zb_lt hky (by omega)
  obtain ⟨⟨h1, h2, h3, h4, h5⟩, h6⟩ := zb_if ho
  have e9 : nativeFrameWords "java/lang/System" "arraycopy" 5 ≤ 20 := by decide
  refine va_copyi (R := zb_rm d) (rest := rest) (ty := .int) X.1 X.2.1 (by rw [X.2.2.2.1, hl.1]) X.2.2.2.2.1 (X.2.2.2.2.2.1 _ w1) (X.2.2.2.2.2.1 _ w2) (X.2.2.2.2.2.1 _ w3) (X.2.2.2.2.2.1 _ w4) X.2.2.2.2.2.2.2.1 hP (zb_Dd X.2.2.2.2.2.2.2) hS x y 0 0 (by rw [zb_at hltx, zb_cell_I hkx]) (by rw [zb_at hlty, zb_cell_I hky]) rfl rfl rfl h1 h2 h3 h4 h5 (fun _ _ => rfl) (show 1 ≤ d + 1 from Nat.le_add_left 1 d) (show (rest.map fun v => v.category).sum + (nativeFrameWords "java/lang/System" "arraycopy" 5 + 11) ≤ 40 * (d + 1) by omega) hd (fun H1 locs1 hP1 _ hS1 => ?_)
  have e1 : (zb_pic G S).set y (zb_ad G y, .inl (zb_cI G, zb_sz y, .inl (va_cpy (zb_a S x) (zb_a S y) sp.toNatClampNeg dp.toNatClampNeg n.toNatClampNeg))) = zb_pic G (zb_cp S x sp.toNatClampNeg y dp.toNatClampNeg n.toNatClampNeg) := zb_set hlty (by
    rw [zb_cell_I hky]
    have e2 : zb_a (zb_cp S x sp.toNatClampNeg y dp.toNatClampNeg n.toNatClampNeg) y = va_cpy (zb_a S x) (zb_a S y) sp.toNatClampNeg dp.toNatClampNeg n.toNatClampNeg := by funext q; simp [zb_a, zb_cp, va_up]; rfl
    rw [e2]) (fun j hj => zb_cell_ext rfl rfl (by simp [zb_cp, va_up, hj]))
  rw [e1] at hP1
  exact kk _ r S' h6 p e s m args below meth c H1 locs1 ls X hP1 hS1 hl
theorem zb_end {p : Program} {s t : State} {m : MethodId} {args : Array Value} {meth : Method} {c : Code} {H : Heap} {locs : List Loc} (X : zb_X p s m args meth c G own cc nL ret) (hP : va_P (zb_D G) vwCl (zb_pic G S) H) (hS : va_S (zb_A G) s.heap H locs) (ht : t.heap = H) (hW : s.WarmedH t.vm) (ov : Option Value) : zb_Q G ov S args s (.returned ov) t :=
  ⟨rfl, ⟨by rw [ht]; exact hP, by rw [ht]; exact (X.2.2.2.2.2.2.2.moved hW.alike).kept (fun a h1 h2 => hS.2.1 a h1 h2)⟩, hS.F ht⟩
theorem zg_iret {v : Int32} (hr : ret = some .int) (hd : decode cc pc = .ok (.ireturn, 1)) : zb_Go zb_eI l G d own cc nL ret pc lv [.int v] S (some (v, S)) := by
  intro r S' ho p e s m args below meth c H locs ls X hP hS hl
  cases ho
  exact W.iret (v := v) X.1 X.2.1 (by rw [X.2.2.1, hr]) (fun t ht hW => zb_end X hP hS ht hW _) hS.2.2 hd X.2.2.2.2.2.2.1
theorem zg_zret {v : Int32} (hr : ret = some .boolean) (hd : decode cc pc = .ok (.ireturn, 1)) : zb_Go zb_eI l G d own cc nL ret pc lv [.int v] S (if v = 0 ∨ v = 1 then some (v, S) else none) := by
  intro r S' ho p e s m args below meth c H locs ls X hP hS hl
  obtain ⟨h1, h2⟩ := zb_if ho
  cases h2
  exact W.zret (v := v) X.1 X.2.1 (by rw [X.2.2.1, hr]) (by rcases h1 with rfl | rfl <;> rfl) (fun t ht hW => zb_end X hP hS ht hW _) hS.2.2 hd X.2.2.2.2.2.2.1
theorem zg_lret {v : Int64} (hr : ret = some .long) (hd : decode cc pc = .ok (.lreturn, 1)) : zb_Go zb_eL l G d own cc nL ret pc lv [.long v] S (some (v, S)) := by
  intro r S' ho p e s m args below meth c H locs ls X hP hS hl
  cases ho
  exact W.lret (v := v) X.1 X.2.1 (by rw [X.2.2.1, hr]) (fun t ht hW => zb_end X hP hS ht hW _) hS.2.2 hd X.2.2.2.2.2.2.1
theorem zg_vret (hr : ret = none) (hd : decode cc pc = .ok (.return_, 1)) : zb_Go zb_eV l G d own cc nL ret pc lv [] S (some ((), S)) := by
  intro r S' ho p e s m args below meth c H locs ls X hP hS hl
  cases ho
  exact W.vret X.1 X.2.1 (by rw [X.2.2.1, hr]) (fun t ht hW => zb_end X hP hS ht hW _) hS.2.2 hd X.2.2.2.2.2.2.1
theorem zg_istore_nL {k : Fin 4} {i : Nat} {v : Int32} {kf : Int32 → Option (α × zb_S)} (lv' : Int32 → List (Nat × Value)) (hd : decode cc pc = .ok (.istore_n k, 1)) (hi : (k : Nat) = i) (hn : i < nL) (hl0 : ∀ x : Int32, (i, Value.int x) :: lv.filter (fun q => !(q.1 == i) && !(q.1 + 1 == i && q.2.category == 2)) = lv' x) (kk : ∀ x : Int32, zb_Go em l G d own cc nL ret (pc + 1) (lv' x) rest S (kf x)) : zb_Go em l G d own cc nL ret pc lv (.int v :: rest) S (zb_let v kf) := zg_istore_n hd hi hn (hl0 v) (kk v)
theorem zg_istoreL {i : Nat} {v : Int32} {kf : Int32 → Option (α × zb_S)} (lv' : Int32 → List (Nat × Value)) (hd : decode cc pc = .ok (.istore i, 2)) (hn : i < nL) (hl0 : ∀ x : Int32, (i, Value.int x) :: lv.filter (fun q => !(q.1 == i) && !(q.1 + 1 == i && q.2.category == 2)) = lv' x) (kk : ∀ x : Int32, zb_Go em l G d own cc nL ret (pc + 2) (lv' x) rest S (kf x)) : zb_Go em l G d own cc nL ret pc lv (.int v :: rest) S (zb_let v kf) := zg_istore hd hn (hl0 v) (kk v)
theorem zg_lstore_nL {k : Fin 4} {i : Nat} {v : Int64} {kf : Int64 → Option (α × zb_S)} (lv' : Int64 → List (Nat × Value)) (hd : decode cc pc = .ok (.lstore_n k, 1)) (hi : (k : Nat) = i) (hn : i + 1 < nL) (hl0 : ∀ x : Int64, (i, Value.long x) :: lv.filter (fun q => !(q.1 == i) && (!(q.1 == i + 1) && !(q.1 + 1 == i && q.2.category == 2))) = lv' x) (kk : ∀ x : Int64, zb_Go em l G d own cc nL ret (pc + 1) (lv' x) rest S (kf x)) : zb_Go em l G d own cc nL ret pc lv (.long v :: rest) S (zb_let v kf) := zg_lstore_n hd hi hn (hl0 v) (kk v)
theorem zg_lstoreL {i : Nat} {v : Int64} {kf : Int64 → Option (α × zb_S)} (lv' : Int64 → List (Nat × Value)) (hd : decode cc pc = .ok (.lstore i, 2)) (hn : i + 1 < nL) (hl0 : ∀ x : Int64, (i, Value.long x) :: lv.filter (fun q => !(q.1 == i) && (!(q.1 == i + 1) && !(q.1 + 1 == i && q.2.category == 2))) = lv' x) (kk : ∀ x : Int64, zb_Go em l G d own cc nL ret (pc + 2) (lv' x) rest S (kf x)) : zb_Go em l G d own cc nL ret pc lv (.long v :: rest) S (zb_let v kf) := zg_lstore hd hn (hl0 v) (kk v)
theorem zg_iincL {i : Nat} {n : Int} {x v : Int32} {kf : Int32 → Option (α × zb_S)} (lv' : Int32 → List (Nat × Value)) (j : Nat) (hd : decode cc pc = .ok (.iinc i n, 3)) (hk : lv[j]? = some (i, .int x)) (hv : x + Int32.ofInt n = v) (hn : i < nL) (hl0 : ∀ x : Int32, (i, Value.int x) :: lv.filter (fun q => !(q.1 == i) && !(q.1 + 1 == i && q.2.category == 2)) = lv' x) (kk : ∀ x : Int32, zb_Go em l G d own cc nL ret (pc + 3) (lv' x) st S (kf x)) : zb_Go em l G d own cc nL ret pc lv st S (zb_let v kf) := zg_iinc j hd hk hv hn (hl0 v) (kk v)
theorem zg_callVI {y2 : MethodName} {cc2 : ByteArray} {nL2 : Nat} {ret2 : Option FieldType} {d2 index b ci N2 : Nat} {C : String} {T2 : u_T} {As : List Value} {f : Option (Int32 × zb_S)} {k : Int32 → zb_S → Option (α × zb_S)} (n : Nat)
    (hM : zb_C zb_eI l G d2 y2 cc2 nL2 ret2 (.ref (zb_ad G b) :: As) S f) (hd2 : d2 + 1 ≤ d) (hnL : nL2 ≤ 20) (hkd : zb_kd b = ci) (h7 : ci < 7) (hc : vwCl[ci]? = some (C, T2, N2))
    (w1 : Cond.methodLink own index y2 ∈ wsL_law) (w2 : Cond.instanceMethod y2 ∈ wsL_law) (w3 : Cond.selects C y2 y2 ∈ wsL_law) (w4 : Cond.initialized C ∈ wsL_law) (w5 : Cond.code y2 cc2 nL2 ret2 ∈ wsL_law)
    (hcls : y2.cls = C ∧ y2.cls ≠ "java/lang/invoke/MethodHandle" ∧ y2.cls ≠ "java/lang/invoke/VarHandle" ∧ (parseMethodDescriptor y2.desc).map (fun d => d.parameters.length) = some n) (hn : As.length = n) (hst : st = As.reverse ++ .ref (zb_ad G b) :: rest) (hrm : (rest.map fun v => v.category).sum ≤ 8) (hdg : decode cc pc = .ok (.invokevirtual index, 3))
    (kk : ∀ (r1 : Int32) (S1 : zb_S), zb_Go em l G d own cc nL ret (pc + 3) lv (.int r1 :: rest) S1 (k r1 S1)) : zb_Go em l G d own cc nL ret pc lv st S (zb_bind f k) := by
  rw [zb_bind_eq]
  exact zg_callV n hM hd2 hnL hkd h7 hc w1 w2 w3 w4 w5 hcls hn hst hrm hdg (fun r1 S1 => kk r1 S1)
theorem zg_callSI {y2 : MethodName} {cc2 : ByteArray} {nL2 : Nat} {ret2 : Option FieldType} {d2 index : Nat} {As : List Value} {f : Option (Int32 × zb_S)} {k : Int32 → zb_S → Option (α × zb_S)} (n : Nat)
    (hM : zb_C zb_eI l G d2 y2 cc2 nL2 ret2 As S f) (hd2 : d2 + 1 ≤ d) (hnL : nL2 ≤ 20)
    (w1 : Cond.methodLink own index y2 ∈ wsL_law) (w2 : Cond.static y2 ∈ wsL_law) (w4 : Cond.initialized y2.cls ∈ wsL_law) (w5 : Cond.code y2 cc2 nL2 ret2 ∈ wsL_law)
    (hcls : y2.cls ≠ "java/lang/invoke/MethodHandle" ∧ y2.cls ≠ "java/lang/invoke/VarHandle" ∧ (parseMethodDescriptor y2.desc).map (fun d => d.parameters.length) = some n) (hn : As.length = n) (hst : st = As.reverse ++ rest) (hrm : (rest.map fun v => v.category).sum ≤ 8) (hdg : decode cc pc = .ok (.invokestatic index, 3))
    (kk : ∀ (r1 : Int32) (S1 : zb_S), zb_Go em l G d own cc nL ret (pc + 3) lv (.int r1 :: rest) S1 (k r1 S1)) : zb_Go em l G d own cc nL ret pc lv st S (zb_bind f k) := by
  rw [zb_bind_eq]
  exact zg_callS n hM hd2 hnL w1 w2 w4 w5 hcls hn hst hrm hdg (fun r1 S1 => kk r1 S1)
theorem zg_callVJ {y2 : MethodName} {cc2 : ByteArray} {nL2 : Nat} {ret2 : Option FieldType} {d2 index b ci N2 : Nat} {C : String} {T2 : u_T} {As : List Value} {f : Option (Int64 × zb_S)} {k : Int64 → zb_S → Option (α × zb_S)} (n : Nat)
    (hM : zb_C zb_eL l G d2 y2 cc2 nL2 ret2 (.ref (zb_ad G b) :: As) S f) (hd2 : d2 + 1 ≤ d) (hnL : nL2 ≤ 20) (hkd : zb_kd b = ci) (h7 : ci < 7) (hc : vwCl[ci]? = some (C, T2, N2))
    (w1 : Cond.methodLink own index y2 ∈ wsL_law) (w2 : Cond.instanceMethod y2 ∈ wsL_law) (w3 : Cond.selects C y2 y2 ∈ wsL_law) (w4 : Cond.initialized C ∈ wsL_law) (w5 : Cond.code y2 cc2 nL2 ret2 ∈ wsL_law)
    (hcls : y2.cls = C ∧ y2.cls ≠ "java/lang/invoke/MethodHandle" ∧ y2.cls ≠ "java/lang/invoke/VarHandle" ∧ (parseMethodDescriptor y2.desc).map (fun d => d.parameters.length) = some n) (hn : As.length = n) (hst : st = As.reverse ++ .ref (zb_ad G b) :: rest) (hrm : (rest.map fun v => v.category).sum ≤ 8) (hdg : decode cc pc = .ok (.invokevirtual index, 3))
    (kk : ∀ (r1 : Int64) (S1 : zb_S), zb_Go em l G d own cc nL ret (pc + 3) lv (.long r1 :: rest) S1 (k r1 S1)) : zb_Go em l G d own cc nL ret pc lv st S (zb_bind f k) := by
  rw [zb_bind_eq]
  exact zg_callV n hM hd2 hnL hkd h7 hc w1 w2 w3 w4 w5 hcls hn hst hrm hdg (fun r1 S1 => kk r1 S1)
theorem zg_callSJ {y2 : MethodName} {cc2 : ByteArray} {nL2 : Nat} {ret2 : Option FieldType} {d2 index : Nat} {As : List Value} {f : Option (Int64 × zb_S)} {k : Int64 → zb_S → Option (α × zb_S)} (n : Nat)
    (hM : zb_C zb_eL l G d2 y2 cc2 nL2 ret2 As S f) (hd2 : d2 + 1 ≤ d) (hnL : nL2 ≤ 20)
    (w1 : Cond.methodLink own index y2 ∈ wsL_law) (w2 : Cond.static y2 ∈ wsL_law) (w4 : Cond.initialized y2.cls ∈ wsL_law) (w5 : Cond.code y2 cc2 nL2 ret2 ∈ wsL_law)
    (hcls : y2.cls ≠ "java/lang/invoke/MethodHandle" ∧ y2.cls ≠ "java/lang/invoke/VarHandle" ∧ (parseMethodDescriptor y2.desc).map (fun d => d.parameters.length) = some n) (hn : As.length = n) (hst : st = As.reverse ++ rest) (hrm : (rest.map fun v => v.category).sum ≤ 8) (hdg : decode cc pc = .ok (.invokestatic index, 3))
    (kk : ∀ (r1 : Int64) (S1 : zb_S), zb_Go em l G d own cc nL ret (pc + 3) lv (.long r1 :: rest) S1 (k r1 S1)) : zb_Go em l G d own cc nL ret pc lv st S (zb_bind f k) := by
  rw [zb_bind_eq]
  exact zg_callS n hM hd2 hnL w1 w2 w4 w5 hcls hn hst hrm hdg (fun r1 S1 => kk r1 S1)
theorem zg_callVV {y2 : MethodName} {cc2 : ByteArray} {nL2 : Nat} {ret2 : Option FieldType} {d2 index b ci N2 : Nat} {C : String} {T2 : u_T} {As : List Value} {f : Option (Unit × zb_S)} {k : Unit → zb_S → Option (α × zb_S)} (n : Nat)
    (hM : zb_C zb_eV l G d2 y2 cc2 nL2 ret2 (.ref (zb_ad G b) :: As) S f) (hd2 : d2 + 1 ≤ d) (hnL : nL2 ≤ 20) (hkd : zb_kd b = ci) (h7 : ci < 7) (hc : vwCl[ci]? = some (C, T2, N2))
    (w1 : Cond.methodLink own index y2 ∈ wsL_law) (w2 : Cond.instanceMethod y2 ∈ wsL_law) (w3 : Cond.selects C y2 y2 ∈ wsL_law) (w4 : Cond.initialized C ∈ wsL_law) (w5 : Cond.code y2 cc2 nL2 ret2 ∈ wsL_law)
    (hcls : y2.cls = C ∧ y2.cls ≠ "java/lang/invoke/MethodHandle" ∧ y2.cls ≠ "java/lang/invoke/VarHandle" ∧ (parseMethodDescriptor y2.desc).map (fun d => d.parameters.length) = some n) (hn : As.length = n) (hst : st = As.reverse ++ .ref (zb_ad G b) :: rest) (hrm : (rest.map fun v => v.category).sum ≤ 8) (hdg : decode cc pc = .ok (.invokevirtual index, 3))
    (kk : ∀ (S1 : zb_S), zb_Go em l G d own cc nL ret (pc + 3) lv rest S1 (k () S1)) : zb_Go em l G d own cc nL ret pc lv st S (zb_bind f k) := by
  rw [zb_bind_eq]
  exact zg_callV n hM hd2 hnL hkd h7 hc w1 w2 w3 w4 w5 hcls hn hst hrm hdg (fun r1 S1 => kk S1)
theorem zg_callSV {y2 : MethodName} {cc2 : ByteArray} {nL2 : Nat} {ret2 : Option FieldType} {d2 index : Nat} {As : List Value} {f : Option (Unit × zb_S)} {k : Unit → zb_S → Option (α × zb_S)} (n : Nat)
    (hM : zb_C zb_eV l G d2 y2 cc2 nL2 ret2 As S f) (hd2 : d2 + 1 ≤ d) (hnL : nL2 ≤ 20)
    (w1 : Cond.methodLink own index y2 ∈ wsL_law) (w2 : Cond.static y2 ∈ wsL_law) (w4 : Cond.initialized y2.cls ∈ wsL_law) (w5 : Cond.code y2 cc2 nL2 ret2 ∈ wsL_law)
    (hcls : y2.cls ≠ "java/lang/invoke/MethodHandle" ∧ y2.cls ≠ "java/lang/invoke/VarHandle" ∧ (parseMethodDescriptor y2.desc).map (fun d => d.parameters.length) = some n) (hn : As.length = n) (hst : st = As.reverse ++ rest) (hrm : (rest.map fun v => v.category).sum ≤ 8) (hdg : decode cc pc = .ok (.invokestatic index, 3))
    (kk : ∀ (S1 : zb_S), zb_Go em l G d own cc nL ret (pc + 3) lv rest S1 (k () S1)) : zb_Go em l G d own cc nL ret pc lv st S (zb_bind f k) := by
  rw [zb_bind_eq]
  exact zg_callS n hM hd2 hnL w1 w2 w4 w5 hcls hn hst hrm hdg (fun r1 S1 => kk S1)
end ZG
theorem zk_all1 : ∀ b, b < 32 → zb_kd b = 1 → zb_rf b 4 = b + 1 ∧ zb_kd (b + 1) = 7 ∧ zb_sz (b + 1) = 57 := by decide
theorem zk_all3 : ∀ b, b < 32 → zb_kd b = 3 → zb_rf b 1 = b + 1 ∧ zb_kd (b + 1) = 7 := by decide
theorem zk_X1_4 {b : Nat} (h : zb_kd b = 1) : zb_rf b 4 = b + 1 ∧ zb_kd (b + 1) = 7 ∧ zb_sz (b + 1) = 57 := zk_all1 b (zb_lt h (by omega)) h
theorem zk_X3_1 {b : Nat} (h : zb_kd b = 3) : zb_rf b 1 = b + 1 ∧ zb_kd (b + 1) = 7 ∧ True := ⟨(zk_all3 b (zb_lt h (by omega)) h).1, (zk_all3 b (zb_lt h (by omega)) h).2, trivial⟩
