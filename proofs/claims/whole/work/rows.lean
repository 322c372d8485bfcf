section
-- ===== PART A: goes FIRST, ahead of the names: the tables' words, and 'selects' of the private methods out of them =====
/-- a private method of a class that the tables say can be made, by its rows of tables_1 -/
def lw_okq (q : MethodName × Nat) : Prop := (q.1.cls ≠ "java/lang/invoke/MethodHandle" ∧ q.1.cls ≠ "java/lang/invoke/VarHandle") ∧ Cond.instantiable q.1.cls q.2 ∈ tables_1 ∧ Cond.privateMethod q.1 ∈ tables_1 ∧ Cond.instanceMethod q.1 ∈ tables_1
theorem lw_p0 : lw_okq (⟨"ZoneBelt$Text", "fits", "(II)Z"⟩, 2) := ⟨⟨by decide +kernel, by decide +kernel⟩, List.mem_of_getElem? (i := 20) (by decide +kernel), List.mem_of_getElem? (i := 181) (by decide +kernel), List.mem_of_getElem? (i := 182) (by decide +kernel)⟩
theorem lw_p1 : lw_okq (⟨"ZoneBelt$Text", "isFigure", "(III)Z"⟩, 2) := ⟨⟨by decide +kernel, by decide +kernel⟩, List.mem_of_getElem? (i := 20) (by decide +kernel), List.mem_of_getElem? (i := 185) (by decide +kernel), List.mem_of_getElem? (i := 186) (by decide +kernel)⟩
theorem lw_p2 : lw_okq (⟨"ZoneBelt$Text", "figure", "(I)I"⟩, 2) := ⟨⟨by decide +kernel, by decide +kernel⟩, List.mem_of_getElem? (i := 20) (by decide +kernel), List.mem_of_getElem? (i := 189) (by decide +kernel), List.mem_of_getElem? (i := 190) (by decide +kernel)⟩
theorem lw_p3 : lw_okq (⟨"ZoneBelt$Text", "fitsCarton", "(II)Z"⟩, 2) := ⟨⟨by decide +kernel, by decide +kernel⟩, List.mem_of_getElem? (i := 20) (by decide +kernel), List.mem_of_getElem? (i := 193) (by decide +kernel), List.mem_of_getElem? (i := 194) (by decide +kernel)⟩
theorem lw_p4 : lw_okq (⟨"ZoneBelt$Text", "zoneEndingAt", "(I)I"⟩, 2) := ⟨⟨by decide +kernel, by decide +kernel⟩, List.mem_of_getElem? (i := 20) (by decide +kernel), List.mem_of_getElem? (i := 197) (by decide +kernel), List.mem_of_getElem? (i := 198) (by decide +kernel)⟩
theorem lw_p5 : lw_okq (⟨"ZoneBelt$Belt", "behindThose", "(I)I"⟩, 6) := ⟨⟨by decide +kernel, by decide +kernel⟩, List.mem_of_getElem? (i := 35) (by decide +kernel), List.mem_of_getElem? (i := 344) (by decide +kernel), List.mem_of_getElem? (i := 345) (by decide +kernel)⟩
theorem lw_p6 : lw_okq (⟨"ZoneBelt$Belt", "behind", "(I)I"⟩, 6) := ⟨⟨by decide +kernel, by decide +kernel⟩, List.mem_of_getElem? (i := 35) (by decide +kernel), List.mem_of_getElem? (i := 348) (by decide +kernel), List.mem_of_getElem? (i := 349) (by decide +kernel)⟩
theorem lw_p7 : lw_okq (⟨"ZoneBelt$Belt", "giveTickets", "(I)V"⟩, 6) := ⟨⟨by decide +kernel, by decide +kernel⟩, List.mem_of_getElem? (i := 35) (by decide +kernel), List.mem_of_getElem? (i := 352) (by decide +kernel), List.mem_of_getElem? (i := 353) (by decide +kernel)⟩
theorem lw_p8 : lw_okq (⟨"ZoneBelt$Belt", "giveTicket", "(II)V"⟩, 6) := ⟨⟨by decide +kernel, by decide +kernel⟩, List.mem_of_getElem? (i := 35) (by decide +kernel), List.mem_of_getElem? (i := 356) (by decide +kernel), List.mem_of_getElem? (i := 357) (by decide +kernel)⟩
theorem lw_p9 : lw_okq (⟨"ZoneBelt$Belt", "yielding", "(I)I"⟩, 6) := ⟨⟨by decide +kernel, by decide +kernel⟩, List.mem_of_getElem? (i := 35) (by decide +kernel), List.mem_of_getElem? (i := 360) (by decide +kernel), List.mem_of_getElem? (i := 361) (by decide +kernel)⟩
theorem lw_p10 : lw_okq (⟨"ZoneBelt$Belt", "settle", "(II)I"⟩, 6) := ⟨⟨by decide +kernel, by decide +kernel⟩, List.mem_of_getElem? (i := 35) (by decide +kernel), List.mem_of_getElem? (i := 364) (by decide +kernel), List.mem_of_getElem? (i := 365) (by decide +kernel)⟩
theorem lw_p11 : lw_okq (⟨"ZoneBelt$Belt", "roomWith", "(II)I"⟩, 6) := ⟨⟨by decide +kernel, by decide +kernel⟩, List.mem_of_getElem? (i := 35) (by decide +kernel), List.mem_of_getElem? (i := 368) (by decide +kernel), List.mem_of_getElem? (i := 369) (by decide +kernel)⟩
theorem lw_p12 : lw_okq (⟨"ZoneBelt$Belt", "goer", "(III)I"⟩, 6) := ⟨⟨by decide +kernel, by decide +kernel⟩, List.mem_of_getElem? (i := 35) (by decide +kernel), List.mem_of_getElem? (i := 372) (by decide +kernel), List.mem_of_getElem? (i := 373) (by decide +kernel)⟩
theorem lw_p13 : lw_okq (⟨"ZoneBelt$Belt", "moveThose", "(I)V"⟩, 6) := ⟨⟨by decide +kernel, by decide +kernel⟩, List.mem_of_getElem? (i := 35) (by decide +kernel), List.mem_of_getElem? (i := 376) (by decide +kernel), List.mem_of_getElem? (i := 377) (by decide +kernel)⟩
theorem lw_p14 : lw_okq (⟨"ZoneBelt$Belt", "handOn", "(I)V"⟩, 6) := ⟨⟨by decide +kernel, by decide +kernel⟩, List.mem_of_getElem? (i := 35) (by decide +kernel), List.mem_of_getElem? (i := 380) (by decide +kernel), List.mem_of_getElem? (i := 381) (by decide +kernel)⟩
theorem lw_p15 : lw_okq (⟨"ZoneBelt$Belt", "tellIdle", "()V"⟩, 6) := ⟨⟨by decide +kernel, by decide +kernel⟩, List.mem_of_getElem? (i := 35) (by decide +kernel), List.mem_of_getElem? (i := 384) (by decide +kernel), List.mem_of_getElem? (i := 385) (by decide +kernel)⟩
def lw_privs_1 : List (MethodName × Nat) := [(⟨"ZoneBelt$Text", "fits", "(II)Z"⟩, 2), (⟨"ZoneBelt$Text", "isFigure", "(III)Z"⟩, 2), (⟨"ZoneBelt$Text", "figure", "(I)I"⟩, 2), (⟨"ZoneBelt$Text", "fitsCarton", "(II)Z"⟩, 2), (⟨"ZoneBelt$Text", "zoneEndingAt", "(I)I"⟩, 2), (⟨"ZoneBelt$Belt", "behindThose", "(I)I"⟩, 6), (⟨"ZoneBelt$Belt", "behind", "(I)I"⟩, 6), (⟨"ZoneBelt$Belt", "giveTickets", "(I)V"⟩, 6), (⟨"ZoneBelt$Belt", "giveTicket", "(II)V"⟩, 6), (⟨"ZoneBelt$Belt", "yielding", "(I)I"⟩, 6), (⟨"ZoneBelt$Belt", "settle", "(II)I"⟩, 6), (⟨"ZoneBelt$Belt", "roomWith", "(II)I"⟩, 6), (⟨"ZoneBelt$Belt", "goer", "(III)I"⟩, 6), (⟨"ZoneBelt$Belt", "moveThose", "(I)V"⟩, 6), (⟨"ZoneBelt$Belt", "handOn", "(I)V"⟩, 6), (⟨"ZoneBelt$Belt", "tellIdle", "()V"⟩, 6)]
theorem lw_r1 : ∀ q ∈ lw_privs_1, lw_okq q := List.forall_mem_cons.mpr ⟨lw_p0, List.forall_mem_cons.mpr ⟨lw_p1, List.forall_mem_cons.mpr ⟨lw_p2, List.forall_mem_cons.mpr ⟨lw_p3, List.forall_mem_cons.mpr ⟨lw_p4, List.forall_mem_cons.mpr ⟨lw_p5, List.forall_mem_cons.mpr ⟨lw_p6, List.forall_mem_cons.mpr ⟨lw_p7, List.forall_mem_cons.mpr ⟨lw_p8, List.forall_mem_cons.mpr ⟨lw_p9, List.forall_mem_cons.mpr ⟨lw_p10, List.forall_mem_cons.mpr ⟨lw_p11, List.forall_mem_cons.mpr ⟨lw_p12, List.forall_mem_cons.mpr ⟨lw_p13, List.forall_mem_cons.mpr ⟨lw_p14, List.forall_mem_cons.mpr ⟨lw_p15, fun _ h => absurd h List.not_mem_nil⟩⟩⟩⟩⟩⟩⟩⟩⟩⟩⟩⟩⟩⟩⟩⟩
theorem lw_p16 : lw_okq (⟨"ZoneBelt$Belt", "feedersOf", "(I)I"⟩, 6) := ⟨⟨by decide +kernel, by decide +kernel⟩, List.mem_of_getElem? (i := 35) (by decide +kernel), List.mem_of_getElem? (i := 388) (by decide +kernel), List.mem_of_getElem? (i := 389) (by decide +kernel)⟩
theorem lw_p17 : lw_okq (⟨"ZoneBelt", "stepsTillEmpty", "()I"⟩, 12) := ⟨⟨by decide +kernel, by decide +kernel⟩, List.mem_of_getElem? (i := 12) (by decide +kernel), List.mem_of_getElem? (i := 417) (by decide +kernel), List.mem_of_getElem? (i := 418) (by decide +kernel)⟩
theorem lw_p18 : lw_okq (⟨"ZoneBelt", "bestRest", "()I"⟩, 12) := ⟨⟨by decide +kernel, by decide +kernel⟩, List.mem_of_getElem? (i := 12) (by decide +kernel), List.mem_of_getElem? (i := 426) (by decide +kernel), List.mem_of_getElem? (i := 427) (by decide +kernel)⟩
theorem lw_p19 : lw_okq (⟨"ZoneBelt$Sightings", "latest", "()I"⟩, 4) := ⟨⟨by decide +kernel, by decide +kernel⟩, List.mem_of_getElem? (i := 104) (by decide +kernel), List.mem_of_getElem? (i := 476) (by decide +kernel), List.mem_of_getElem? (i := 477) (by decide +kernel)⟩
theorem lw_p20 : lw_okq (⟨"ZoneBelt$Sightings", "soBehind", "(II)Z"⟩, 4) := ⟨⟨by decide +kernel, by decide +kernel⟩, List.mem_of_getElem? (i := 104) (by decide +kernel), List.mem_of_getElem? (i := 481) (by decide +kernel), List.mem_of_getElem? (i := 482) (by decide +kernel)⟩
theorem lw_p21 : lw_okq (⟨"ZoneBelt", "listUnsound", "(I)I"⟩, 12) := ⟨⟨by decide +kernel, by decide +kernel⟩, List.mem_of_getElem? (i := 12) (by decide +kernel), List.mem_of_getElem? (i := 494) (by decide +kernel), List.mem_of_getElem? (i := 495) (by decide +kernel)⟩
theorem lw_p22 : lw_okq (⟨"ZoneBelt", "outWith", "(II)I"⟩, 12) := ⟨⟨by decide +kernel, by decide +kernel⟩, List.mem_of_getElem? (i := 12) (by decide +kernel), List.mem_of_getElem? (i := 498) (by decide +kernel), List.mem_of_getElem? (i := 499) (by decide +kernel)⟩
theorem lw_p23 : lw_okq (⟨"ZoneBelt", "gainInAllOrders", "(II)I"⟩, 12) := ⟨⟨by decide +kernel, by decide +kernel⟩, List.mem_of_getElem? (i := 12) (by decide +kernel), List.mem_of_getElem? (i := 502) (by decide +kernel), List.mem_of_getElem? (i := 503) (by decide +kernel)⟩
theorem lw_p24 : lw_okq (⟨"ZoneBeltModel", "readBelt", "()I"⟩, 27) := ⟨⟨by decide +kernel, by decide +kernel⟩, List.mem_of_getElem? (i := 551) (by decide +kernel), List.mem_of_getElem? (i := 656) (by decide +kernel), List.mem_of_getElem? (i := 657) (by decide +kernel)⟩
theorem lw_p25 : lw_okq (⟨"ZoneBeltModel", "readHead", "()Z"⟩, 27) := ⟨⟨by decide +kernel, by decide +kernel⟩, List.mem_of_getElem? (i := 551) (by decide +kernel), List.mem_of_getElem? (i := 660) (by decide +kernel), List.mem_of_getElem? (i := 661) (by decide +kernel)⟩
theorem lw_p26 : lw_okq (⟨"ZoneBeltModel", "figure", "(II)I"⟩, 27) := ⟨⟨by decide +kernel, by decide +kernel⟩, List.mem_of_getElem? (i := 551) (by decide +kernel), List.mem_of_getElem? (i := 664) (by decide +kernel), List.mem_of_getElem? (i := 665) (by decide +kernel)⟩
theorem lw_p27 : lw_okq (⟨"ZoneBeltModel", "readCarton", "()Z"⟩, 27) := ⟨⟨by decide +kernel, by decide +kernel⟩, List.mem_of_getElem? (i := 551) (by decide +kernel), List.mem_of_getElem? (i := 668) (by decide +kernel), List.mem_of_getElem? (i := 669) (by decide +kernel)⟩
theorem lw_p28 : lw_okq (⟨"ZoneBeltModel", "isFree", "(I)Z"⟩, 27) := ⟨⟨by decide +kernel, by decide +kernel⟩, List.mem_of_getElem? (i := 551) (by decide +kernel), List.mem_of_getElem? (i := 672) (by decide +kernel), List.mem_of_getElem? (i := 673) (by decide +kernel)⟩
theorem lw_p29 : lw_okq (⟨"ZoneBeltModel", "zones", "()I"⟩, 27) := ⟨⟨by decide +kernel, by decide +kernel⟩, List.mem_of_getElem? (i := 551) (by decide +kernel), List.mem_of_getElem? (i := 681) (by decide +kernel), List.mem_of_getElem? (i := 682) (by decide +kernel)⟩
theorem lw_p30 : lw_okq (⟨"ZoneBeltModel", "noZone", "(I)Z"⟩, 27) := ⟨⟨by decide +kernel, by decide +kernel⟩, List.mem_of_getElem? (i := 551) (by decide +kernel), List.mem_of_getElem? (i := 689) (by decide +kernel), List.mem_of_getElem? (i := 690) (by decide +kernel)⟩
theorem lw_p31 : lw_okq (⟨"ZoneBeltModel", "tellOf", "([III)I"⟩, 27) := ⟨⟨by decide +kernel, by decide +kernel⟩, List.mem_of_getElem? (i := 551) (by decide +kernel), List.mem_of_getElem? (i := 694) (by decide +kernel), List.mem_of_getElem? (i := 695) (by decide +kernel)⟩
def lw_privs_2 : List (MethodName × Nat) := [(⟨"ZoneBelt$Belt", "feedersOf", "(I)I"⟩, 6), (⟨"ZoneBelt", "stepsTillEmpty", "()I"⟩, 12), (⟨"ZoneBelt", "bestRest", "()I"⟩, 12), (⟨"ZoneBelt$Sightings", "latest", "()I"⟩, 4), (⟨"ZoneBelt$Sightings", "soBehind", "(II)Z"⟩, 4), (⟨"ZoneBelt", "listUnsound", "(I)I"⟩, 12), (⟨"ZoneBelt", "outWith", "(II)I"⟩, 12), (⟨"ZoneBelt", "gainInAllOrders", "(II)I"⟩, 12), (⟨"ZoneBeltModel", "readBelt", "()I"⟩, 27), (⟨"ZoneBeltModel", "readHead", "()Z"⟩, 27), (⟨"ZoneBeltModel", "figure", "(II)I"⟩, 27), (⟨"ZoneBeltModel", "readCarton", "()Z"⟩, 27), (⟨"ZoneBeltModel", "isFree", "(I)Z"⟩, 27), (⟨"ZoneBeltModel", "zones", "()I"⟩, 27), (⟨"ZoneBeltModel", "noZone", "(I)Z"⟩, 27), (⟨"ZoneBeltModel", "tellOf", "([III)I"⟩, 27)]
theorem lw_r2 : ∀ q ∈ lw_privs_2, lw_okq q := List.forall_mem_cons.mpr ⟨lw_p16, List.forall_mem_cons.mpr ⟨lw_p17, List.forall_mem_cons.mpr ⟨lw_p18, List.forall_mem_cons.mpr ⟨lw_p19, List.forall_mem_cons.mpr ⟨lw_p20, List.forall_mem_cons.mpr ⟨lw_p21, List.forall_mem_cons.mpr ⟨lw_p22, List.forall_mem_cons.mpr ⟨lw_p23, List.forall_mem_cons.mpr ⟨lw_p24, List.forall_mem_cons.mpr ⟨lw_p25, List.forall_mem_cons.mpr ⟨lw_p26, List.forall_mem_cons.mpr ⟨lw_p27, List.forall_mem_cons.mpr ⟨lw_p28, List.forall_mem_cons.mpr ⟨lw_p29, List.forall_mem_cons.mpr ⟨lw_p30, List.forall_mem_cons.mpr ⟨lw_p31, fun _ h => absurd h List.not_mem_nil⟩⟩⟩⟩⟩⟩⟩⟩⟩⟩⟩⟩⟩⟩⟩⟩
theorem lw_p32 : lw_okq (⟨"ZoneBeltModel", "noLine", "(I)Z"⟩, 27) := ⟨⟨by decide +kernel, by decide +kernel⟩, List.mem_of_getElem? (i := 551) (by decide +kernel), List.mem_of_getElem? (i := 705) (by decide +kernel), List.mem_of_getElem? (i := 706) (by decide +kernel)⟩
theorem lw_p33 : lw_okq (⟨"ZoneBeltModel", "entry", "(I)I"⟩, 27) := ⟨⟨by decide +kernel, by decide +kernel⟩, List.mem_of_getElem? (i := 551) (by decide +kernel), List.mem_of_getElem? (i := 709) (by decide +kernel), List.mem_of_getElem? (i := 710) (by decide +kernel)⟩
theorem lw_p34 : lw_okq (⟨"ZoneBeltModel", "note", "()V"⟩, 27) := ⟨⟨by decide +kernel, by decide +kernel⟩, List.mem_of_getElem? (i := 551) (by decide +kernel), List.mem_of_getElem? (i := 713) (by decide +kernel), List.mem_of_getElem? (i := 714) (by decide +kernel)⟩
theorem lw_p35 : lw_okq (⟨"ZoneBeltModel", "feedOn", "([II)V"⟩, 27) := ⟨⟨by decide +kernel, by decide +kernel⟩, List.mem_of_getElem? (i := 551) (by decide +kernel), List.mem_of_getElem? (i := 717) (by decide +kernel), List.mem_of_getElem? (i := 718) (by decide +kernel)⟩
theorem lw_p36 : lw_okq (⟨"ZoneBeltModel", "those", "([II)I"⟩, 27) := ⟨⟨by decide +kernel, by decide +kernel⟩, List.mem_of_getElem? (i := 551) (by decide +kernel), List.mem_of_getElem? (i := 745) (by decide +kernel), List.mem_of_getElem? (i := 746) (by decide +kernel)⟩
theorem lw_p37 : lw_okq (⟨"ZoneBeltModel", "stepsOn", "([II)V"⟩, 27) := ⟨⟨by decide +kernel, by decide +kernel⟩, List.mem_of_getElem? (i := 551) (by decide +kernel), List.mem_of_getElem? (i := 757) (by decide +kernel), List.mem_of_getElem? (i := 758) (by decide +kernel)⟩
theorem lw_p38 : lw_okq (⟨"ZoneBeltModel", "stepOn", "([I)V"⟩, 27) := ⟨⟨by decide +kernel, by decide +kernel⟩, List.mem_of_getElem? (i := 551) (by decide +kernel), List.mem_of_getElem? (i := 761) (by decide +kernel), List.mem_of_getElem? (i := 762) (by decide +kernel)⟩
theorem lw_p39 : lw_okq (⟨"ZoneBeltModel", "wakeOn", "([I)V"⟩, 27) := ⟨⟨by decide +kernel, by decide +kernel⟩, List.mem_of_getElem? (i := 551) (by decide +kernel), List.mem_of_getElem? (i := 765) (by decide +kernel), List.mem_of_getElem? (i := 766) (by decide +kernel)⟩
theorem lw_p40 : lw_okq (⟨"ZoneBeltModel", "allThatSee", "([I)I"⟩, 27) := ⟨⟨by decide +kernel, by decide +kernel⟩, List.mem_of_getElem? (i := 551) (by decide +kernel), List.mem_of_getElem? (i := 769) (by decide +kernel), List.mem_of_getElem? (i := 770) (by decide +kernel)⟩
theorem lw_p41 : lw_okq (⟨"ZoneBeltModel", "ticketOn", "([II)V"⟩, 27) := ⟨⟨by decide +kernel, by decide +kernel⟩, List.mem_of_getElem? (i := 551) (by decide +kernel), List.mem_of_getElem? (i := 776) (by decide +kernel), List.mem_of_getElem? (i := 777) (by decide +kernel)⟩
theorem lw_p42 : lw_okq (⟨"ZoneBeltModel", "layGoes", "([I)V"⟩, 27) := ⟨⟨by decide +kernel, by decide +kernel⟩, List.mem_of_getElem? (i := 551) (by decide +kernel), List.mem_of_getElem? (i := 780) (by decide +kernel), List.mem_of_getElem? (i := 781) (by decide +kernel)⟩
theorem lw_p43 : lw_okq (⟨"ZoneBeltModel", "may", "([II)Z"⟩, 27) := ⟨⟨by decide +kernel, by decide +kernel⟩, List.mem_of_getElem? (i := 551) (by decide +kernel), List.mem_of_getElem? (i := 784) (by decide +kernel), List.mem_of_getElem? (i := 785) (by decide +kernel)⟩
theorem lw_p44 : lw_okq (⟨"ZoneBeltModel", "behind", "(I)I"⟩, 27) := ⟨⟨by decide +kernel, by decide +kernel⟩, List.mem_of_getElem? (i := 551) (by decide +kernel), List.mem_of_getElem? (i := 788) (by decide +kernel), List.mem_of_getElem? (i := 789) (by decide +kernel)⟩
theorem lw_p45 : lw_okq (⟨"ZoneBeltModel", "moveOn", "([II)V"⟩, 27) := ⟨⟨by decide +kernel, by decide +kernel⟩, List.mem_of_getElem? (i := 551) (by decide +kernel), List.mem_of_getElem? (i := 792) (by decide +kernel), List.mem_of_getElem? (i := 793) (by decide +kernel)⟩
theorem lw_p46 : lw_okq (⟨"ZoneBeltModel", "idleOn", "([I)V"⟩, 27) := ⟨⟨by decide +kernel, by decide +kernel⟩, List.mem_of_getElem? (i := 551) (by decide +kernel), List.mem_of_getElem? (i := 796) (by decide +kernel), List.mem_of_getElem? (i := 797) (by decide +kernel)⟩
theorem lw_p47 : lw_okq (⟨"ZoneBeltModel", "layTrial", "()V"⟩, 27) := ⟨⟨by decide +kernel, by decide +kernel⟩, List.mem_of_getElem? (i := 551) (by decide +kernel), List.mem_of_getElem? (i := 808) (by decide +kernel), List.mem_of_getElem? (i := 809) (by decide +kernel)⟩
def lw_privs_3 : List (MethodName × Nat) := [(⟨"ZoneBeltModel", "noLine", "(I)Z"⟩, 27), (⟨"ZoneBeltModel", "entry", "(I)I"⟩, 27), (⟨"ZoneBeltModel", "note", "()V"⟩, 27), (⟨"ZoneBeltModel", "feedOn", "([II)V"⟩, 27), (⟨"ZoneBeltModel", "those", "([II)I"⟩, 27), (⟨"ZoneBeltModel", "stepsOn", "([II)V"⟩, 27), (⟨"ZoneBeltModel", "stepOn", "([I)V"⟩, 27), (⟨"ZoneBeltModel", "wakeOn", "([I)V"⟩, 27), (⟨"ZoneBeltModel", "allThatSee", "([I)I"⟩, 27), (⟨"ZoneBeltModel", "ticketOn", "([II)V"⟩, 27), (⟨"ZoneBeltModel", "layGoes", "([I)V"⟩, 27), (⟨"ZoneBeltModel", "may", "([II)Z"⟩, 27), (⟨"ZoneBeltModel", "behind", "(I)I"⟩, 27), (⟨"ZoneBeltModel", "moveOn", "([II)V"⟩, 27), (⟨"ZoneBeltModel", "idleOn", "([I)V"⟩, 27), (⟨"ZoneBeltModel", "layTrial", "()V"⟩, 27)]
theorem lw_r3 : ∀ q ∈ lw_privs_3, lw_okq q := List.forall_mem_cons.mpr ⟨lw_p32, List.forall_mem_cons.mpr ⟨lw_p33, List.forall_mem_cons.mpr ⟨lw_p34, List.forall_mem_cons.mpr ⟨lw_p35, List.forall_mem_cons.mpr ⟨lw_p36, List.forall_mem_cons.mpr ⟨lw_p37, List.forall_mem_cons.mpr ⟨lw_p38, List.forall_mem_cons.mpr ⟨lw_p39, List.forall_mem_cons.mpr ⟨lw_p40, List.forall_mem_cons.mpr ⟨lw_p41, List.forall_mem_cons.mpr ⟨lw_p42, List.forall_mem_cons.mpr ⟨lw_p43, List.forall_mem_cons.mpr ⟨lw_p44, List.forall_mem_cons.mpr ⟨lw_p45, List.forall_mem_cons.mpr ⟨lw_p46, List.forall_mem_cons.mpr ⟨lw_p47, fun _ h => absurd h List.not_mem_nil⟩⟩⟩⟩⟩⟩⟩⟩⟩⟩⟩⟩⟩⟩⟩⟩
theorem lw_p48 : lw_okq (⟨"ZoneBeltModel", "emptyOf", "()I"⟩, 27) := ⟨⟨by decide +kernel, by decide +kernel⟩, List.mem_of_getElem? (i := 551) (by decide +kernel), List.mem_of_getElem? (i := 816) (by decide +kernel), List.mem_of_getElem? (i := 817) (by decide +kernel)⟩
theorem lw_p49 : lw_okq (⟨"ZoneBeltModel", "bestRest", "()I"⟩, 27) := ⟨⟨by decide +kernel, by decide +kernel⟩, List.mem_of_getElem? (i := 551) (by decide +kernel), List.mem_of_getElem? (i := 820) (by decide +kernel), List.mem_of_getElem? (i := 821) (by decide +kernel)⟩
theorem lw_p50 : lw_okq (⟨"ZoneBeltModel", "manyOut", "()I"⟩, 27) := ⟨⟨by decide +kernel, by decide +kernel⟩, List.mem_of_getElem? (i := 551) (by decide +kernel), List.mem_of_getElem? (i := 824) (by decide +kernel), List.mem_of_getElem? (i := 825) (by decide +kernel)⟩
theorem lw_p51 : lw_okq (⟨"ZoneBeltModel", "rowAt", "(I)I"⟩, 27) := ⟨⟨by decide +kernel, by decide +kernel⟩, List.mem_of_getElem? (i := 551) (by decide +kernel), List.mem_of_getElem? (i := 832) (by decide +kernel), List.mem_of_getElem? (i := 833) (by decide +kernel)⟩
theorem lw_p52 : lw_okq (⟨"ZoneBeltModel", "does", "(III)Z"⟩, 27) := ⟨⟨by decide +kernel, by decide +kernel⟩, List.mem_of_getElem? (i := 551) (by decide +kernel), List.mem_of_getElem? (i := 845) (by decide +kernel), List.mem_of_getElem? (i := 846) (by decide +kernel)⟩
theorem lw_p53 : lw_okq (⟨"ZoneBeltModel", "isSo", "(II)Z"⟩, 27) := ⟨⟨by decide +kernel, by decide +kernel⟩, List.mem_of_getElem? (i := 551) (by decide +kernel), List.mem_of_getElem? (i := 862) (by decide +kernel), List.mem_of_getElem? (i := 863) (by decide +kernel)⟩
theorem lw_p54 : lw_okq (⟨"ZoneBeltModel", "goneBy", "(I)I"⟩, 27) := ⟨⟨by decide +kernel, by decide +kernel⟩, List.mem_of_getElem? (i := 551) (by decide +kernel), List.mem_of_getElem? (i := 873) (by decide +kernel), List.mem_of_getElem? (i := 874) (by decide +kernel)⟩
def lw_privs_4 : List (MethodName × Nat) := [(⟨"ZoneBeltModel", "emptyOf", "()I"⟩, 27), (⟨"ZoneBeltModel", "bestRest", "()I"⟩, 27), (⟨"ZoneBeltModel", "manyOut", "()I"⟩, 27), (⟨"ZoneBeltModel", "rowAt", "(I)I"⟩, 27), (⟨"ZoneBeltModel", "does", "(III)Z"⟩, 27), (⟨"ZoneBeltModel", "isSo", "(II)Z"⟩, 27), (⟨"ZoneBeltModel", "goneBy", "(I)I"⟩, 27)]
theorem lw_r4 : ∀ q ∈ lw_privs_4, lw_okq q := List.forall_mem_cons.mpr ⟨lw_p48, List.forall_mem_cons.mpr ⟨lw_p49, List.forall_mem_cons.mpr ⟨lw_p50, List.forall_mem_cons.mpr ⟨lw_p51, List.forall_mem_cons.mpr ⟨lw_p52, List.forall_mem_cons.mpr ⟨lw_p53, List.forall_mem_cons.mpr ⟨lw_p54, fun _ h => absurd h List.not_mem_nil⟩⟩⟩⟩⟩⟩⟩
def lw_privs : List (MethodName × Nat) := lw_privs_1 ++ (lw_privs_2 ++ (lw_privs_3 ++ (lw_privs_4)))
def lw_tbl : List Cond := k2_sels lw_privs ++ tables_1
theorem lw_privs_ok : ∀ q ∈ lw_privs, lw_okq q := by
  show ∀ q ∈ lw_privs_1 ++ (lw_privs_2 ++ (lw_privs_3 ++ (lw_privs_4))), lw_okq q
  exact List.forall_mem_append.mpr ⟨lw_r1, List.forall_mem_append.mpr ⟨lw_r2, List.forall_mem_append.mpr ⟨lw_r3, lw_r4⟩⟩⟩
end
section
/-! ===== BEGIN words of one list among another's, by their places ===== -/
theorem goodIn_r {big : List Cond} (ws : List Cond) (ps : List Nat) (hp : ws = ps.filterMap (fun i => big[i]?)) (h : ws.all goodWord = true) : GoodIn big ws := by
  intro w hw
  have h1 := List.all_eq_true.mp h w hw
  rw [hp] at hw
  obtain ⟨i, -, hi⟩ := List.mem_filterMap.mp hw
  have hm : w ∈ big := by first | exact List.mem_of_getElem? hi | exact List.getElem?_mem hi
  exact ⟨hm, good_of_word h1⟩
theorem goodIn_app {big a b : List Cond} (ha : GoodIn big a) (hb : GoodIn big b) : GoodIn big (a ++ b) := fun w h => (List.mem_append.mp h).elim (ha w) (hb w)
theorem goodIn_ca {big a b : List Cond} {c : Cond} (ha : GoodIn big (c :: a)) (hb : GoodIn big b) : GoodIn big (c :: (a ++ b)) := fun w h => (List.mem_cons.mp h).elim (fun e => ha w (List.mem_cons.mpr (Or.inl e))) (fun h => (List.mem_append.mp h).elim (fun h => ha w (List.mem_cons.mpr (Or.inr h))) (hb w))
theorem goodIn_sub {big ws : List Cond} (hm : ∀ w ∈ ws, w ∈ big) (h : ws.all goodWord = true) : GoodIn big ws := fun w hw => ⟨hm w hw, good_of_word (List.all_eq_true.mp h w hw)⟩
/-! ===== END ===== -/

/-! ===== BEGIN printed: names, fields, word lists, decode rows ===== -/
def RX0 : String := "ZoneBelt$Acts"
def TX0 : u_T := fun k => match k with
  | 0 => ("ZoneBelt$Acts", "before", "LZoneBelt$Store;", true)
  | 1 => ("ZoneBelt$Acts", "next", "I", false)
  | _ => ("ZoneBelt$Acts", "size", "I", false)
def tyX0 : Nat → FieldType := fun k => match k with
  | 0 => .object "ZoneBelt$Store"
  | 1 => .int
  | _ => .int
abbrev wsX00 : List Cond := u_ws RX0 TX0 3
theorem nmX0 : ∀ a, a < 3 → ∀ b, b < 3 → a ≠ b → (TX0 a).2.1 ≠ (TX0 b).2.1 := by decide +kernel
theorem tyX0_ok : ∀ k, k < 3 → parseFieldDescriptor (TX0 k).2.2.1 = some (tyX0 k) := by decide +kernel
abbrev cX0_init : ByteArray := prog_2_method_1_code
def yX0_init : MethodName := ⟨RX0, "<init>", "()V"⟩
abbrev cX0_remember : ByteArray := prog_2_method_2_code
def yX0_remember : MethodName := ⟨RX0, "remember", "(LZoneBelt$Belt;)V"⟩
abbrev cX0_takeBack : ByteArray := prog_2_method_3_code
def yX0_takeBack : MethodName := ⟨RX0, "takeBack", "(LZoneBelt$Belt;)Z"⟩
abbrev cX0_forgetAll : ByteArray := prog_2_method_4_code
def yX0_forgetAll : MethodName := ⟨RX0, "forgetAll", "()V"⟩
def RX1 : String := "ZoneBelt$Belt"
def TX1 : u_T := fun k => match k with
  | 0 => ("ZoneBelt$Belt", "mainZones", "I", false)
  | 1 => ("ZoneBelt$Belt", "sideZones", "I", false)
  | 2 => ("ZoneBelt$Belt", "zones", "I", false)
  | 3 => ("ZoneBelt$Belt", "meeting", "I", false)
  | 4 => ("ZoneBelt$Belt", "cells", "[I", true)
  | _ => ("ZoneBelt$Belt", "justOut", "I", false)
def tyX1 : Nat → FieldType := fun k => match k with
  | 0 => .int
  | 1 => .int
  | 2 => .int
  | 3 => .int
  | 4 => .array .int
  | _ => .int
abbrev wsX10 : List Cond := u_ws RX1 TX1 6
theorem nmX1 : ∀ a, a < 6 → ∀ b, b < 6 → a ≠ b → (TX1 a).2.1 ≠ (TX1 b).2.1 := by decide +kernel
theorem tyX1_ok : ∀ k, k < 6 → parseFieldDescriptor (TX1 k).2.2.1 = some (tyX1 k) := by decide +kernel
abbrev cX1_init : ByteArray := prog_3_method_1_code
def yX1_init : MethodName := ⟨RX1, "<init>", "()V"⟩
abbrev cX1_in : ByteArray := prog_3_method_2_code
def yX1_in : MethodName := ⟨RX1, "in", "(II)Z"⟩
abbrev cX1_isEye : ByteArray := prog_3_method_3_code
def yX1_isEye : MethodName := ⟨RX1, "isEye", "(I)Z"⟩
abbrev cX1_begin : ByteArray := prog_3_method_4_code
def yX1_begin : MethodName := ⟨RX1, "begin", "(III)V"⟩
abbrev cX1_copy : ByteArray := prog_3_method_5_code
def yX1_copy : MethodName := ⟨RX1, "copy", "(LZoneBelt$Belt;)V"⟩
abbrev cX1_hasZone : ByteArray := prog_3_method_6_code
def yX1_hasZone : MethodName := ⟨RX1, "hasZone", "(I)Z"⟩
abbrev cX1_hasLine : ByteArray := prog_3_method_7_code
def yX1_hasLine : MethodName := ⟨RX1, "hasLine", "(I)Z"⟩
abbrev cX1_entryOf : ByteArray := prog_3_method_8_code
def yX1_entryOf : MethodName := ⟨RX1, "entryOf", "(I)I"⟩
abbrev cX1_hasCarton : ByteArray := prog_3_method_9_code
def yX1_hasCarton : MethodName := ⟨RX1, "hasCarton", "(I)Z"⟩
abbrev cX1_isJammed : ByteArray := prog_3_method_10_code
def yX1_isJammed : MethodName := ⟨RX1, "isJammed", "(I)Z"⟩
abbrev cX1_canFeed : ByteArray := prog_3_method_11_code
def yX1_canFeed : MethodName := ⟨RX1, "canFeed", "(I)Z"⟩
abbrev cX1_change : ByteArray := prog_3_method_12_code
def yX1_change : MethodName := ⟨RX1, "change", "(II)I"⟩
abbrev cX1_putNext : ByteArray := prog_3_method_13_code
def yX1_putNext : MethodName := ⟨RX1, "putNext", "(I)I"⟩
abbrev cX1_takeAway : ByteArray := prog_3_method_14_code
def yX1_takeAway : MethodName := ⟨RX1, "takeAway", "(I)I"⟩
abbrev cX1_freeJam : ByteArray := prog_3_method_15_code
def yX1_freeJam : MethodName := ⟨RX1, "freeJam", "(I)V"⟩
abbrev cX1_turnExit : ByteArray := prog_3_method_16_code
def yX1_turnExit : MethodName := ⟨RX1, "turnExit", "()I"⟩
abbrev cX1_loaded : ByteArray := prog_3_method_17_code
def yX1_loaded : MethodName := ⟨RX1, "loaded", "()I"⟩
abbrev cX1_seeing : ByteArray := prog_3_method_18_code
def yX1_seeing : MethodName := ⟨RX1, "seeing", "()I"⟩
abbrev cX1_countUnsound : ByteArray := prog_3_method_19_code
def yX1_countUnsound : MethodName := ⟨RX1, "countUnsound", "()I"⟩
abbrev cX1_advance : ByteArray := prog_3_method_20_code
def yX1_advance : MethodName := ⟨RX1, "advance", "(I)V"⟩
abbrev cX1_advanceOnce : ByteArray := prog_3_method_21_code
def yX1_advanceOnce : MethodName := ⟨RX1, "advanceOnce", "()V"⟩
abbrev cX1_behind : ByteArray := prog_3_method_22_code
def yX1_behind : MethodName := ⟨RX1, "behind", "(I)I"⟩
abbrev cX1_behindThose : ByteArray := prog_3_method_23_code
def yX1_behindThose : MethodName := ⟨RX1, "behindThose", "(I)I"⟩
abbrev cX1_feedersOf : ByteArray := prog_3_method_24_code
def yX1_feedersOf : MethodName := ⟨RX1, "feedersOf", "(I)I"⟩
abbrev cX1_giveTickets : ByteArray := prog_3_method_25_code
def yX1_giveTickets : MethodName := ⟨RX1, "giveTickets", "(I)V"⟩
abbrev cX1_giveTicket : ByteArray := prog_3_method_26_code
def yX1_giveTicket : MethodName := ⟨RX1, "giveTicket", "(II)V"⟩
abbrev cX1_yielding : ByteArray := prog_3_method_27_code
def yX1_yielding : MethodName := ⟨RX1, "yielding", "(I)I"⟩
abbrev cX1_settle : ByteArray := prog_3_method_28_code
def yX1_settle : MethodName := ⟨RX1, "settle", "(II)I"⟩
abbrev cX1_roomWith : ByteArray := prog_3_method_29_code
def yX1_roomWith : MethodName := ⟨RX1, "roomWith", "(II)I"⟩
abbrev cX1_goer : ByteArray := prog_3_method_30_code
def yX1_goer : MethodName := ⟨RX1, "goer", "(III)I"⟩
abbrev cX1_moveThose : ByteArray := prog_3_method_31_code
def yX1_moveThose : MethodName := ⟨RX1, "moveThose", "(I)V"⟩
abbrev cX1_handOn : ByteArray := prog_3_method_32_code
def yX1_handOn : MethodName := ⟨RX1, "handOn", "(I)V"⟩
abbrev cX1_tellIdle : ByteArray := prog_3_method_33_code
def yX1_tellIdle : MethodName := ⟨RX1, "tellIdle", "()V"⟩
def RX2 : String := "ZoneBelt$Sightings"
def TX2 : u_T := fun k => match k with
  | 0 => ("ZoneBelt$Sightings", "behindSteps", "[I", true)
  | 1 => ("ZoneBelt$Sightings", "outs", "[I", true)
  | 2 => ("ZoneBelt$Sightings", "truths", "[I", true)
  | _ => ("ZoneBelt$Sightings", "size", "I", false)
def tyX2 : Nat → FieldType := fun k => match k with
  | 0 => .array .int
  | 1 => .array .int
  | 2 => .array .int
  | _ => .int
abbrev wsX20 : List Cond := u_ws RX2 TX2 4
theorem nmX2 : ∀ a, a < 4 → ∀ b, b < 4 → a ≠ b → (TX2 a).2.1 ≠ (TX2 b).2.1 := by decide +kernel
theorem tyX2_ok : ∀ k, k < 4 → parseFieldDescriptor (TX2 k).2.2.1 = some (tyX2 k) := by decide +kernel
abbrev cX2_init : ByteArray := prog_4_method_1_code
def yX2_init : MethodName := ⟨RX2, "<init>", "()V"⟩
abbrev cX2_append : ByteArray := prog_4_method_2_code
def yX2_append : MethodName := ⟨RX2, "append", "(III)Z"⟩
abbrev cX2_allSo : ByteArray := prog_4_method_3_code
def yX2_allSo : MethodName := ⟨RX2, "allSo", "(LZoneBelt$Belt;)Z"⟩
abbrev cX2_latest : ByteArray := prog_4_method_4_code
def yX2_latest : MethodName := ⟨RX2, "latest", "()I"⟩
abbrev cX2_soBehind : ByteArray := prog_4_method_5_code
def yX2_soBehind : MethodName := ⟨RX2, "soBehind", "(II)Z"⟩
def RX3 : String := "ZoneBelt$Store"
def TX3 : u_T := fun k => match k with
  | 0 => ("ZoneBelt$Store", "places", "I", true)
  | _ => ("ZoneBelt$Store", "cells", "[I", true)
def tyX3 : Nat → FieldType := fun k => match k with
  | 0 => .int
  | _ => .array .int
abbrev wsX30 : List Cond := u_ws RX3 TX3 2
theorem nmX3 : ∀ a, a < 2 → ∀ b, b < 2 → a ≠ b → (TX3 a).2.1 ≠ (TX3 b).2.1 := by decide +kernel
theorem tyX3_ok : ∀ k, k < 2 → parseFieldDescriptor (TX3 k).2.2.1 = some (tyX3 k) := by decide +kernel
abbrev cX3_init : ByteArray := prog_5_method_1_code
def yX3_init : MethodName := ⟨RX3, "<init>", "(I)V"⟩
abbrev cX3_put : ByteArray := prog_5_method_2_code
def yX3_put : MethodName := ⟨RX3, "put", "(ILZoneBelt$Belt;)V"⟩
abbrev cX3_get : ByteArray := prog_5_method_3_code
def yX3_get : MethodName := ⟨RX3, "get", "(ILZoneBelt$Belt;)V"⟩
def RX4 : String := "ZoneBelt$Text"
def TX4 : u_T := fun k => match k with
  | 0 => ("ZoneBelt$Text", "letters", "[I", true)
  | _ => ("ZoneBelt$Text", "length", "I", false)
def tyX4 : Nat → FieldType := fun k => match k with
  | 0 => .array .int
  | _ => .int
abbrev wsX40 : List Cond := u_ws RX4 TX4 2
theorem nmX4 : ∀ a, a < 2 → ∀ b, b < 2 → a ≠ b → (TX4 a).2.1 ≠ (TX4 b).2.1 := by decide +kernel
theorem tyX4_ok : ∀ k, k < 2 → parseFieldDescriptor (TX4 k).2.2.1 = some (tyX4 k) := by decide +kernel
abbrev cX4_init : ByteArray := prog_6_method_1_code
def yX4_init : MethodName := ⟨RX4, "<init>", "()V"⟩
abbrev cX4_append : ByteArray := prog_6_method_2_code
def yX4_append : MethodName := ⟨RX4, "append", "(I)Z"⟩
abbrev cX4_firstFault : ByteArray := prog_6_method_3_code
def yX4_firstFault : MethodName := ⟨RX4, "firstFault", "()I"⟩
abbrev cX4_layOut : ByteArray := prog_6_method_4_code
def yX4_layOut : MethodName := ⟨RX4, "layOut", "(LZoneBelt$Belt;)V"⟩
abbrev cX4_figure : ByteArray := prog_6_method_5_code
def yX4_figure : MethodName := ⟨RX4, "figure", "(I)I"⟩
abbrev cX4_zoneEndingAt : ByteArray := prog_6_method_6_code
def yX4_zoneEndingAt : MethodName := ⟨RX4, "zoneEndingAt", "(I)I"⟩
abbrev cX4_fits : ByteArray := prog_6_method_7_code
def yX4_fits : MethodName := ⟨RX4, "fits", "(II)Z"⟩
abbrev cX4_isFigure : ByteArray := prog_6_method_8_code
def yX4_isFigure : MethodName := ⟨RX4, "isFigure", "(III)Z"⟩
abbrev cX4_fitsCarton : ByteArray := prog_6_method_9_code
def yX4_fitsCarton : MethodName := ⟨RX4, "fitsCarton", "(II)Z"⟩
def RX5 : String := "ZoneBelt"
def TX5 : u_T := fun k => match k with
  | 0 => ("ZoneBelt", "text", "LZoneBelt$Text;", true)
  | 1 => ("ZoneBelt", "now", "LZoneBelt$Belt;", true)
  | 2 => ("ZoneBelt", "trial", "LZoneBelt$Belt;", true)
  | 3 => ("ZoneBelt", "acts", "LZoneBelt$Acts;", true)
  | 4 => ("ZoneBelt", "slots", "LZoneBelt$Store;", true)
  | 5 => ("ZoneBelt", "keptSlots", "I", false)
  | 6 => ("ZoneBelt", "branches", "LZoneBelt$Store;", true)
  | 7 => ("ZoneBelt", "sightings", "LZoneBelt$Sightings;", true)
  | 8 => ("ZoneBelt", "doings", "[I", true)
  | 9 => ("ZoneBelt", "unsound", "[I", true)
  | 10 => ("ZoneBelt", "outIfMended", "[I", true)
  | _ => ("ZoneBelt", "seedNow", "J", false)
def tyX5 : Nat → FieldType := fun k => match k with
  | 0 => .object "ZoneBelt$Text"
  | 1 => .object "ZoneBelt$Belt"
  | 2 => .object "ZoneBelt$Belt"
  | 3 => .object "ZoneBelt$Acts"
  | 4 => .object "ZoneBelt$Store"
  | 5 => .int
  | 6 => .object "ZoneBelt$Store"
  | 7 => .object "ZoneBelt$Sightings"
  | 8 => .array .int
  | 9 => .array .int
  | 10 => .array .int
  | _ => .long
abbrev wsX50 : List Cond := u_ws RX5 TX5 12
theorem nmX5 : ∀ a, a < 12 → ∀ b, b < 12 → a ≠ b → (TX5 a).2.1 ≠ (TX5 b).2.1 := by decide +kernel
theorem tyX5_ok : ∀ k, k < 12 → parseFieldDescriptor (TX5 k).2.2.1 = some (tyX5 k) := by decide +kernel
abbrev cX5_init : ByteArray := prog_1_method_1_code
def yX5_init : MethodName := ⟨RX5, "<init>", "()V"⟩
abbrev cX5_write : ByteArray := prog_1_method_2_code
def yX5_write : MethodName := ⟨RX5, "write", "(I)I"⟩
abbrev cX5_wipe : ByteArray := prog_1_method_3_code
def yX5_wipe : MethodName := ⟨RX5, "wipe", "()I"⟩
abbrev cX5_fault : ByteArray := prog_1_method_4_code
def yX5_fault : MethodName := ⟨RX5, "fault", "()I"⟩
abbrev cX5_belt : ByteArray := prog_1_method_5_code
def yX5_belt : MethodName := ⟨RX5, "belt", "()I"⟩
abbrev cX5_zone : ByteArray := prog_1_method_6_code
def yX5_zone : MethodName := ⟨RX5, "zone", "(II)I"⟩
abbrev cX5_feed : ByteArray := prog_1_method_7_code
def yX5_feed : MethodName := ⟨RX5, "feed", "(I)I"⟩
abbrev cX5_lift : ByteArray := prog_1_method_8_code
def yX5_lift : MethodName := ⟨RX5, "lift", "(I)I"⟩
abbrev cX5_turn : ByteArray := prog_1_method_9_code
def yX5_turn : MethodName := ⟨RX5, "turn", "()I"⟩
abbrev cX5_eye : ByteArray := prog_1_method_10_code
def yX5_eye : MethodName := ⟨RX5, "eye", "(II)I"⟩
abbrev cX5_make : ByteArray := prog_1_method_11_code
def yX5_make : MethodName := ⟨RX5, "make", "(II)I"⟩
abbrev cX5_clear : ByteArray := prog_1_method_12_code
def yX5_clear : MethodName := ⟨RX5, "clear", "(I)I"⟩
abbrev cX5_step : ByteArray := prog_1_method_13_code
def yX5_step : MethodName := ⟨RX5, "step", "(I)I"⟩
abbrev cX5_undo : ByteArray := prog_1_method_14_code
def yX5_undo : MethodName := ⟨RX5, "undo", "()I"⟩
abbrev cX5_ahead : ByteArray := prog_1_method_15_code
def yX5_ahead : MethodName := ⟨RX5, "ahead", "(III)I"⟩
abbrev cX5_ask : ByteArray := prog_1_method_16_code
def yX5_ask : MethodName := ⟨RX5, "ask", "(I)I"⟩
abbrev cX5_row : ByteArray := prog_1_method_17_code
def yX5_row : MethodName := ⟨RX5, "row", "(I)I"⟩
abbrev cX5_judge : ByteArray := prog_1_method_18_code
def yX5_judge : MethodName := ⟨RX5, "judge", "(IJ)I"⟩
abbrev cX5_see : ByteArray := prog_1_method_19_code
def yX5_see : MethodName := ⟨RX5, "see", "(III)I"⟩
abbrev cX5_unsee : ByteArray := prog_1_method_20_code
def yX5_unsee : MethodName := ⟨RX5, "unsee", "()I"⟩
abbrev cX5_which : ByteArray := prog_1_method_21_code
def yX5_which : MethodName := ⟨RX5, "which", "()I"⟩
abbrev cX5_share : ByteArray := prog_1_method_22_code
def yX5_share : MethodName := ⟨RX5, "share", "(IZ)I"⟩
abbrev cX5_shut : ByteArray := prog_1_method_23_code
def yX5_shut : MethodName := ⟨RX5, "shut", "(IIZ)I"⟩
abbrev cX5_seed : ByteArray := prog_1_method_24_code
def yX5_seed : MethodName := ⟨RX5, "seed", "(J)J"⟩
abbrev cX5_drawn : ByteArray := prog_1_method_25_code
def yX5_drawn : MethodName := ⟨RX5, "drawn", "(I)I"⟩
abbrev cX5_keep : ByteArray := prog_1_method_26_code
def yX5_keep : MethodName := ⟨RX5, "keep", "(I)I"⟩
abbrev cX5_again : ByteArray := prog_1_method_27_code
def yX5_again : MethodName := ⟨RX5, "again", "(I)I"⟩
abbrev cX5_count : ByteArray := prog_1_method_28_code
def yX5_count : MethodName := ⟨RX5, "count", "(I)I"⟩
abbrev cX5_factOf : ByteArray := prog_1_method_29_code
def yX5_factOf : MethodName := ⟨RX5, "factOf", "(LZoneBelt$Belt;II)I"⟩
abbrev cX5_stepsTillEmpty : ByteArray := prog_1_method_30_code
def yX5_stepsTillEmpty : MethodName := ⟨RX5, "stepsTillEmpty", "()I"⟩
abbrev cX5_bestRest : ByteArray := prog_1_method_31_code
def yX5_bestRest : MethodName := ⟨RX5, "bestRest", "()I"⟩
abbrev cX5_holds : ByteArray := prog_1_method_32_code
def yX5_holds : MethodName := ⟨RX5, "holds", "(LZoneBelt$Belt;I)Z"⟩
abbrev cX5_turnTold : ByteArray := prog_1_method_33_code
def yX5_turnTold : MethodName := ⟨RX5, "turnTold", "(LZoneBelt$Belt;I)Z"⟩
abbrev cX5_feedTold : ByteArray := prog_1_method_34_code
def yX5_feedTold : MethodName := ⟨RX5, "feedTold", "(LZoneBelt$Belt;I)Z"⟩
abbrev cX5_liftTold : ByteArray := prog_1_method_35_code
def yX5_liftTold : MethodName := ⟨RX5, "liftTold", "(LZoneBelt$Belt;I)Z"⟩
abbrev cX5_eyeTold : ByteArray := prog_1_method_36_code
def yX5_eyeTold : MethodName := ⟨RX5, "eyeTold", "(LZoneBelt$Belt;II)Z"⟩
abbrev cX5_listUnsound : ByteArray := prog_1_method_37_code
def yX5_listUnsound : MethodName := ⟨RX5, "listUnsound", "(I)I"⟩
abbrev cX5_outWith : ByteArray := prog_1_method_38_code
def yX5_outWith : MethodName := ⟨RX5, "outWith", "(II)I"⟩
abbrev cX5_gainInAllOrders : ByteArray := prog_1_method_39_code
def yX5_gainInAllOrders : MethodName := ⟨RX5, "gainInAllOrders", "(II)I"⟩
abbrev cX5_waysToEmpty : ByteArray := prog_1_method_40_code
def yX5_waysToEmpty : MethodName := ⟨RX5, "waysToEmpty", "(LZoneBelt$Belt;LZoneBelt$Store;II)I"⟩
abbrev cX5_tenToThe : ByteArray := prog_1_method_41_code
def yX5_tenToThe : MethodName := ⟨RX5, "tenToThe", "(I)I"⟩
abbrev cX5_fraction : ByteArray := prog_1_method_42_code
def yX5_fraction : MethodName := ⟨RX5, "fraction", "(IIZ)I"⟩
abbrev cX5_commonDivisor : ByteArray := prog_1_method_43_code
def yX5_commonDivisor : MethodName := ⟨RX5, "commonDivisor", "(II)I"⟩
def RX6 : String := "ZoneBeltModel"
def TX6 : u_T := fun k => match k with
  | 0 => ("ZoneBeltModel", "thrown", "I", false)
  | 1 => ("ZoneBeltModel", "text", "[I", true)
  | 2 => ("ZoneBeltModel", "textSize", "I", false)
  | 3 => ("ZoneBeltModel", "place", "I", false)
  | 4 => ("ZoneBeltModel", "main", "I", false)
  | 5 => ("ZoneBeltModel", "side", "I", false)
  | 6 => ("ZoneBeltModel", "meet", "I", false)
  | 7 => ("ZoneBeltModel", "readMain", "I", false)
  | 8 => ("ZoneBeltModel", "readSide", "I", false)
  | 9 => ("ZoneBeltModel", "readMeet", "I", false)
  | 10 => ("ZoneBeltModel", "readPage", "[I", true)
  | 11 => ("ZoneBeltModel", "page", "[I", true)
  | 12 => ("ZoneBeltModel", "trial", "[I", true)
  | 13 => ("ZoneBeltModel", "book", "[I", true)
  | 14 => ("ZoneBeltModel", "doings", "I", false)
  | 15 => ("ZoneBeltModel", "kept", "[I", true)
  | 16 => ("ZoneBeltModel", "isKept", "[Z", true)
  | 17 => ("ZoneBeltModel", "seen", "I", false)
  | 18 => ("ZoneBeltModel", "seenBehind", "[I", true)
  | 19 => ("ZoneBeltModel", "seenGone", "[I", true)
  | 20 => ("ZoneBeltModel", "seenWas", "[I", true)
  | 21 => ("ZoneBeltModel", "seed", "J", false)
  | 22 => ("ZoneBeltModel", "sees", "I", false)
  | 23 => ("ZoneBeltModel", "wishes", "I", false)
  | 24 => ("ZoneBeltModel", "goes", "I", false)
  | 25 => ("ZoneBeltModel", "slept", "I", false)
  | _ => ("ZoneBeltModel", "went", "I", false)
def tyX6 : Nat → FieldType := fun k => match k with
  | 0 => .int
  | 1 => .array .int
  | 2 => .int
  | 3 => .int
  | 4 => .int
  | 5 => .int
  | 6 => .int
  | 7 => .int
  | 8 => .int
  | 9 => .int
  | 10 => .array .int
  | 11 => .array .int
  | 12 => .array .int
  | 13 => .array .int
  | 14 => .int
  | 15 => .array .int
  | 16 => .array .boolean
  | 17 => .int
  | 18 => .array .int
  | 19 => .array .int
  | 20 => .array .int
  | 21 => .long
  | 22 => .int
  | 23 => .int
  | 24 => .int
  | 25 => .int
  | _ => .int
abbrev wsX60 : List Cond := u_ws RX6 TX6 27
theorem nmX6 : ∀ a, a < 27 → ∀ b, b < 27 → a ≠ b → (TX6 a).2.1 ≠ (TX6 b).2.1 := by decide +kernel
theorem tyX6_ok : ∀ k, k < 27 → parseFieldDescriptor (TX6 k).2.2.1 = some (tyX6 k) := by decide +kernel
abbrev cX6_init : ByteArray := prog_8_method_1_code
def yX6_init : MethodName := ⟨RX6, "<init>", "()V"⟩
abbrev cX6_in : ByteArray := prog_8_method_3_code
def yX6_in : MethodName := ⟨RX6, "in", "(JJJ)Z"⟩
abbrev cX6_has : ByteArray := prog_8_method_4_code
def yX6_has : MethodName := ⟨RX6, "has", "(II)Z"⟩
abbrev cX6_ones : ByteArray := prog_8_method_5_code
def yX6_ones : MethodName := ⟨RX6, "ones", "(I)I"⟩
abbrev cX6_power : ByteArray := prog_8_method_6_code
def yX6_power : MethodName := ⟨RX6, "power", "(II)I"⟩
abbrev cX6_layTrial : ByteArray := prog_8_method_7_code
def yX6_layTrial : MethodName := ⟨RX6, "layTrial", "()V"⟩
abbrev cX6_zones : ByteArray := prog_8_method_8_code
def yX6_zones : MethodName := ⟨RX6, "zones", "()I"⟩
abbrev cX6_noZone : ByteArray := prog_8_method_9_code
def yX6_noZone : MethodName := ⟨RX6, "noZone", "(I)Z"⟩
abbrev cX6_write : ByteArray := prog_8_method_10_code
def yX6_write : MethodName := ⟨RX6, "write", "(I)I"⟩
abbrev cX6_wipe : ByteArray := prog_8_method_11_code
def yX6_wipe : MethodName := ⟨RX6, "wipe", "()I"⟩
abbrev cX6_figure : ByteArray := prog_8_method_12_code
def yX6_figure : MethodName := ⟨RX6, "figure", "(II)I"⟩
abbrev cX6_readHead : ByteArray := prog_8_method_13_code
def yX6_readHead : MethodName := ⟨RX6, "readHead", "()Z"⟩
abbrev cX6_isFree : ByteArray := prog_8_method_14_code
def yX6_isFree : MethodName := ⟨RX6, "isFree", "(I)Z"⟩
abbrev cX6_readCarton : ByteArray := prog_8_method_15_code
def yX6_readCarton : MethodName := ⟨RX6, "readCarton", "()Z"⟩
abbrev cX6_readBelt : ByteArray := prog_8_method_16_code
def yX6_readBelt : MethodName := ⟨RX6, "readBelt", "()I"⟩
abbrev cX6_fault : ByteArray := prog_8_method_17_code
def yX6_fault : MethodName := ⟨RX6, "fault", "()I"⟩
abbrev cX6_belt : ByteArray := prog_8_method_18_code
def yX6_belt : MethodName := ⟨RX6, "belt", "()I"⟩
abbrev cX6_behind : ByteArray := prog_8_method_19_code
def yX6_behind : MethodName := ⟨RX6, "behind", "(I)I"⟩
abbrev cX6_seesAt : ByteArray := prog_8_method_20_code
def yX6_seesAt : MethodName := ⟨RX6, "seesAt", "([II)Z"⟩
abbrev cX6_allThatSee : ByteArray := prog_8_method_21_code
def yX6_allThatSee : MethodName := ⟨RX6, "allThatSee", "([I)I"⟩
abbrev cX6_wakeOn : ByteArray := prog_8_method_22_code
def yX6_wakeOn : MethodName := ⟨RX6, "wakeOn", "([I)V"⟩
abbrev cX6_ticketOn : ByteArray := prog_8_method_23_code
def yX6_ticketOn : MethodName := ⟨RX6, "ticketOn", "([II)V"⟩
abbrev cX6_may : ByteArray := prog_8_method_24_code
def yX6_may : MethodName := ⟨RX6, "may", "([II)Z"⟩
abbrev cX6_layGoes : ByteArray := prog_8_method_25_code
def yX6_layGoes : MethodName := ⟨RX6, "layGoes", "([I)V"⟩
abbrev cX6_moveOn : ByteArray := prog_8_method_26_code
def yX6_moveOn : MethodName := ⟨RX6, "moveOn", "([II)V"⟩
abbrev cX6_idleOn : ByteArray := prog_8_method_27_code
def yX6_idleOn : MethodName := ⟨RX6, "idleOn", "([I)V"⟩
abbrev cX6_stepOn : ByteArray := prog_8_method_28_code
def yX6_stepOn : MethodName := ⟨RX6, "stepOn", "([I)V"⟩
abbrev cX6_stepsOn : ByteArray := prog_8_method_29_code
def yX6_stepsOn : MethodName := ⟨RX6, "stepsOn", "([II)V"⟩
abbrev cX6_those : ByteArray := prog_8_method_30_code
def yX6_those : MethodName := ⟨RX6, "those", "([II)I"⟩
abbrev cX6_tellOf : ByteArray := prog_8_method_31_code
def yX6_tellOf : MethodName := ⟨RX6, "tellOf", "([III)I"⟩
abbrev cX6_zone : ByteArray := prog_8_method_32_code
def yX6_zone : MethodName := ⟨RX6, "zone", "(II)I"⟩
abbrev cX6_note : ByteArray := prog_8_method_33_code
def yX6_note : MethodName := ⟨RX6, "note", "()V"⟩
abbrev cX6_noLine : ByteArray := prog_8_method_34_code
def yX6_noLine : MethodName := ⟨RX6, "noLine", "(I)Z"⟩
abbrev cX6_entry : ByteArray := prog_8_method_35_code
def yX6_entry : MethodName := ⟨RX6, "entry", "(I)I"⟩
abbrev cX6_feedOn : ByteArray := prog_8_method_36_code
def yX6_feedOn : MethodName := ⟨RX6, "feedOn", "([II)V"⟩
abbrev cX6_feed : ByteArray := prog_8_method_37_code
def yX6_feed : MethodName := ⟨RX6, "feed", "(I)I"⟩
abbrev cX6_liftOn : ByteArray := prog_8_method_38_code
def yX6_liftOn : MethodName := ⟨RX6, "liftOn", "([II)I"⟩
abbrev cX6_lift : ByteArray := prog_8_method_39_code
def yX6_lift : MethodName := ⟨RX6, "lift", "(I)I"⟩
abbrev cX6_turn : ByteArray := prog_8_method_40_code
def yX6_turn : MethodName := ⟨RX6, "turn", "()I"⟩
abbrev cX6_eye : ByteArray := prog_8_method_41_code
def yX6_eye : MethodName := ⟨RX6, "eye", "(II)I"⟩
abbrev cX6_make : ByteArray := prog_8_method_42_code
def yX6_make : MethodName := ⟨RX6, "make", "(II)I"⟩
abbrev cX6_clear : ByteArray := prog_8_method_43_code
def yX6_clear : MethodName := ⟨RX6, "clear", "(I)I"⟩
abbrev cX6_step : ByteArray := prog_8_method_44_code
def yX6_step : MethodName := ⟨RX6, "step", "(I)I"⟩
abbrev cX6_undo : ByteArray := prog_8_method_45_code
def yX6_undo : MethodName := ⟨RX6, "undo", "()I"⟩
abbrev cX6_ahead : ByteArray := prog_8_method_46_code
def yX6_ahead : MethodName := ⟨RX6, "ahead", "(III)I"⟩
abbrev cX6_emptyOf : ByteArray := prog_8_method_47_code
def yX6_emptyOf : MethodName := ⟨RX6, "emptyOf", "()I"⟩
abbrev cX6_bestRest : ByteArray := prog_8_method_48_code
def yX6_bestRest : MethodName := ⟨RX6, "bestRest", "()I"⟩
abbrev cX6_rowAt : ByteArray := prog_8_method_49_code
def yX6_rowAt : MethodName := ⟨RX6, "rowAt", "(I)I"⟩
abbrev cX6_manyOut : ByteArray := prog_8_method_50_code
def yX6_manyOut : MethodName := ⟨RX6, "manyOut", "()I"⟩
abbrev cX6_ask : ByteArray := prog_8_method_51_code
def yX6_ask : MethodName := ⟨RX6, "ask", "(I)I"⟩
abbrev cX6_row : ByteArray := prog_8_method_52_code
def yX6_row : MethodName := ⟨RX6, "row", "(I)I"⟩
abbrev cX6_does : ByteArray := prog_8_method_53_code
def yX6_does : MethodName := ⟨RX6, "does", "(III)Z"⟩
abbrev cX6_longPower : ByteArray := prog_8_method_54_code
def yX6_longPower : MethodName := ⟨RX6, "longPower", "(JI)J"⟩
abbrev cX6_judge : ByteArray := prog_8_method_55_code
def yX6_judge : MethodName := ⟨RX6, "judge", "(IJ)I"⟩
abbrev cX6_see : ByteArray := prog_8_method_56_code
def yX6_see : MethodName := ⟨RX6, "see", "(III)I"⟩
abbrev cX6_unsee : ByteArray := prog_8_method_57_code
def yX6_unsee : MethodName := ⟨RX6, "unsee", "()I"⟩
abbrev cX6_isSo : ByteArray := prog_8_method_58_code
def yX6_isSo : MethodName := ⟨RX6, "isSo", "(II)Z"⟩
abbrev cX6_which : ByteArray := prog_8_method_59_code
def yX6_which : MethodName := ⟨RX6, "which", "()I"⟩
abbrev cX6_divisor : ByteArray := prog_8_method_60_code
def yX6_divisor : MethodName := ⟨RX6, "divisor", "(II)I"⟩
abbrev cX6_fraction : ByteArray := prog_8_method_61_code
def yX6_fraction : MethodName := ⟨RX6, "fraction", "(IIZ)I"⟩
abbrev cX6_factorial : ByteArray := prog_8_method_62_code
def yX6_factorial : MethodName := ⟨RX6, "factorial", "(I)I"⟩
abbrev cX6_goneBy : ByteArray := prog_8_method_63_code
def yX6_goneBy : MethodName := ⟨RX6, "goneBy", "(I)I"⟩
abbrev cX6_share : ByteArray := prog_8_method_64_code
def yX6_share : MethodName := ⟨RX6, "share", "(IZ)I"⟩
abbrev cX6_shut : ByteArray := prog_8_method_65_code
def yX6_shut : MethodName := ⟨RX6, "shut", "(IIZ)I"⟩
abbrev cX6_seed : ByteArray := prog_8_method_66_code
def yX6_seed : MethodName := ⟨RX6, "seed", "(J)J"⟩
abbrev cX6_drawn : ByteArray := prog_8_method_67_code
def yX6_drawn : MethodName := ⟨RX6, "drawn", "(I)I"⟩
abbrev cX6_keep : ByteArray := prog_8_method_68_code
def yX6_keep : MethodName := ⟨RX6, "keep", "(I)I"⟩
abbrev cX6_again : ByteArray := prog_8_method_69_code
def yX6_again : MethodName := ⟨RX6, "again", "(I)I"⟩
abbrev cX6_count : ByteArray := prog_8_method_70_code
def yX6_count : MethodName := ⟨RX6, "count", "(I)I"⟩
def RJ6 : String := "java/lang/Integer"
def TJ6 : u_T := fun k => match k with
  | _ => ("", "", "", false)
def tyJ6 : Nat → FieldType := fun k => match k with
  | _ => .int
abbrev wsJ60 : List Cond := u_ws RJ6 TJ6 0
theorem nmJ6 : ∀ a, a < 0 → ∀ b, b < 0 → a ≠ b → (TJ6 a).2.1 ≠ (TJ6 b).2.1 := by decide +kernel
theorem tyJ6_ok : ∀ k, k < 0 → parseFieldDescriptor (TJ6 k).2.2.1 = some (tyJ6 k) := by decide +kernel
abbrev cJ6_bitCount_0f7a4 : ByteArray := prog_9_method_49_code
def yJ6_bitCount_0f7a4 : MethodName := ⟨RJ6, "bitCount", "(I)I"⟩
def RJ9 : String := "java/lang/Math"
def TJ9 : u_T := fun k => match k with
  | _ => ("", "", "", false)
def tyJ9 : Nat → FieldType := fun k => match k with
  | _ => .int
abbrev wsJ90 : List Cond := u_ws RJ9 TJ9 0
theorem nmJ9 : ∀ a, a < 0 → ∀ b, b < 0 → a ≠ b → (TJ9 a).2.1 ≠ (TJ9 b).2.1 := by decide +kernel
theorem tyJ9_ok : ∀ k, k < 0 → parseFieldDescriptor (TJ9 k).2.2.1 = some (tyJ9 k) := by decide +kernel
abbrev cJ9_abs_0f7a4 : ByteArray := prog_10_method_59_code
def yJ9_abs_0f7a4 : MethodName := ⟨RJ9, "abs", "(I)I"⟩
abbrev cJ9_max_7cf53 : ByteArray := prog_10_method_65_code
def yJ9_max_7cf53 : MethodName := ⟨RJ9, "max", "(II)I"⟩
abbrev cJ9_min_7cf53 : ByteArray := prog_10_method_69_code
def yJ9_min_7cf53 : MethodName := ⟨RJ9, "min", "(II)I"⟩
def RJ10 : String := "java/lang/System"
def TJ10 : u_T := fun k => match k with
  | _ => ("", "", "", false)
def tyJ10 : Nat → FieldType := fun k => match k with
  | _ => .int
abbrev wsJ100 : List Cond := u_ws RJ10 TJ10 0
theorem nmJ10 : ∀ a, a < 0 → ∀ b, b < 0 → a ≠ b → (TJ10 a).2.1 ≠ (TJ10 b).2.1 := by decide +kernel
theorem tyJ10_ok : ∀ k, k < 0 → parseFieldDescriptor (TJ10 k).2.2.1 = some (tyJ10 k) := by decide +kernel
def RL : String := "ZoneBeltLaw"
abbrev cL_law : ByteArray := code
def yL_law : MethodName := ⟨RL, "law", "([I)Z"⟩
def wsL_law_r1 : List Cond := [Cond.classLink RL 7 RX5, Cond.instantiable RX5 12, Cond.initialized RX5, Cond.classLink RL 10 RX6, Cond.instantiable RX6 27, Cond.initialized RX6, Cond.constantLong RL 81 (4294967295), Cond.methodLink RL 9 yX5_init, Cond.instanceMethod yX5_init, Cond.code yX5_init cX5_init 1 none, Cond.methodLink RX5 1 objectInit, Cond.instanceMethod objectInit, Cond.code objectInit ⟨#[0xb1]⟩ 1 none, Cond.classLink RX5 7 RX4, Cond.instantiable RX4 2, Cond.initialized RX4, Cond.fieldLink RX5 10 "ZoneBelt" "text" "LZoneBelt$Text;", Cond.classLink RX5 16 RX1, Cond.instantiable RX1 6, Cond.initialized RX1, Cond.fieldLink RX5 19 "ZoneBelt" "now" "LZoneBelt$Belt;", Cond.fieldLink RX5 23 "ZoneBelt" "trial" "LZoneBelt$Belt;", Cond.classLink RX5 26 RX0, Cond.instantiable RX0 3]
def wsL_law_r2 : List Cond := [Cond.initialized RX0, Cond.fieldLink RX5 29 "ZoneBelt" "acts" "LZoneBelt$Acts;", Cond.classLink RX5 33 RX3, Cond.instantiable RX3 2, Cond.initialized RX3, Cond.fieldLink RX5 38 "ZoneBelt" "slots" "LZoneBelt$Store;", Cond.fieldLink RX5 42 "ZoneBelt" "keptSlots" "I", Cond.fieldLink RX5 46 "ZoneBelt" "branches" "LZoneBelt$Store;", Cond.classLink RX5 49 RX2, Cond.instantiable RX2 4, Cond.initialized RX2, Cond.fieldLink RX5 52 "ZoneBelt" "sightings" "LZoneBelt$Sightings;", Cond.arrayClass .int, Cond.fieldLink RX5 56 "ZoneBelt" "doings" "[I", Cond.fieldLink RX5 60 "ZoneBelt" "unsound" "[I", Cond.fieldLink RX5 63 "ZoneBelt" "outIfMended" "[I", Cond.fieldLink RX5 66 "ZoneBelt" "seedNow" "J", Cond.methodLink RX5 9 yX4_init, Cond.instanceMethod yX4_init, Cond.code yX4_init cX4_init 1 none, Cond.methodLink RX4 3 objectInit, Cond.fieldLink RX4 11 "ZoneBelt$Text" "letters" "[I", Cond.fieldLink RX4 15 "ZoneBelt$Text" "length" "I", Cond.methodLink RX5 18 yX1_init]
def wsL_law_r3 : List Cond := [Cond.instanceMethod yX1_init, Cond.code yX1_init cX1_init 1 none, Cond.methodLink RX1 3 objectInit, Cond.fieldLink RX1 9 "ZoneBelt$Belt" "mainZones" "I", Cond.fieldLink RX1 15 "ZoneBelt$Belt" "sideZones" "I", Cond.fieldLink RX1 18 "ZoneBelt$Belt" "zones" "I", Cond.fieldLink RX1 21 "ZoneBelt$Belt" "meeting" "I", Cond.fieldLink RX1 24 "ZoneBelt$Belt" "cells" "[I", Cond.fieldLink RX1 28 "ZoneBelt$Belt" "justOut" "I", Cond.methodLink RX5 28 yX0_init, Cond.instanceMethod yX0_init, Cond.code yX0_init cX0_init 1 none, Cond.methodLink RX0 3 objectInit, Cond.classLink RX0 9 RX3, Cond.fieldLink RX0 14 "ZoneBelt$Acts" "before" "LZoneBelt$Store;", Cond.fieldLink RX0 20 "ZoneBelt$Acts" "next" "I", Cond.fieldLink RX0 24 "ZoneBelt$Acts" "size" "I", Cond.methodLink RX0 11 yX3_init, Cond.instanceMethod yX3_init, Cond.code yX3_init cX3_init 2 none, Cond.methodLink RX3 1 objectInit, Cond.methodLink RX3 7 Lib.Math.max.name, Cond.static Lib.Math.max.name, Cond.initialized "java/lang/Math"]
def wsL_law_r4 : List Cond := [Cond.code Lib.Math.max.name Lib.Math.max.code 2 (some .int), Cond.fieldLink RX3 13 "ZoneBelt$Store" "places" "I", Cond.fieldLink RX3 21 "ZoneBelt$Store" "cells" "[I", Cond.methodLink RX5 35 yX3_init, Cond.methodLink RX5 51 yX2_init, Cond.instanceMethod yX2_init, Cond.code yX2_init cX2_init 1 none, Cond.methodLink RX2 1 objectInit, Cond.fieldLink RX2 9 "ZoneBelt$Sightings" "behindSteps" "[I", Cond.fieldLink RX2 13 "ZoneBelt$Sightings" "outs" "[I", Cond.fieldLink RX2 16 "ZoneBelt$Sightings" "truths" "[I", Cond.fieldLink RX2 19 "ZoneBelt$Sightings" "size" "I", Cond.methodLink RL 12 yX6_init, Cond.instanceMethod yX6_init, Cond.code yX6_init cX6_init 1 none, Cond.methodLink RX6 1 objectInit, Cond.fieldLink RX6 7 "ZoneBeltModel" "text" "[I", Cond.fieldLink RX6 13 "ZoneBeltModel" "main" "I", Cond.fieldLink RX6 17 "ZoneBeltModel" "meet" "I", Cond.fieldLink RX6 20 "ZoneBeltModel" "readPage" "[I", Cond.fieldLink RX6 23 "ZoneBeltModel" "page" "[I", Cond.fieldLink RX6 26 "ZoneBeltModel" "trial" "[I", Cond.fieldLink RX6 29 "ZoneBeltModel" "book" "[I", Cond.fieldLink RX6 32 "ZoneBeltModel" "kept" "[I"]
def wsL_law_r5 : List Cond := [Cond.arrayClass .boolean, Cond.fieldLink RX6 35 "ZoneBeltModel" "isKept" "[Z", Cond.fieldLink RX6 39 "ZoneBeltModel" "seenBehind" "[I", Cond.fieldLink RX6 42 "ZoneBeltModel" "seenGone" "[I", Cond.fieldLink RX6 45 "ZoneBeltModel" "seenWas" "[I", Cond.methodLink RL 13 yX5_write, Cond.instanceMethod yX5_write, Cond.selects RX5 yX5_write yX5_write, Cond.code yX5_write cX5_write 2 (some .int), Cond.fieldLink RX5 74 "ZoneBelt$Text" "length" "I", Cond.methodLink RX5 70 yX4_append, Cond.instanceMethod yX4_append, Cond.selects RX4 yX4_append yX4_append, Cond.code yX4_append cX4_append 2 (some .boolean), Cond.methodLink RL 17 yX6_write, Cond.instanceMethod yX6_write, Cond.selects RX6 yX6_write yX6_write, Cond.code yX6_write cX6_write 2 (some .int), Cond.fieldLink RX6 48 "ZoneBeltModel" "thrown" "I", Cond.constantLong RX6 62 (255), Cond.fieldLink RX6 64 "ZoneBeltModel" "textSize" "I", Cond.methodLink RX6 58 yX6_in, Cond.static yX6_in, Cond.code yX6_in cX6_in 6 (some .boolean)]
def wsL_law_r6 : List Cond := [Cond.methodLink RL 18 yX5_wipe, Cond.instanceMethod yX5_wipe, Cond.selects RX5 yX5_wipe yX5_wipe, Cond.code yX5_wipe cX5_wipe 2 (some .int), Cond.methodLink RL 22 yX6_wipe, Cond.instanceMethod yX6_wipe, Cond.selects RX6 yX6_wipe yX6_wipe, Cond.code yX6_wipe cX6_wipe 2 (some .int), Cond.methodLink RL 23 yX5_fault, Cond.instanceMethod yX5_fault, Cond.selects RX5 yX5_fault yX5_fault, Cond.code yX5_fault cX5_fault 1 (some .int), Cond.methodLink RX5 77 yX4_firstFault, Cond.instanceMethod yX4_firstFault, Cond.selects RX4 yX4_firstFault yX4_firstFault, Cond.code yX4_firstFault cX4_firstFault 3 (some .int), Cond.methodLink RX4 19 yX4_fits, Cond.instanceMethod yX4_fits, Cond.selects RX4 yX4_fits yX4_fits, Cond.code yX4_fits cX4_fits 3 (some .boolean), Cond.methodLink RX4 46 yX4_isFigure, Cond.instanceMethod yX4_isFigure, Cond.selects RX4 yX4_isFigure yX4_isFigure, Cond.code yX4_isFigure cX4_isFigure 4 (some .boolean)]
def wsL_law_r7 : List Cond := [Cond.methodLink RX4 27 yX4_figure, Cond.instanceMethod yX4_figure, Cond.selects RX4 yX4_figure yX4_figure, Cond.code yX4_figure cX4_figure 2 (some .int), Cond.methodLink RX4 50 yX4_fitsCarton, Cond.instanceMethod yX4_fitsCarton, Cond.selects RX4 yX4_fitsCarton yX4_fitsCarton, Cond.code yX4_fitsCarton cX4_fitsCarton 3 (some .boolean), Cond.methodLink RX4 23 yX4_zoneEndingAt, Cond.instanceMethod yX4_zoneEndingAt, Cond.selects RX4 yX4_zoneEndingAt yX4_zoneEndingAt, Cond.code yX4_zoneEndingAt cX4_zoneEndingAt 2 (some .int), Cond.methodLink RX4 53 yX1_in, Cond.static yX1_in, Cond.code yX1_in cX1_in 2 (some .boolean), Cond.methodLink RL 26 yX6_fault, Cond.instanceMethod yX6_fault, Cond.selects RX6 yX6_fault yX6_fault, Cond.code yX6_fault cX6_fault 1 (some .int), Cond.methodLink RX6 96 yX6_readBelt, Cond.instanceMethod yX6_readBelt, Cond.selects RX6 yX6_readBelt yX6_readBelt, Cond.code yX6_readBelt cX6_readBelt 2 (some .int), Cond.fieldLink RX6 67 "ZoneBeltModel" "place" "I"]
def wsL_law_r8 : List Cond := [Cond.methodLink RX6 89 yX6_readHead, Cond.instanceMethod yX6_readHead, Cond.selects RX6 yX6_readHead yX6_readHead, Cond.code yX6_readHead cX6_readHead 1 (some .boolean), Cond.fieldLink RX6 74 "ZoneBeltModel" "readMain" "I", Cond.fieldLink RX6 77 "ZoneBeltModel" "readSide" "I", Cond.fieldLink RX6 80 "ZoneBeltModel" "readMeet" "I", Cond.methodLink RX6 70 yX6_figure, Cond.instanceMethod yX6_figure, Cond.selects RX6 yX6_figure yX6_figure, Cond.code yX6_figure cX6_figure 4 (some .int), Cond.methodLink RX6 93 yX6_readCarton, Cond.instanceMethod yX6_readCarton, Cond.selects RX6 yX6_readCarton yX6_readCarton, Cond.code yX6_readCarton cX6_readCarton 4 (some .boolean), Cond.constantLong RX6 87 (9), Cond.methodLink RX6 83 yX6_isFree, Cond.instanceMethod yX6_isFree, Cond.selects RX6 yX6_isFree yX6_isFree, Cond.code yX6_isFree cX6_isFree 2 (some .boolean), Cond.methodLink RL 27 yX5_belt, Cond.instanceMethod yX5_belt, Cond.selects RX5 yX5_belt yX5_belt, Cond.code yX5_belt cX5_belt 1 (some .int)]
def wsL_law_r9 : List Cond := [Cond.fieldLink RX5 88 "ZoneBelt$Belt" "zones" "I", Cond.methodLink RX5 81 yX4_layOut, Cond.instanceMethod yX4_layOut, Cond.selects RX4 yX4_layOut yX4_layOut, Cond.code yX4_layOut cX4_layOut 4 none, Cond.fieldLink RX4 36 "ZoneBelt$Belt" "cells" "[I", Cond.methodLink RX4 30 yX1_begin, Cond.instanceMethod yX1_begin, Cond.selects RX1 yX1_begin yX1_begin, Cond.code yX1_begin cX1_begin 5 none, Cond.methodLink RX4 39 yX1_hasZone, Cond.instanceMethod yX1_hasZone, Cond.selects RX1 yX1_hasZone yX1_hasZone, Cond.code yX1_hasZone cX1_hasZone 2 (some .boolean), Cond.methodLink RX4 43 yX1_putNext, Cond.instanceMethod yX1_putNext, Cond.selects RX1 yX1_putNext yX1_putNext, Cond.code yX1_putNext cX1_putNext 2 (some .int), Cond.methodLink RX5 85 yX0_forgetAll, Cond.instanceMethod yX0_forgetAll, Cond.selects RX0 yX0_forgetAll yX0_forgetAll, Cond.code yX0_forgetAll cX0_forgetAll 1 none, Cond.methodLink RL 30 yX6_belt, Cond.instanceMethod yX6_belt]
def wsL_law_r10 : List Cond := [Cond.selects RX6 yX6_belt yX6_belt, Cond.code yX6_belt cX6_belt 2 (some .int), Cond.fieldLink RX6 51 "ZoneBeltModel" "side" "I", Cond.fieldLink RX6 99 "ZoneBeltModel" "doings" "I", Cond.methodLink RX6 54 yX6_zones, Cond.instanceMethod yX6_zones, Cond.selects RX6 yX6_zones yX6_zones, Cond.code yX6_zones cX6_zones 1 (some .int), Cond.methodLink RL 31 yX5_zone, Cond.instanceMethod yX5_zone, Cond.selects RX5 yX5_zone yX5_zone, Cond.code yX5_zone cX5_zone 3 (some .int), Cond.methodLink RX5 91 yX1_hasZone, Cond.methodLink RX5 94 yX5_factOf, Cond.static yX5_factOf, Cond.code yX5_factOf cX5_factOf 3 (some .int), Cond.fieldLink RX5 136 "ZoneBelt$Belt" "cells" "[I", Cond.methodLink RX5 105 yX1_hasCarton, Cond.instanceMethod yX1_hasCarton, Cond.selects RX1 yX1_hasCarton yX1_hasCarton, Cond.code yX1_hasCarton cX1_hasCarton 2 (some .boolean), Cond.methodLink RX5 239 yX1_seeing, Cond.instanceMethod yX1_seeing, Cond.selects RX1 yX1_seeing yX1_seeing]
def wsL_law_r11 : List Cond := [Cond.code yX1_seeing cX1_seeing 4 (some .int), Cond.methodLink RX1 49 yX1_hasCarton, Cond.methodLink RX5 220 yX1_in, Cond.methodLink RX5 130 yX1_isJammed, Cond.instanceMethod yX1_isJammed, Cond.selects RX1 yX1_isJammed yX1_isJammed, Cond.code yX1_isJammed cX1_isJammed 2 (some .boolean), Cond.methodLink RX1 37 yX1_in, Cond.methodLink RL 35 yX6_zone, Cond.instanceMethod yX6_zone, Cond.selects RX6 yX6_zone yX6_zone, Cond.code yX6_zone cX6_zone 3 (some .int), Cond.constantLong RX6 159 (6), Cond.methodLink RX6 156 yX6_noZone, Cond.instanceMethod yX6_noZone, Cond.selects RX6 yX6_noZone yX6_noZone, Cond.code yX6_noZone cX6_noZone 2 (some .boolean), Cond.methodLink RX6 161 yX6_tellOf, Cond.instanceMethod yX6_tellOf, Cond.selects RX6 yX6_tellOf yX6_tellOf, Cond.code yX6_tellOf cX6_tellOf 5 (some .int), Cond.methodLink RX6 102 yX6_seesAt, Cond.static yX6_seesAt, Cond.code yX6_seesAt cX6_seesAt 3 (some .boolean)]
def wsL_law_r12 : List Cond := [Cond.methodLink RL 36 yX5_feed, Cond.instanceMethod yX5_feed, Cond.selects RX5 yX5_feed yX5_feed, Cond.code yX5_feed cX5_feed 2 (some .int), Cond.methodLink RX5 98 yX1_hasLine, Cond.instanceMethod yX1_hasLine, Cond.selects RX1 yX1_hasLine yX1_hasLine, Cond.code yX1_hasLine cX1_hasLine 2 (some .boolean), Cond.methodLink RX5 101 yX1_entryOf, Cond.instanceMethod yX1_entryOf, Cond.selects RX1 yX1_entryOf yX1_entryOf, Cond.code yX1_entryOf cX1_entryOf 2 (some .int), Cond.methodLink RX5 108 yX1_canFeed, Cond.instanceMethod yX1_canFeed, Cond.selects RX1 yX1_canFeed yX1_canFeed, Cond.code yX1_canFeed cX1_canFeed 2 (some .boolean), Cond.methodLink RX1 41 yX1_hasLine, Cond.methodLink RX1 45 yX1_entryOf, Cond.methodLink RX5 111 yX0_remember, Cond.instanceMethod yX0_remember, Cond.selects RX0 yX0_remember yX0_remember, Cond.code yX0_remember cX0_remember 2 none, Cond.methodLink RX0 31 Lib.Math.min.name, Cond.static Lib.Math.min.name]
def wsL_law_r13 : List Cond := [Cond.code Lib.Math.min.name Lib.Math.min.code 2 (some .int), Cond.methodLink RX0 27 yX3_put, Cond.instanceMethod yX3_put, Cond.selects RX3 yX3_put yX3_put, Cond.code yX3_put cX3_put 3 none, Cond.fieldLink RX3 25 "ZoneBelt$Belt" "cells" "[I", Cond.methodLink RX3 26 arraycopyName, Cond.native arraycopyName, Cond.static arraycopyName, Cond.initialized "java/lang/System", Cond.methodLink RX5 114 yX1_putNext, Cond.methodLink RL 39 yX6_feed, Cond.instanceMethod yX6_feed, Cond.selects RX6 yX6_feed yX6_feed, Cond.code yX6_feed cX6_feed 2 (some .int), Cond.methodLink RX6 168 yX6_noLine, Cond.instanceMethod yX6_noLine, Cond.selects RX6 yX6_noLine yX6_noLine, Cond.code yX6_noLine cX6_noLine 2 (some .boolean), Cond.methodLink RX6 165 yX6_entry, Cond.instanceMethod yX6_entry, Cond.selects RX6 yX6_entry yX6_entry, Cond.code yX6_entry cX6_entry 2 (some .int), Cond.methodLink RX6 171 yX6_note]
def wsL_law_r14 : List Cond := [Cond.instanceMethod yX6_note, Cond.selects RX6 yX6_note yX6_note, Cond.code yX6_note cX6_note 2 none, Cond.methodLink RX6 174 yX6_feedOn, Cond.instanceMethod yX6_feedOn, Cond.selects RX6 yX6_feedOn yX6_feedOn, Cond.code yX6_feedOn cX6_feedOn 3 none, Cond.methodLink RL 40 yX5_lift, Cond.instanceMethod yX5_lift, Cond.selects RX5 yX5_lift yX5_lift, Cond.code yX5_lift cX5_lift 2 (some .int), Cond.methodLink RX5 117 yX1_takeAway, Cond.instanceMethod yX1_takeAway, Cond.selects RX1 yX1_takeAway yX1_takeAway, Cond.code yX1_takeAway cX1_takeAway 2 (some .int), Cond.methodLink RX1 52 yX1_freeJam, Cond.instanceMethod yX1_freeJam, Cond.selects RX1 yX1_freeJam yX1_freeJam, Cond.code yX1_freeJam cX1_freeJam 2 none, Cond.methodLink RX1 56 yX1_change, Cond.instanceMethod yX1_change, Cond.selects RX1 yX1_change yX1_change, Cond.code yX1_change cX1_change 4 (some .int), Cond.methodLink RL 43 yX6_lift]
def wsL_law_r15 : List Cond := [Cond.instanceMethod yX6_lift, Cond.selects RX6 yX6_lift yX6_lift, Cond.code yX6_lift cX6_lift 2 (some .int), Cond.methodLink RX6 177 yX6_liftOn, Cond.static yX6_liftOn, Cond.code yX6_liftOn cX6_liftOn 3 (some .int), Cond.methodLink RL 44 yX5_turn, Cond.instanceMethod yX5_turn, Cond.selects RX5 yX5_turn yX5_turn, Cond.code yX5_turn cX5_turn 1 (some .int), Cond.methodLink RX5 120 yX1_turnExit, Cond.instanceMethod yX1_turnExit, Cond.selects RX1 yX1_turnExit yX1_turnExit, Cond.code yX1_turnExit cX1_turnExit 1 (some .int), Cond.methodLink RL 47 yX6_turn, Cond.instanceMethod yX6_turn, Cond.selects RX6 yX6_turn yX6_turn, Cond.code yX6_turn cX6_turn 1 (some .int), Cond.methodLink RL 48 yX5_eye, Cond.instanceMethod yX5_eye, Cond.selects RX5 yX5_eye yX5_eye, Cond.code yX5_eye cX5_eye 3 (some .int), Cond.methodLink RX5 123 yX1_isEye, Cond.static yX1_isEye]
def wsL_law_r16 : List Cond := [Cond.code yX1_isEye cX1_isEye 1 (some .boolean), Cond.methodLink RX5 126 yX1_change, Cond.methodLink RL 51 yX6_eye, Cond.instanceMethod yX6_eye, Cond.selects RX6 yX6_eye yX6_eye, Cond.code yX6_eye cX6_eye 4 (some .int), Cond.constantLong RX6 181 (2), Cond.methodLink RL 52 yX5_make, Cond.instanceMethod yX5_make, Cond.selects RX5 yX5_make yX5_make, Cond.code yX5_make cX5_make 3 (some .int), Cond.methodLink RL 55 yX6_make, Cond.instanceMethod yX6_make, Cond.selects RX6 yX6_make yX6_make, Cond.code yX6_make cX6_make 4 (some .int), Cond.methodLink RL 56 yX5_clear, Cond.instanceMethod yX5_clear, Cond.selects RX5 yX5_clear yX5_clear, Cond.code yX5_clear cX5_clear 2 (some .int), Cond.methodLink RX5 133 yX1_freeJam, Cond.methodLink RX5 139 yJ6_bitCount_0f7a4, Cond.static yJ6_bitCount_0f7a4, Cond.initialized RJ6, Cond.code yJ6_bitCount_0f7a4 cJ6_bitCount_0f7a4 1 (some .int)]
def wsL_law_r17 : List Cond := [Cond.constant RJ6 265 (1431655765), Cond.constant RJ6 266 (858993459), Cond.constant RJ6 267 (252645135), Cond.methodLink RL 59 yX6_clear, Cond.instanceMethod yX6_clear, Cond.selects RX6 yX6_clear yX6_clear, Cond.code yX6_clear cX6_clear 2 (some .int), Cond.methodLink RX6 183 yX6_those, Cond.instanceMethod yX6_those, Cond.selects RX6 yX6_those yX6_those, Cond.code yX6_those cX6_those 5 (some .int), Cond.methodLink RX6 186 yX6_ones, Cond.static yX6_ones, Cond.code yX6_ones cX6_ones 3 (some .int), Cond.methodLink RL 60 yX5_step, Cond.instanceMethod yX5_step, Cond.selects RX5 yX5_step yX5_step, Cond.code yX5_step cX5_step 3 (some .int), Cond.methodLink RX5 144 yX1_advance, Cond.instanceMethod yX1_advance, Cond.selects RX1 yX1_advance yX1_advance, Cond.code yX1_advance cX1_advance 3 none, Cond.methodLink RX1 60 yX1_advanceOnce, Cond.instanceMethod yX1_advanceOnce]
def wsL_law_r18 : List Cond := [Cond.selects RX1 yX1_advanceOnce yX1_advanceOnce, Cond.code yX1_advanceOnce cX1_advanceOnce 4 none, Cond.methodLink RX1 63 yX1_seeing, Cond.methodLink RX1 67 yX1_behindThose, Cond.instanceMethod yX1_behindThose, Cond.selects RX1 yX1_behindThose yX1_behindThose, Cond.code yX1_behindThose cX1_behindThose 4 (some .int), Cond.methodLink RX1 85 yX1_behind, Cond.instanceMethod yX1_behind, Cond.selects RX1 yX1_behind yX1_behind, Cond.code yX1_behind cX1_behind 2 (some .int), Cond.methodLink RX1 70 yX1_giveTickets, Cond.instanceMethod yX1_giveTickets, Cond.selects RX1 yX1_giveTickets yX1_giveTickets, Cond.code yX1_giveTickets cX1_giveTickets 2 none, Cond.methodLink RX1 88 yX1_giveTicket, Cond.instanceMethod yX1_giveTicket, Cond.selects RX1 yX1_giveTicket yX1_giveTicket, Cond.code yX1_giveTicket cX1_giveTicket 3 none, Cond.methodLink RX1 73 yX1_yielding, Cond.instanceMethod yX1_yielding, Cond.selects RX1 yX1_yielding yX1_yielding, Cond.code yX1_yielding cX1_yielding 4 (some .int), Cond.methodLink RX1 76 yX1_settle]
def wsL_law_r19 : List Cond := [Cond.instanceMethod yX1_settle, Cond.selects RX1 yX1_settle yX1_settle, Cond.code yX1_settle cX1_settle 6 (some .int), Cond.methodLink RX1 92 yX1_roomWith, Cond.instanceMethod yX1_roomWith, Cond.selects RX1 yX1_roomWith yX1_roomWith, Cond.code yX1_roomWith cX1_roomWith 3 (some .int), Cond.methodLink RX1 95 yX1_goer, Cond.instanceMethod yX1_goer, Cond.selects RX1 yX1_goer yX1_goer, Cond.code yX1_goer cX1_goer 4 (some .int), Cond.methodLink RX1 79 yX1_moveThose, Cond.instanceMethod yX1_moveThose, Cond.selects RX1 yX1_moveThose yX1_moveThose, Cond.code yX1_moveThose cX1_moveThose 3 none, Cond.methodLink RX1 99 yX1_handOn, Cond.instanceMethod yX1_handOn, Cond.selects RX1 yX1_handOn yX1_handOn, Cond.code yX1_handOn cX1_handOn 2 none, Cond.methodLink RX1 82 yX1_tellIdle, Cond.instanceMethod yX1_tellIdle, Cond.selects RX1 yX1_tellIdle yX1_tellIdle, Cond.code yX1_tellIdle cX1_tellIdle 3 none, Cond.methodLink RX1 102 yX1_feedersOf]
def wsL_law_r20 : List Cond := [Cond.instanceMethod yX1_feedersOf, Cond.selects RX1 yX1_feedersOf yX1_feedersOf, Cond.code yX1_feedersOf cX1_feedersOf 3 (some .int), Cond.methodLink RL 63 yX6_step, Cond.instanceMethod yX6_step, Cond.selects RX6 yX6_step yX6_step, Cond.code yX6_step cX6_step 3 (some .int), Cond.constantLong RX6 189 (99), Cond.methodLink RX6 191 yX6_stepsOn, Cond.instanceMethod yX6_stepsOn, Cond.selects RX6 yX6_stepsOn yX6_stepsOn, Cond.code yX6_stepsOn cX6_stepsOn 4 none, Cond.methodLink RX6 153 yX6_stepOn, Cond.instanceMethod yX6_stepOn, Cond.selects RX6 yX6_stepOn yX6_stepOn, Cond.code yX6_stepOn cX6_stepOn 3 none, Cond.fieldLink RX6 133 "ZoneBeltModel" "went" "I", Cond.methodLink RX6 136 yX6_wakeOn, Cond.instanceMethod yX6_wakeOn, Cond.selects RX6 yX6_wakeOn yX6_wakeOn, Cond.code yX6_wakeOn cX6_wakeOn 4 none, Cond.fieldLink RX6 110 "ZoneBeltModel" "sees" "I", Cond.fieldLink RX6 113 "ZoneBeltModel" "slept" "I", Cond.fieldLink RX6 116 "ZoneBeltModel" "wishes" "I"]
def wsL_law_r21 : List Cond := [Cond.methodLink RX6 106 yX6_allThatSee, Cond.instanceMethod yX6_allThatSee, Cond.selects RX6 yX6_allThatSee yX6_allThatSee, Cond.code yX6_allThatSee cX6_allThatSee 4 (some .int), Cond.methodLink RX6 119 yX6_has, Cond.static yX6_has, Cond.code yX6_has cX6_has 2 (some .boolean), Cond.methodLink RX6 140 yX6_ticketOn, Cond.instanceMethod yX6_ticketOn, Cond.selects RX6 yX6_ticketOn yX6_ticketOn, Cond.code yX6_ticketOn cX6_ticketOn 3 none, Cond.methodLink RX6 144 yX6_layGoes, Cond.instanceMethod yX6_layGoes, Cond.selects RX6 yX6_layGoes yX6_layGoes, Cond.code yX6_layGoes cX6_layGoes 8 none, Cond.fieldLink RX6 127 "ZoneBeltModel" "goes" "I", Cond.methodLink RX6 130 yX6_may, Cond.instanceMethod yX6_may, Cond.selects RX6 yX6_may yX6_may, Cond.code yX6_may cX6_may 4 (some .boolean), Cond.methodLink RX6 123 yX6_behind, Cond.instanceMethod yX6_behind, Cond.selects RX6 yX6_behind yX6_behind, Cond.code yX6_behind cX6_behind 2 (some .int)]
def wsL_law_r22 : List Cond := [Cond.methodLink RX6 147 yX6_moveOn, Cond.instanceMethod yX6_moveOn, Cond.selects RX6 yX6_moveOn yX6_moveOn, Cond.code yX6_moveOn cX6_moveOn 5 none, Cond.methodLink RX6 150 yX6_idleOn, Cond.instanceMethod yX6_idleOn, Cond.selects RX6 yX6_idleOn yX6_idleOn, Cond.code yX6_idleOn cX6_idleOn 6 none, Cond.methodLink RL 64 yX5_undo, Cond.instanceMethod yX5_undo, Cond.selects RX5 yX5_undo yX5_undo, Cond.code yX5_undo cX5_undo 1 (some .int), Cond.fieldLink RX5 151 "ZoneBelt$Acts" "size" "I", Cond.methodLink RX5 147 yX0_takeBack, Cond.instanceMethod yX0_takeBack, Cond.selects RX0 yX0_takeBack yX0_takeBack, Cond.code yX0_takeBack cX0_takeBack 2 (some .boolean), Cond.methodLink RX0 37 yX3_get, Cond.instanceMethod yX3_get, Cond.selects RX3 yX3_get yX3_get, Cond.code yX3_get cX3_get 3 none, Cond.methodLink RL 67 yX6_undo, Cond.instanceMethod yX6_undo, Cond.selects RX6 yX6_undo yX6_undo]
def wsL_law_r23 : List Cond := [Cond.code yX6_undo cX6_undo 2 (some .int), Cond.methodLink RL 68 yX5_ahead, Cond.instanceMethod yX5_ahead, Cond.selects RX5 yX5_ahead yX5_ahead, Cond.code yX5_ahead cX5_ahead 4 (some .int), Cond.methodLink RX5 154 yX1_copy, Cond.instanceMethod yX1_copy, Cond.selects RX1 yX1_copy yX1_copy, Cond.code yX1_copy cX1_copy 2 none, Cond.methodLink RX1 31 arraycopyName, Cond.methodLink RL 72 yX6_ahead, Cond.instanceMethod yX6_ahead, Cond.selects RX6 yX6_ahead yX6_ahead, Cond.code yX6_ahead cX6_ahead 4 (some .int), Cond.methodLink RX6 194 yX6_layTrial, Cond.instanceMethod yX6_layTrial, Cond.selects RX6 yX6_layTrial yX6_layTrial, Cond.code yX6_layTrial cX6_layTrial 2 none, Cond.methodLink RL 73 yX5_ask, Cond.instanceMethod yX5_ask, Cond.selects RX5 yX5_ask yX5_ask, Cond.code yX5_ask cX5_ask 2 (some .int), Cond.methodLink RX5 157 yX5_stepsTillEmpty, Cond.instanceMethod yX5_stepsTillEmpty]
def wsL_law_r24 : List Cond := [Cond.selects RX5 yX5_stepsTillEmpty yX5_stepsTillEmpty, Cond.code yX5_stepsTillEmpty cX5_stepsTillEmpty 2 (some .int), Cond.methodLink RX5 236 yX1_loaded, Cond.instanceMethod yX1_loaded, Cond.selects RX1 yX1_loaded yX1_loaded, Cond.code yX1_loaded cX1_loaded 3 (some .int), Cond.methodLink RX5 163 yX1_advanceOnce, Cond.methodLink RX5 160 yX5_bestRest, Cond.instanceMethod yX5_bestRest, Cond.selects RX5 yX5_bestRest yX5_bestRest, Cond.code yX5_bestRest cX5_bestRest 5 (some .int), Cond.methodLink RL 76 yX6_ask, Cond.instanceMethod yX6_ask, Cond.selects RX6 yX6_ask yX6_ask, Cond.code yX6_ask cX6_ask 2 (some .int), Cond.methodLink RX6 197 yX6_emptyOf, Cond.instanceMethod yX6_emptyOf, Cond.selects RX6 yX6_emptyOf yX6_emptyOf, Cond.code yX6_emptyOf cX6_emptyOf 2 (some .int), Cond.methodLink RX6 200 yX6_bestRest, Cond.instanceMethod yX6_bestRest, Cond.selects RX6 yX6_bestRest yX6_bestRest, Cond.code yX6_bestRest cX6_bestRest 5 (some .int), Cond.methodLink RX6 203 yX6_manyOut]
def wsL_law_r25 : List Cond := [Cond.instanceMethod yX6_manyOut, Cond.selects RX6 yX6_manyOut yX6_manyOut, Cond.code yX6_manyOut cX6_manyOut 1 (some .int), Cond.methodLink RL 77 yX5_row, Cond.instanceMethod yX5_row, Cond.selects RX5 yX5_row yX5_row, Cond.code yX5_row cX5_row 4 (some .int), Cond.fieldLink RX5 166 "ZoneBelt$Belt" "justOut" "I", Cond.methodLink RL 80 yX6_row, Cond.instanceMethod yX6_row, Cond.selects RX6 yX6_row yX6_row, Cond.code yX6_row cX6_row 2 (some .int), Cond.methodLink RX6 206 yX6_rowAt, Cond.instanceMethod yX6_rowAt, Cond.selects RX6 yX6_rowAt yX6_rowAt, Cond.code yX6_rowAt cX6_rowAt 4 (some .int), Cond.methodLink RL 83 yX5_judge, Cond.instanceMethod yX5_judge, Cond.selects RX5 yX5_judge yX5_judge, Cond.code yX5_judge cX5_judge 7 (some .int), Cond.fieldLink RX5 169 "ZoneBelt" "THOUSANDS" "[J", Cond.constantLong RX5 173 (1000), Cond.methodLink RX5 175 yX5_holds, Cond.static yX5_holds]
def wsL_law_r26 : List Cond := [Cond.code yX5_holds cX5_holds 5 (some .boolean), Cond.methodLink RX5 242 yX5_feedTold, Cond.static yX5_feedTold, Cond.code yX5_feedTold cX5_feedTold 2 (some .boolean), Cond.methodLink RX5 245 yX5_liftTold, Cond.static yX5_liftTold, Cond.code yX5_liftTold cX5_liftTold 2 (some .boolean), Cond.methodLink RX5 248 yX5_turnTold, Cond.static yX5_turnTold, Cond.code yX5_turnTold cX5_turnTold 2 (some .boolean), Cond.methodLink RX5 251 yX5_eyeTold, Cond.static yX5_eyeTold, Cond.code yX5_eyeTold cX5_eyeTold 3 (some .boolean), Cond.methodLink RL 87 yX6_judge, Cond.instanceMethod yX6_judge, Cond.selects RX6 yX6_judge yX6_judge, Cond.code yX6_judge cX6_judge 6 (some .int), Cond.constantLong RX6 209 (4), Cond.constantLong RX6 211 (1000), Cond.methodLink RX6 213 yX6_longPower, Cond.static yX6_longPower, Cond.code yX6_longPower cX6_longPower 6 (some .long), Cond.methodLink RX6 217 yX6_does, Cond.instanceMethod yX6_does]
def wsL_law_r27 : List Cond := [Cond.selects RX6 yX6_does yX6_does, Cond.code yX6_does cX6_does 4 (some .boolean), Cond.methodLink RL 88 yX5_see, Cond.instanceMethod yX5_see, Cond.selects RX5 yX5_see yX5_see, Cond.code yX5_see cX5_see 4 (some .int), Cond.fieldLink RX5 182 "ZoneBelt$Sightings" "size" "I", Cond.methodLink RX5 179 yX2_append, Cond.instanceMethod yX2_append, Cond.selects RX2 yX2_append yX2_append, Cond.code yX2_append cX2_append 4 (some .boolean), Cond.methodLink RL 91 yX6_see, Cond.instanceMethod yX6_see, Cond.selects RX6 yX6_see yX6_see, Cond.code yX6_see cX6_see 4 (some .int), Cond.constantLong RX6 221 (30), Cond.fieldLink RX6 223 "ZoneBeltModel" "seen" "I", Cond.methodLink RL 92 yX5_unsee, Cond.instanceMethod yX5_unsee, Cond.selects RX5 yX5_unsee yX5_unsee, Cond.code yX5_unsee cX5_unsee 2 (some .int), Cond.methodLink RL 95 yX6_unsee, Cond.instanceMethod yX6_unsee, Cond.selects RX6 yX6_unsee yX6_unsee]
def wsL_law_r28 : List Cond := [Cond.code yX6_unsee cX6_unsee 2 (some .int), Cond.methodLink RL 96 yX5_which, Cond.instanceMethod yX5_which, Cond.selects RX5 yX5_which yX5_which, Cond.code yX5_which cX5_which 3 (some .int), Cond.methodLink RX5 183 yX2_allSo, Cond.instanceMethod yX2_allSo, Cond.selects RX2 yX2_allSo yX2_allSo, Cond.code yX2_allSo cX2_allSo 4 (some .boolean), Cond.fieldLink RX2 27 "ZoneBelt$Belt" "cells" "[I", Cond.methodLink RX2 23 yX2_latest, Cond.instanceMethod yX2_latest, Cond.selects RX2 yX2_latest yX2_latest, Cond.code yX2_latest cX2_latest 3 (some .int), Cond.methodLink RX2 39 Lib.Math.max.name, Cond.methodLink RX2 32 yX2_soBehind, Cond.instanceMethod yX2_soBehind, Cond.selects RX2 yX2_soBehind yX2_soBehind, Cond.code yX2_soBehind cX2_soBehind 4 (some .boolean), Cond.methodLink RX2 36 yX1_advanceOnce, Cond.methodLink RL 99 yX6_which, Cond.instanceMethod yX6_which, Cond.selects RX6 yX6_which yX6_which, Cond.code yX6_which cX6_which 5 (some .int)]
def wsL_law_r29 : List Cond := [Cond.methodLink RX6 226 yX6_isSo, Cond.instanceMethod yX6_isSo, Cond.selects RX6 yX6_isSo yX6_isSo, Cond.code yX6_isSo cX6_isSo 3 (some .boolean), Cond.methodLink RL 100 yX5_share, Cond.instanceMethod yX5_share, Cond.selects RX5 yX5_share yX5_share, Cond.code yX5_share cX5_share 6 (some .int), Cond.fieldLink RX5 198 "ZoneBelt" "FACTORIALS" "[I", Cond.methodLink RX5 186 yX1_countUnsound, Cond.instanceMethod yX1_countUnsound, Cond.selects RX1 yX1_countUnsound yX1_countUnsound, Cond.code yX1_countUnsound cX1_countUnsound 3 (some .int), Cond.methodLink RX5 189 yX5_listUnsound, Cond.instanceMethod yX5_listUnsound, Cond.selects RX5 yX5_listUnsound yX5_listUnsound, Cond.code yX5_listUnsound cX5_listUnsound 5 (some .int), Cond.methodLink RX5 192 yX5_outWith, Cond.instanceMethod yX5_outWith, Cond.selects RX5 yX5_outWith yX5_outWith, Cond.code yX5_outWith cX5_outWith 4 (some .int), Cond.methodLink RX5 195 yX5_gainInAllOrders, Cond.instanceMethod yX5_gainInAllOrders, Cond.selects RX5 yX5_gainInAllOrders yX5_gainInAllOrders]
def wsL_law_r30 : List Cond := [Cond.code yX5_gainInAllOrders cX5_gainInAllOrders 7 (some .int), Cond.methodLink RX5 201 yX5_fraction, Cond.static yX5_fraction, Cond.code yX5_fraction cX5_fraction 4 (some .int), Cond.methodLink RX5 255 Lib.Math.abs.name, Cond.static Lib.Math.abs.name, Cond.code Lib.Math.abs.name Lib.Math.abs.code 1 (some .int), Cond.methodLink RX5 260 yX5_commonDivisor, Cond.static yX5_commonDivisor, Cond.code yX5_commonDivisor cX5_commonDivisor 6 (some .int), Cond.methodLink RL 104 yX6_share, Cond.instanceMethod yX6_share, Cond.selects RX6 yX6_share yX6_share, Cond.code yX6_share cX6_share 8 (some .int), Cond.methodLink RX6 232 yX6_factorial, Cond.static yX6_factorial, Cond.code yX6_factorial cX6_factorial 3 (some .int), Cond.methodLink RX6 235 yX6_goneBy, Cond.instanceMethod yX6_goneBy, Cond.selects RX6 yX6_goneBy yX6_goneBy, Cond.code yX6_goneBy cX6_goneBy 3 (some .int), Cond.methodLink RX6 238 yX6_fraction, Cond.static yX6_fraction, Cond.code yX6_fraction cX6_fraction 4 (some .int)]
def wsL_law_r31 : List Cond := [Cond.methodLink RX6 229 yX6_divisor, Cond.static yX6_divisor, Cond.code yX6_divisor cX6_divisor 5 (some .int), Cond.methodLink RL 105 yX5_shut, Cond.instanceMethod yX5_shut, Cond.selects RX5 yX5_shut yX5_shut, Cond.code yX5_shut cX5_shut 4 (some .int), Cond.methodLink RX5 205 yX5_waysToEmpty, Cond.static yX5_waysToEmpty, Cond.code yX5_waysToEmpty cX5_waysToEmpty 7 (some .int), Cond.methodLink RX5 209 yX5_tenToThe, Cond.static yX5_tenToThe, Cond.code yX5_tenToThe cX5_tenToThe 3 (some .int), Cond.methodLink RX5 216 yX3_put, Cond.methodLink RX5 224 yX3_get, Cond.methodLink RL 109 yX6_shut, Cond.instanceMethod yX6_shut, Cond.selects RX6 yX6_shut yX6_shut, Cond.code yX6_shut cX6_shut 7 (some .int), Cond.constantLong RX6 242 (8), Cond.constantLong RX6 244 (10), Cond.methodLink RX6 246 yX6_power, Cond.static yX6_power, Cond.code yX6_power cX6_power 4 (some .int)]
def wsL_law_r32 : List Cond := [Cond.methodLink RL 110 yX5_seed, Cond.instanceMethod yX5_seed, Cond.selects RX5 yX5_seed yX5_seed, Cond.code yX5_seed cX5_seed 5 (some .long), Cond.methodLink RL 114 yX6_seed, Cond.instanceMethod yX6_seed, Cond.selects RX6 yX6_seed yX6_seed, Cond.code yX6_seed cX6_seed 5 (some .long), Cond.fieldLink RX6 249 "ZoneBeltModel" "seed" "J", Cond.methodLink RL 115 yX5_drawn, Cond.instanceMethod yX5_drawn, Cond.selects RX5 yX5_drawn yX5_drawn, Cond.code yX5_drawn cX5_drawn 4 (some .int), Cond.constantLong RX5 212 (6364136223846793005), Cond.constantLong RX5 214 (1442695040888963407), Cond.methodLink RL 118 yX6_drawn, Cond.instanceMethod yX6_drawn, Cond.selects RX6 yX6_drawn yX6_drawn, Cond.code yX6_drawn cX6_drawn 4 (some .int), Cond.constantLong RX6 253 (40), Cond.constantLong RX6 255 (6364136223846793005), Cond.constantLong RX6 257 (1442695040888963407), Cond.methodLink RL 119 yX5_keep, Cond.instanceMethod yX5_keep]
def wsL_law_r33 : List Cond := [Cond.selects RX5 yX5_keep yX5_keep, Cond.code yX5_keep cX5_keep 2 (some .int), Cond.methodLink RL 122 yX6_keep, Cond.instanceMethod yX6_keep, Cond.selects RX6 yX6_keep yX6_keep, Cond.code yX6_keep cX6_keep 3 (some .int), Cond.methodLink RL 123 yX5_again, Cond.instanceMethod yX5_again, Cond.selects RX5 yX5_again yX5_again, Cond.code yX5_again cX5_again 2 (some .int), Cond.methodLink RL 126 yX6_again, Cond.instanceMethod yX6_again, Cond.selects RX6 yX6_again yX6_again, Cond.code yX6_again cX6_again 3 (some .int), Cond.methodLink RL 127 yX5_count, Cond.instanceMethod yX5_count, Cond.selects RX5 yX5_count yX5_count, Cond.code yX5_count cX5_count 2 (some .int), Cond.fieldLink RX5 227 "ZoneBelt$Belt" "mainZones" "I", Cond.fieldLink RX5 230 "ZoneBelt$Belt" "sideZones" "I", Cond.fieldLink RX5 233 "ZoneBelt$Belt" "meeting" "I", Cond.methodLink RL 130 yX6_count, Cond.instanceMethod yX6_count, Cond.selects RX6 yX6_count yX6_count]
def wsL_law_r34 : List Cond := [Cond.code yX6_count cX6_count 2 (some .int)]
def wsL_law : List Cond := (wsL_law_r1 ++ (wsL_law_r2 ++ (wsL_law_r3 ++ (wsL_law_r4 ++ (wsL_law_r5 ++ (wsL_law_r6 ++ (wsL_law_r7 ++ (wsL_law_r8 ++ (wsL_law_r9 ++ (wsL_law_r10 ++ (wsL_law_r11 ++ (wsL_law_r12 ++ (wsL_law_r13 ++ (wsL_law_r14 ++ (wsL_law_r15 ++ (wsL_law_r16 ++ (wsL_law_r17 ++ (wsL_law_r18 ++ (wsL_law_r19 ++ (wsL_law_r20 ++ (wsL_law_r21 ++ (wsL_law_r22 ++ (wsL_law_r23 ++ (wsL_law_r24 ++ (wsL_law_r25 ++ (wsL_law_r26 ++ (wsL_law_r27 ++ (wsL_law_r28 ++ (wsL_law_r29 ++ (wsL_law_r30 ++ (wsL_law_r31 ++ (wsL_law_r32 ++ (wsL_law_r33 ++ wsL_law_r34))))))))))))))))))))))))))))))))) ++ wsX50 ++ wsX60 ++ wsX40 ++ wsX10 ++ wsX00 ++ wsX30 ++ wsX20 ++ ([] : List Cond)
theorem inlX0 : ∀ w ∈ wsX00, w ∈ wsL_law := fun _ h => List.mem_append_left _ (List.mem_append_left _ (List.mem_append_left _ (List.mem_append_right _ h)))
theorem inlX1 : ∀ w ∈ wsX10, w ∈ wsL_law := fun _ h => List.mem_append_left _ (List.mem_append_left _ (List.mem_append_left _ (List.mem_append_left _ (List.mem_append_right _ h))))
theorem inlX2 : ∀ w ∈ wsX20, w ∈ wsL_law := fun _ h => List.mem_append_left _ (List.mem_append_right _ h)
theorem inlX3 : ∀ w ∈ wsX30, w ∈ wsL_law := fun _ h => List.mem_append_left _ (List.mem_append_left _ (List.mem_append_right _ h))
theorem inlX4 : ∀ w ∈ wsX40, w ∈ wsL_law := fun _ h => List.mem_append_left _ (List.mem_append_left _ (List.mem_append_left _ (List.mem_append_left _ (List.mem_append_left _ (List.mem_append_right _ h)))))
theorem inlX5 : ∀ w ∈ wsX50, w ∈ wsL_law := fun _ h => List.mem_append_left _ (List.mem_append_left _ (List.mem_append_left _ (List.mem_append_left _ (List.mem_append_left _ (List.mem_append_left _ (List.mem_append_left _ (List.mem_append_right _ h)))))))
theorem inlX6 : ∀ w ∈ wsX60, w ∈ wsL_law := fun _ h => List.mem_append_left _ (List.mem_append_left _ (List.mem_append_left _ (List.mem_append_left _ (List.mem_append_left _ (List.mem_append_left _ (List.mem_append_right _ h))))))
abbrev vwCl : List vw_C := [(RX0, TX0, 3), (RX1, TX1, 6), (RX2, TX2, 4), (RX3, TX3, 2), (RX4, TX4, 2), (RX5, TX5, 12), (RX6, TX6, 27)]
end
section
theorem zw_good : wsL_law.all goodWord = true := by decide +kernel
theorem zw_0 : (Cond.classLink RL 7 RX5) ∈ wsL_law := List.mem_of_getElem? (i := 0) (by decide +kernel)
theorem zw_1 : (Cond.instantiable RX5 12) ∈ wsL_law := List.mem_of_getElem? (i := 1) (by decide +kernel)
theorem zw_2 : (Cond.initialized RX5) ∈ wsL_law := List.mem_of_getElem? (i := 2) (by decide +kernel)
theorem zw_3 : (Cond.classLink RL 10 RX6) ∈ wsL_law := List.mem_of_getElem? (i := 3) (by decide +kernel)
theorem zw_4 : (Cond.instantiable RX6 27) ∈ wsL_law := List.mem_of_getElem? (i := 4) (by decide +kernel)
theorem zw_5 : (Cond.initialized RX6) ∈ wsL_law := List.mem_of_getElem? (i := 5) (by decide +kernel)
theorem zw_6 : (Cond.constantLong RL 81 (4294967295)) ∈ wsL_law := List.mem_of_getElem? (i := 6) (by decide +kernel)
theorem zw_7 : (Cond.methodLink RL 9 yX5_init) ∈ wsL_law := List.mem_of_getElem? (i := 7) (by decide +kernel)
theorem zw_8 : (Cond.instanceMethod yX5_init) ∈ wsL_law := List.mem_of_getElem? (i := 8) (by decide +kernel)
theorem zw_9 : (Cond.code yX5_init cX5_init 1 none) ∈ wsL_law := List.mem_of_getElem? (i := 9) (by decide +kernel)
theorem zw_10 : (Cond.methodLink RX5 1 objectInit) ∈ wsL_law := List.mem_of_getElem? (i := 10) (by decide +kernel)
theorem zw_11 : (Cond.instanceMethod objectInit) ∈ wsL_law := List.mem_of_getElem? (i := 11) (by decide +kernel)
theorem zw_12 : (Cond.code objectInit ⟨#[0xb1]⟩ 1 none) ∈ wsL_law := List.mem_of_getElem? (i := 12) (by decide +kernel)
theorem zw_13 : (Cond.classLink RX5 7 RX4) ∈ wsL_law := List.mem_of_getElem? (i := 13) (by decide +kernel)
theorem zw_14 : (Cond.instantiable RX4 2) ∈ wsL_law := List.mem_of_getElem? (i := 14) (by decide +kernel)
theorem zw_15 : (Cond.initialized RX4) ∈ wsL_law := List.mem_of_getElem? (i := 15) (by decide +kernel)
theorem zw_16 : (Cond.fieldLink RX5 10 "ZoneBelt" "text" "LZoneBelt$Text;") ∈ wsL_law := List.mem_of_getElem? (i := 16) (by decide +kernel)
theorem zw_17 : (Cond.classLink RX5 16 RX1) ∈ wsL_law := List.mem_of_getElem? (i := 17) (by decide +kernel)
theorem zw_18 : (Cond.instantiable RX1 6) ∈ wsL_law := List.mem_of_getElem? (i := 18) (by decide +kernel)
theorem zw_19 : (Cond.initialized RX1) ∈ wsL_law := List.mem_of_getElem? (i := 19) (by decide +kernel)
theorem zw_20 : (Cond.fieldLink RX5 19 "ZoneBelt" "now" "LZoneBelt$Belt;") ∈ wsL_law := List.mem_of_getElem? (i := 20) (by decide +kernel)
theorem zw_21 : (Cond.fieldLink RX5 23 "ZoneBelt" "trial" "LZoneBelt$Belt;") ∈ wsL_law := List.mem_of_getElem? (i := 21) (by decide +kernel)
theorem zw_22 : (Cond.classLink RX5 26 RX0) ∈ wsL_law := List.mem_of_getElem? (i := 22) (by decide +kernel)
theorem zw_23 : (Cond.instantiable RX0 3) ∈ wsL_law := List.mem_of_getElem? (i := 23) (by decide +kernel)
theorem zw_24 : (Cond.initialized RX0) ∈ wsL_law := List.mem_of_getElem? (i := 24) (by decide +kernel)
theorem zw_25 : (Cond.fieldLink RX5 29 "ZoneBelt" "acts" "LZoneBelt$Acts;") ∈ wsL_law := List.mem_of_getElem? (i := 25) (by decide +kernel)
theorem zw_26 : (Cond.classLink RX5 33 RX3) ∈ wsL_law := List.mem_of_getElem? (i := 26) (by decide +kernel)
theorem zw_27 : (Cond.instantiable RX3 2) ∈ wsL_law := List.mem_of_getElem? (i := 27) (by decide +kernel)
theorem zw_28 : (Cond.initialized RX3) ∈ wsL_law := List.mem_of_getElem? (i := 28) (by decide +kernel)
theorem zw_29 : (Cond.fieldLink RX5 38 "ZoneBelt" "slots" "LZoneBelt$Store;") ∈ wsL_law := List.mem_of_getElem? (i := 29) (by decide +kernel)
theorem zw_30 : (Cond.fieldLink RX5 42 "ZoneBelt" "keptSlots" "I") ∈ wsL_law := List.mem_of_getElem? (i := 30) (by decide +kernel)
theorem zw_31 : (Cond.fieldLink RX5 46 "ZoneBelt" "branches" "LZoneBelt$Store;") ∈ wsL_law := List.mem_of_getElem? (i := 31) (by decide +kernel)
theorem zw_32 : (Cond.classLink RX5 49 RX2) ∈ wsL_law := List.mem_of_getElem? (i := 32) (by decide +kernel)
theorem zw_33 : (Cond.instantiable RX2 4) ∈ wsL_law := List.mem_of_getElem? (i := 33) (by decide +kernel)
theorem zw_34 : (Cond.initialized RX2) ∈ wsL_law := List.mem_of_getElem? (i := 34) (by decide +kernel)
theorem zw_35 : (Cond.fieldLink RX5 52 "ZoneBelt" "sightings" "LZoneBelt$Sightings;") ∈ wsL_law := List.mem_of_getElem? (i := 35) (by decide +kernel)
theorem zw_36 : (Cond.arrayClass .int) ∈ wsL_law := List.mem_of_getElem? (i := 36) (by decide +kernel)
theorem zw_37 : (Cond.fieldLink RX5 56 "ZoneBelt" "doings" "[I") ∈ wsL_law := List.mem_of_getElem? (i := 37) (by decide +kernel)
theorem zw_38 : (Cond.fieldLink RX5 60 "ZoneBelt" "unsound" "[I") ∈ wsL_law := List.mem_of_getElem? (i := 38) (by decide +kernel)
theorem zw_39 : (Cond.fieldLink RX5 63 "ZoneBelt" "outIfMended" "[I") ∈ wsL_law := List.mem_of_getElem? (i := 39) (by decide +kernel)
theorem zw_40 : (Cond.fieldLink RX5 66 "ZoneBelt" "seedNow" "J") ∈ wsL_law := List.mem_of_getElem? (i := 40) (by decide +kernel)
theorem zw_41 : (Cond.methodLink RX5 9 yX4_init) ∈ wsL_law := List.mem_of_getElem? (i := 41) (by decide +kernel)
theorem zw_42 : (Cond.instanceMethod yX4_init) ∈ wsL_law := List.mem_of_getElem? (i := 42) (by decide +kernel)
theorem zw_43 : (Cond.code yX4_init cX4_init 1 none) ∈ wsL_law := List.mem_of_getElem? (i := 43) (by decide +kernel)
theorem zw_44 : (Cond.methodLink RX4 3 objectInit) ∈ wsL_law := List.mem_of_getElem? (i := 44) (by decide +kernel)
theorem zw_45 : (Cond.fieldLink RX4 11 "ZoneBelt$Text" "letters" "[I") ∈ wsL_law := List.mem_of_getElem? (i := 45) (by decide +kernel)
theorem zw_46 : (Cond.fieldLink RX4 15 "ZoneBelt$Text" "length" "I") ∈ wsL_law := List.mem_of_getElem? (i := 46) (by decide +kernel)
theorem zw_47 : (Cond.methodLink RX5 18 yX1_init) ∈ wsL_law := List.mem_of_getElem? (i := 47) (by decide +kernel)
theorem zw_48 : (Cond.instanceMethod yX1_init) ∈ wsL_law := List.mem_of_getElem? (i := 48) (by decide +kernel)
theorem zw_49 : (Cond.code yX1_init cX1_init 1 none) ∈ wsL_law := List.mem_of_getElem? (i := 49) (by decide +kernel)
theorem zw_50 : (Cond.methodLink RX1 3 objectInit) ∈ wsL_law := List.mem_of_getElem? (i := 50) (by decide +kernel)
theorem zw_51 : (Cond.fieldLink RX1 9 "ZoneBelt$Belt" "mainZones" "I") ∈ wsL_law := List.mem_of_getElem? (i := 51) (by decide +kernel)
theorem zw_52 : (Cond.fieldLink RX1 15 "ZoneBelt$Belt" "sideZones" "I") ∈ wsL_law := List.mem_of_getElem? (i := 52) (by decide +kernel)
theorem zw_53 : (Cond.fieldLink RX1 18 "ZoneBelt$Belt" "zones" "I") ∈ wsL_law := List.mem_of_getElem? (i := 53) (by decide +kernel)
theorem zw_54 : (Cond.fieldLink RX1 21 "ZoneBelt$Belt" "meeting" "I") ∈ wsL_law := List.mem_of_getElem? (i := 54) (by decide +kernel)
theorem zw_55 : (Cond.fieldLink RX1 24 "ZoneBelt$Belt" "cells" "[I") ∈ wsL_law := List.mem_of_getElem? (i := 55) (by decide +kernel)
theorem zw_56 : (Cond.fieldLink RX1 28 "ZoneBelt$Belt" "justOut" "I") ∈ wsL_law := List.mem_of_getElem? (i := 56) (by decide +kernel)
theorem zw_57 : (Cond.methodLink RX5 28 yX0_init) ∈ wsL_law := List.mem_of_getElem? (i := 57) (by decide +kernel)
theorem zw_58 : (Cond.instanceMethod yX0_init) ∈ wsL_law := List.mem_of_getElem? (i := 58) (by decide +kernel)
theorem zw_59 : (Cond.code yX0_init cX0_init 1 none) ∈ wsL_law := List.mem_of_getElem? (i := 59) (by decide +kernel)
theorem zw_60 : (Cond.methodLink RX0 3 objectInit) ∈ wsL_law := List.mem_of_getElem? (i := 60) (by decide +kernel)
theorem zw_61 : (Cond.classLink RX0 9 RX3) ∈ wsL_law := List.mem_of_getElem? (i := 61) (by decide +kernel)
theorem zw_62 : (Cond.fieldLink RX0 14 "ZoneBelt$Acts" "before" "LZoneBelt$Store;") ∈ wsL_law := List.mem_of_getElem? (i := 62) (by decide +kernel)
theorem zw_63 : (Cond.fieldLink RX0 20 "ZoneBelt$Acts" "next" "I") ∈ wsL_law := List.mem_of_getElem? (i := 63) (by decide +kernel)
theorem zw_64 : (Cond.fieldLink RX0 24 "ZoneBelt$Acts" "size" "I") ∈ wsL_law := List.mem_of_getElem? (i := 64) (by decide +kernel)
theorem zw_65 : (Cond.methodLink RX0 11 yX3_init) ∈ wsL_law := List.mem_of_getElem? (i := 65) (by decide +kernel)
theorem zw_66 : (Cond.instanceMethod yX3_init) ∈ wsL_law := List.mem_of_getElem? (i := 66) (by decide +kernel)
theorem zw_67 : (Cond.code yX3_init cX3_init 2 none) ∈ wsL_law := List.mem_of_getElem? (i := 67) (by decide +kernel)
theorem zw_68 : (Cond.methodLink RX3 1 objectInit) ∈ wsL_law := List.mem_of_getElem? (i := 68) (by decide +kernel)
theorem zw_69 : (Cond.methodLink RX3 7 Lib.Math.max.name) ∈ wsL_law := List.mem_of_getElem? (i := 69) (by decide +kernel)
theorem zw_70 : (Cond.static Lib.Math.max.name) ∈ wsL_law := List.mem_of_getElem? (i := 70) (by decide +kernel)
theorem zw_71 : (Cond.initialized "java/lang/Math") ∈ wsL_law := List.mem_of_getElem? (i := 71) (by decide +kernel)
theorem zw_72 : (Cond.code Lib.Math.max.name Lib.Math.max.code 2 (some .int)) ∈ wsL_law := List.mem_of_getElem? (i := 72) (by decide +kernel)
theorem zw_73 : (Cond.fieldLink RX3 13 "ZoneBelt$Store" "places" "I") ∈ wsL_law := List.mem_of_getElem? (i := 73) (by decide +kernel)
theorem zw_74 : (Cond.fieldLink RX3 21 "ZoneBelt$Store" "cells" "[I") ∈ wsL_law := List.mem_of_getElem? (i := 74) (by decide +kernel)
theorem zw_75 : (Cond.methodLink RX5 35 yX3_init) ∈ wsL_law := List.mem_of_getElem? (i := 75) (by decide +kernel)
theorem zw_76 : (Cond.methodLink RX5 51 yX2_init) ∈ wsL_law := List.mem_of_getElem? (i := 76) (by decide +kernel)
theorem zw_77 : (Cond.instanceMethod yX2_init) ∈ wsL_law := List.mem_of_getElem? (i := 77) (by decide +kernel)
theorem zw_78 : (Cond.code yX2_init cX2_init 1 none) ∈ wsL_law := List.mem_of_getElem? (i := 78) (by decide +kernel)
theorem zw_79 : (Cond.methodLink RX2 1 objectInit) ∈ wsL_law := List.mem_of_getElem? (i := 79) (by decide +kernel)
theorem zw_80 : (Cond.fieldLink RX2 9 "ZoneBelt$Sightings" "behindSteps" "[I") ∈ wsL_law := List.mem_of_getElem? (i := 80) (by decide +kernel)
theorem zw_81 : (Cond.fieldLink RX2 13 "ZoneBelt$Sightings" "outs" "[I") ∈ wsL_law := List.mem_of_getElem? (i := 81) (by decide +kernel)
theorem zw_82 : (Cond.fieldLink RX2 16 "ZoneBelt$Sightings" "truths" "[I") ∈ wsL_law := List.mem_of_getElem? (i := 82) (by decide +kernel)
theorem zw_83 : (Cond.fieldLink RX2 19 "ZoneBelt$Sightings" "size" "I") ∈ wsL_law := List.mem_of_getElem? (i := 83) (by decide +kernel)
theorem zw_84 : (Cond.methodLink RL 12 yX6_init) ∈ wsL_law := List.mem_of_getElem? (i := 84) (by decide +kernel)
theorem zw_85 : (Cond.instanceMethod yX6_init) ∈ wsL_law := List.mem_of_getElem? (i := 85) (by decide +kernel)
theorem zw_86 : (Cond.code yX6_init cX6_init 1 none) ∈ wsL_law := List.mem_of_getElem? (i := 86) (by decide +kernel)
theorem zw_87 : (Cond.methodLink RX6 1 objectInit) ∈ wsL_law := List.mem_of_getElem? (i := 87) (by decide +kernel)
theorem zw_88 : (Cond.fieldLink RX6 7 "ZoneBeltModel" "text" "[I") ∈ wsL_law := List.mem_of_getElem? (i := 88) (by decide +kernel)
theorem zw_89 : (Cond.fieldLink RX6 13 "ZoneBeltModel" "main" "I") ∈ wsL_law := List.mem_of_getElem? (i := 89) (by decide +kernel)
theorem zw_90 : (Cond.fieldLink RX6 17 "ZoneBeltModel" "meet" "I") ∈ wsL_law := List.mem_of_getElem? (i := 90) (by decide +kernel)
theorem zw_91 : (Cond.fieldLink RX6 20 "ZoneBeltModel" "readPage" "[I") ∈ wsL_law := List.mem_of_getElem? (i := 91) (by decide +kernel)
theorem zw_92 : (Cond.fieldLink RX6 23 "ZoneBeltModel" "page" "[I") ∈ wsL_law := List.mem_of_getElem? (i := 92) (by decide +kernel)
theorem zw_93 : (Cond.fieldLink RX6 26 "ZoneBeltModel" "trial" "[I") ∈ wsL_law := List.mem_of_getElem? (i := 93) (by decide +kernel)
theorem zw_94 : (Cond.fieldLink RX6 29 "ZoneBeltModel" "book" "[I") ∈ wsL_law := List.mem_of_getElem? (i := 94) (by decide +kernel)
theorem zw_95 : (Cond.fieldLink RX6 32 "ZoneBeltModel" "kept" "[I") ∈ wsL_law := List.mem_of_getElem? (i := 95) (by decide +kernel)
theorem zw_96 : (Cond.arrayClass .boolean) ∈ wsL_law := List.mem_of_getElem? (i := 96) (by decide +kernel)
theorem zw_97 : (Cond.fieldLink RX6 35 "ZoneBeltModel" "isKept" "[Z") ∈ wsL_law := List.mem_of_getElem? (i := 97) (by decide +kernel)
theorem zw_98 : (Cond.fieldLink RX6 39 "ZoneBeltModel" "seenBehind" "[I") ∈ wsL_law := List.mem_of_getElem? (i := 98) (by decide +kernel)
theorem zw_99 : (Cond.fieldLink RX6 42 "ZoneBeltModel" "seenGone" "[I") ∈ wsL_law := List.mem_of_getElem? (i := 99) (by decide +kernel)
theorem zw_100 : (Cond.fieldLink RX6 45 "ZoneBeltModel" "seenWas" "[I") ∈ wsL_law := List.mem_of_getElem? (i := 100) (by decide +kernel)
theorem zw_101 : (Cond.methodLink RL 13 yX5_write) ∈ wsL_law := List.mem_of_getElem? (i := 101) (by decide +kernel)
theorem zw_102 : (Cond.instanceMethod yX5_write) ∈ wsL_law := List.mem_of_getElem? (i := 102) (by decide +kernel)
theorem zw_103 : (Cond.selects RX5 yX5_write yX5_write) ∈ wsL_law := List.mem_of_getElem? (i := 103) (by decide +kernel)
theorem zw_104 : (Cond.code yX5_write cX5_write 2 (some .int)) ∈ wsL_law := List.mem_of_getElem? (i := 104) (by decide +kernel)
theorem zw_105 : (Cond.fieldLink RX5 74 "ZoneBelt$Text" "length" "I") ∈ wsL_law := List.mem_of_getElem? (i := 105) (by decide +kernel)
theorem zw_106 : (Cond.methodLink RX5 70 yX4_append) ∈ wsL_law := List.mem_of_getElem? (i := 106) (by decide +kernel)
theorem zw_107 : (Cond.instanceMethod yX4_append) ∈ wsL_law := List.mem_of_getElem? (i := 107) (by decide +kernel)
theorem zw_108 : (Cond.selects RX4 yX4_append yX4_append) ∈ wsL_law := List.mem_of_getElem? (i := 108) (by decide +kernel)
theorem zw_109 : (Cond.code yX4_append cX4_append 2 (some .boolean)) ∈ wsL_law := List.mem_of_getElem? (i := 109) (by decide +kernel)
theorem zw_110 : (Cond.methodLink RL 17 yX6_write) ∈ wsL_law := List.mem_of_getElem? (i := 110) (by decide +kernel)
theorem zw_111 : (Cond.instanceMethod yX6_write) ∈ wsL_law := List.mem_of_getElem? (i := 111) (by decide +kernel)
theorem zw_112 : (Cond.selects RX6 yX6_write yX6_write) ∈ wsL_law := List.mem_of_getElem? (i := 112) (by decide +kernel)
theorem zw_113 : (Cond.code yX6_write cX6_write 2 (some .int)) ∈ wsL_law := List.mem_of_getElem? (i := 113) (by decide +kernel)
theorem zw_114 : (Cond.fieldLink RX6 48 "ZoneBeltModel" "thrown" "I") ∈ wsL_law := List.mem_of_getElem? (i := 114) (by decide +kernel)
theorem zw_115 : (Cond.constantLong RX6 62 (255)) ∈ wsL_law := List.mem_of_getElem? (i := 115) (by decide +kernel)
theorem zw_116 : (Cond.fieldLink RX6 64 "ZoneBeltModel" "textSize" "I") ∈ wsL_law := List.mem_of_getElem? (i := 116) (by decide +kernel)
theorem zw_117 : (Cond.methodLink RX6 58 yX6_in) ∈ wsL_law := List.mem_of_getElem? (i := 117) (by decide +kernel)
theorem zw_118 : (Cond.static yX6_in) ∈ wsL_law := List.mem_of_getElem? (i := 118) (by decide +kernel)
theorem zw_119 : (Cond.code yX6_in cX6_in 6 (some .boolean)) ∈ wsL_law := List.mem_of_getElem? (i := 119) (by decide +kernel)
theorem zw_120 : (Cond.methodLink RL 18 yX5_wipe) ∈ wsL_law := List.mem_of_getElem? (i := 120) (by decide +kernel)
theorem zw_121 : (Cond.instanceMethod yX5_wipe) ∈ wsL_law := List.mem_of_getElem? (i := 121) (by decide +kernel)
theorem zw_122 : (Cond.selects RX5 yX5_wipe yX5_wipe) ∈ wsL_law := List.mem_of_getElem? (i := 122) (by decide +kernel)
theorem zw_123 : (Cond.code yX5_wipe cX5_wipe 2 (some .int)) ∈ wsL_law := List.mem_of_getElem? (i := 123) (by decide +kernel)
theorem zw_124 : (Cond.methodLink RL 22 yX6_wipe) ∈ wsL_law := List.mem_of_getElem? (i := 124) (by decide +kernel)
theorem zw_125 : (Cond.instanceMethod yX6_wipe) ∈ wsL_law := List.mem_of_getElem? (i := 125) (by decide +kernel)
theorem zw_126 : (Cond.selects RX6 yX6_wipe yX6_wipe) ∈ wsL_law := List.mem_of_getElem? (i := 126) (by decide +kernel)
theorem zw_127 : (Cond.code yX6_wipe cX6_wipe 2 (some .int)) ∈ wsL_law := List.mem_of_getElem? (i := 127) (by decide +kernel)
theorem zw_128 : (Cond.methodLink RL 23 yX5_fault) ∈ wsL_law := List.mem_of_getElem? (i := 128) (by decide +kernel)
theorem zw_129 : (Cond.instanceMethod yX5_fault) ∈ wsL_law := List.mem_of_getElem? (i := 129) (by decide +kernel)
theorem zw_130 : (Cond.selects RX5 yX5_fault yX5_fault) ∈ wsL_law := List.mem_of_getElem? (i := 130) (by decide +kernel)
theorem zw_131 : (Cond.code yX5_fault cX5_fault 1 (some .int)) ∈ wsL_law := List.mem_of_getElem? (i := 131) (by decide +kernel)
theorem zw_132 : (Cond.methodLink RX5 77 yX4_firstFault) ∈ wsL_law := List.mem_of_getElem? (i := 132) (by decide +kernel)
theorem zw_133 : (Cond.instanceMethod yX4_firstFault) ∈ wsL_law := List.mem_of_getElem? (i := 133) (by decide +kernel)
theorem zw_134 : (Cond.selects RX4 yX4_firstFault yX4_firstFault) ∈ wsL_law := List.mem_of_getElem? (i := 134) (by decide +kernel)
theorem zw_135 : (Cond.code yX4_firstFault cX4_firstFault 3 (some .int)) ∈ wsL_law := List.mem_of_getElem? (i := 135) (by decide +kernel)
theorem zw_136 : (Cond.methodLink RX4 19 yX4_fits) ∈ wsL_law := List.mem_of_getElem? (i := 136) (by decide +kernel)
theorem zw_137 : (Cond.instanceMethod yX4_fits) ∈ wsL_law := List.mem_of_getElem? (i := 137) (by decide +kernel)
theorem zw_138 : (Cond.selects RX4 yX4_fits yX4_fits) ∈ wsL_law := List.mem_of_getElem? (i := 138) (by decide +kernel)
theorem zw_139 : (Cond.code yX4_fits cX4_fits 3 (some .boolean)) ∈ wsL_law := List.mem_of_getElem? (i := 139) (by decide +kernel)
theorem zw_140 : (Cond.methodLink RX4 46 yX4_isFigure) ∈ wsL_law := List.mem_of_getElem? (i := 140) (by decide +kernel)
theorem zw_141 : (Cond.instanceMethod yX4_isFigure) ∈ wsL_law := List.mem_of_getElem? (i := 141) (by decide +kernel)
theorem zw_142 : (Cond.selects RX4 yX4_isFigure yX4_isFigure) ∈ wsL_law := List.mem_of_getElem? (i := 142) (by decide +kernel)
theorem zw_143 : (Cond.code yX4_isFigure cX4_isFigure 4 (some .boolean)) ∈ wsL_law := List.mem_of_getElem? (i := 143) (by decide +kernel)
theorem zw_144 : (Cond.methodLink RX4 27 yX4_figure) ∈ wsL_law := List.mem_of_getElem? (i := 144) (by decide +kernel)
theorem zw_145 : (Cond.instanceMethod yX4_figure) ∈ wsL_law := List.mem_of_getElem? (i := 145) (by decide +kernel)
theorem zw_146 : (Cond.selects RX4 yX4_figure yX4_figure) ∈ wsL_law := List.mem_of_getElem? (i := 146) (by decide +kernel)
theorem zw_147 : (Cond.code yX4_figure cX4_figure 2 (some .int)) ∈ wsL_law := List.mem_of_getElem? (i := 147) (by decide +kernel)
theorem zw_148 : (Cond.methodLink RX4 50 yX4_fitsCarton) ∈ wsL_law := List.mem_of_getElem? (i := 148) (by decide +kernel)
theorem zw_149 : (Cond.instanceMethod yX4_fitsCarton) ∈ wsL_law := List.mem_of_getElem? (i := 149) (by decide +kernel)
theorem zw_150 : (Cond.selects RX4 yX4_fitsCarton yX4_fitsCarton) ∈ wsL_law := List.mem_of_getElem? (i := 150) (by decide +kernel)
theorem zw_151 : (Cond.code yX4_fitsCarton cX4_fitsCarton 3 (some .boolean)) ∈ wsL_law := List.mem_of_getElem? (i := 151) (by decide +kernel)
theorem zw_152 : (Cond.methodLink RX4 23 yX4_zoneEndingAt) ∈ wsL_law := List.mem_of_getElem? (i := 152) (by decide +kernel)
theorem zw_153 : (Cond.instanceMethod yX4_zoneEndingAt) ∈ wsL_law := List.mem_of_getElem? (i := 153) (by decide +kernel)
theorem zw_154 : (Cond.selects RX4 yX4_zoneEndingAt yX4_zoneEndingAt) ∈ wsL_law := List.mem_of_getElem? (i := 154) (by decide +kernel)
theorem zw_155 : (Cond.code yX4_zoneEndingAt cX4_zoneEndingAt 2 (some .int)) ∈ wsL_law := List.mem_of_getElem? (i := 155) (by decide +kernel)
theorem zw_156 : (Cond.methodLink RX4 53 yX1_in) ∈ wsL_law := List.mem_of_getElem? (i := 156) (by decide +kernel)
theorem zw_157 : (Cond.static yX1_in) ∈ wsL_law := List.mem_of_getElem? (i := 157) (by decide +kernel)
theorem zw_158 : (Cond.code yX1_in cX1_in 2 (some .boolean)) ∈ wsL_law := List.mem_of_getElem? (i := 158) (by decide +kernel)
theorem zw_159 : (Cond.methodLink RL 26 yX6_fault) ∈ wsL_law := List.mem_of_getElem? (i := 159) (by decide +kernel)
theorem zw_160 : (Cond.instanceMethod yX6_fault) ∈ wsL_law := List.mem_of_getElem? (i := 160) (by decide +kernel)
theorem zw_161 : (Cond.selects RX6 yX6_fault yX6_fault) ∈ wsL_law := List.mem_of_getElem? (i := 161) (by decide +kernel)
theorem zw_162 : (Cond.code yX6_fault cX6_fault 1 (some .int)) ∈ wsL_law := List.mem_of_getElem? (i := 162) (by decide +kernel)
theorem zw_163 : (Cond.methodLink RX6 96 yX6_readBelt) ∈ wsL_law := List.mem_of_getElem? (i := 163) (by decide +kernel)
theorem zw_164 : (Cond.instanceMethod yX6_readBelt) ∈ wsL_law := List.mem_of_getElem? (i := 164) (by decide +kernel)
theorem zw_165 : (Cond.selects RX6 yX6_readBelt yX6_readBelt) ∈ wsL_law := List.mem_of_getElem? (i := 165) (by decide +kernel)
theorem zw_166 : (Cond.code yX6_readBelt cX6_readBelt 2 (some .int)) ∈ wsL_law := List.mem_of_getElem? (i := 166) (by decide +kernel)
theorem zw_167 : (Cond.fieldLink RX6 67 "ZoneBeltModel" "place" "I") ∈ wsL_law := List.mem_of_getElem? (i := 167) (by decide +kernel)
theorem zw_168 : (Cond.methodLink RX6 89 yX6_readHead) ∈ wsL_law := List.mem_of_getElem? (i := 168) (by decide +kernel)
theorem zw_169 : (Cond.instanceMethod yX6_readHead) ∈ wsL_law := List.mem_of_getElem? (i := 169) (by decide +kernel)
theorem zw_170 : (Cond.selects RX6 yX6_readHead yX6_readHead) ∈ wsL_law := List.mem_of_getElem? (i := 170) (by decide +kernel)
theorem zw_171 : (Cond.code yX6_readHead cX6_readHead 1 (some .boolean)) ∈ wsL_law := List.mem_of_getElem? (i := 171) (by decide +kernel)
theorem zw_172 : (Cond.fieldLink RX6 74 "ZoneBeltModel" "readMain" "I") ∈ wsL_law := List.mem_of_getElem? (i := 172) (by decide +kernel)
theorem zw_173 : (Cond.fieldLink RX6 77 "ZoneBeltModel" "readSide" "I") ∈ wsL_law := List.mem_of_getElem? (i := 173) (by decide +kernel)
theorem zw_174 : (Cond.fieldLink RX6 80 "ZoneBeltModel" "readMeet" "I") ∈ wsL_law := List.mem_of_getElem? (i := 174) (by decide +kernel)
theorem zw_175 : (Cond.methodLink RX6 70 yX6_figure) ∈ wsL_law := List.mem_of_getElem? (i := 175) (by decide +kernel)
theorem zw_176 : (Cond.instanceMethod yX6_figure) ∈ wsL_law := List.mem_of_getElem? (i := 176) (by decide +kernel)
theorem zw_177 : (Cond.selects RX6 yX6_figure yX6_figure) ∈ wsL_law := List.mem_of_getElem? (i := 177) (by decide +kernel)
theorem zw_178 : (Cond.code yX6_figure cX6_figure 4 (some .int)) ∈ wsL_law := List.mem_of_getElem? (i := 178) (by decide +kernel)
theorem zw_179 : (Cond.methodLink RX6 93 yX6_readCarton) ∈ wsL_law := List.mem_of_getElem? (i := 179) (by decide +kernel)
theorem zw_180 : (Cond.instanceMethod yX6_readCarton) ∈ wsL_law := List.mem_of_getElem? (i := 180) (by decide +kernel)
theorem zw_181 : (Cond.selects RX6 yX6_readCarton yX6_readCarton) ∈ wsL_law := List.mem_of_getElem? (i := 181) (by decide +kernel)
theorem zw_182 : (Cond.code yX6_readCarton cX6_readCarton 4 (some .boolean)) ∈ wsL_law := List.mem_of_getElem? (i := 182) (by decide +kernel)
theorem zw_183 : (Cond.constantLong RX6 87 (9)) ∈ wsL_law := List.mem_of_getElem? (i := 183) (by decide +kernel)
theorem zw_184 : (Cond.methodLink RX6 83 yX6_isFree) ∈ wsL_law := List.mem_of_getElem? (i := 184) (by decide +kernel)
theorem zw_185 : (Cond.instanceMethod yX6_isFree) ∈ wsL_law := List.mem_of_getElem? (i := 185) (by decide +kernel)
theorem zw_186 : (Cond.selects RX6 yX6_isFree yX6_isFree) ∈ wsL_law := List.mem_of_getElem? (i := 186) (by decide +kernel)
theorem zw_187 : (Cond.code yX6_isFree cX6_isFree 2 (some .boolean)) ∈ wsL_law := List.mem_of_getElem? (i := 187) (by decide +kernel)
theorem zw_188 : (Cond.methodLink RL 27 yX5_belt) ∈ wsL_law := List.mem_of_getElem? (i := 188) (by decide +kernel)
theorem zw_189 : (Cond.instanceMethod yX5_belt) ∈ wsL_law := List.mem_of_getElem? (i := 189) (by decide +kernel)
theorem zw_190 : (Cond.selects RX5 yX5_belt yX5_belt) ∈ wsL_law := List.mem_of_getElem? (i := 190) (by decide +kernel)
theorem zw_191 : (Cond.code yX5_belt cX5_belt 1 (some .int)) ∈ wsL_law := List.mem_of_getElem? (i := 191) (by decide +kernel)
theorem zw_192 : (Cond.fieldLink RX5 88 "ZoneBelt$Belt" "zones" "I") ∈ wsL_law := List.mem_of_getElem? (i := 192) (by decide +kernel)
theorem zw_193 : (Cond.methodLink RX5 81 yX4_layOut) ∈ wsL_law := List.mem_of_getElem? (i := 193) (by decide +kernel)
theorem zw_194 : (Cond.instanceMethod yX4_layOut) ∈ wsL_law := List.mem_of_getElem? (i := 194) (by decide +kernel)
theorem zw_195 : (Cond.selects RX4 yX4_layOut yX4_layOut) ∈ wsL_law := List.mem_of_getElem? (i := 195) (by decide +kernel)
theorem zw_196 : (Cond.code yX4_layOut cX4_layOut 4 none) ∈ wsL_law := List.mem_of_getElem? (i := 196) (by decide +kernel)
theorem zw_197 : (Cond.fieldLink RX4 36 "ZoneBelt$Belt" "cells" "[I") ∈ wsL_law := List.mem_of_getElem? (i := 197) (by decide +kernel)
theorem zw_198 : (Cond.methodLink RX4 30 yX1_begin) ∈ wsL_law := List.mem_of_getElem? (i := 198) (by decide +kernel)
theorem zw_199 : (Cond.instanceMethod yX1_begin) ∈ wsL_law := List.mem_of_getElem? (i := 199) (by decide +kernel)
theorem zw_200 : (Cond.selects RX1 yX1_begin yX1_begin) ∈ wsL_law := List.mem_of_getElem? (i := 200) (by decide +kernel)
theorem zw_201 : (Cond.code yX1_begin cX1_begin 5 none) ∈ wsL_law := List.mem_of_getElem? (i := 201) (by decide +kernel)
theorem zw_202 : (Cond.methodLink RX4 39 yX1_hasZone) ∈ wsL_law := List.mem_of_getElem? (i := 202) (by decide +kernel)
theorem zw_203 : (Cond.instanceMethod yX1_hasZone) ∈ wsL_law := List.mem_of_getElem? (i := 203) (by decide +kernel)
theorem zw_204 : (Cond.selects RX1 yX1_hasZone yX1_hasZone) ∈ wsL_law := List.mem_of_getElem? (i := 204) (by decide +kernel)
theorem zw_205 : (Cond.code yX1_hasZone cX1_hasZone 2 (some .boolean)) ∈ wsL_law := List.mem_of_getElem? (i := 205) (by decide +kernel)
theorem zw_206 : (Cond.methodLink RX4 43 yX1_putNext) ∈ wsL_law := List.mem_of_getElem? (i := 206) (by decide +kernel)
theorem zw_207 : (Cond.instanceMethod yX1_putNext) ∈ wsL_law := List.mem_of_getElem? (i := 207) (by decide +kernel)
theorem zw_208 : (Cond.selects RX1 yX1_putNext yX1_putNext) ∈ wsL_law := List.mem_of_getElem? (i := 208) (by decide +kernel)
theorem zw_209 : (Cond.code yX1_putNext cX1_putNext 2 (some .int)) ∈ wsL_law := List.mem_of_getElem? (i := 209) (by decide +kernel)
theorem zw_210 : (Cond.methodLink RX5 85 yX0_forgetAll) ∈ wsL_law := List.mem_of_getElem? (i := 210) (by decide +kernel)
theorem zw_211 : (Cond.instanceMethod yX0_forgetAll) ∈ wsL_law := List.mem_of_getElem? (i := 211) (by decide +kernel)
theorem zw_212 : (Cond.selects RX0 yX0_forgetAll yX0_forgetAll) ∈ wsL_law := List.mem_of_getElem? (i := 212) (by decide +kernel)
theorem zw_213 : (Cond.code yX0_forgetAll cX0_forgetAll 1 none) ∈ wsL_law := List.mem_of_getElem? (i := 213) (by decide +kernel)
theorem zw_214 : (Cond.methodLink RL 30 yX6_belt) ∈ wsL_law := List.mem_of_getElem? (i := 214) (by decide +kernel)
theorem zw_215 : (Cond.instanceMethod yX6_belt) ∈ wsL_law := List.mem_of_getElem? (i := 215) (by decide +kernel)
theorem zw_216 : (Cond.selects RX6 yX6_belt yX6_belt) ∈ wsL_law := List.mem_of_getElem? (i := 216) (by decide +kernel)
theorem zw_217 : (Cond.code yX6_belt cX6_belt 2 (some .int)) ∈ wsL_law := List.mem_of_getElem? (i := 217) (by decide +kernel)
theorem zw_218 : (Cond.fieldLink RX6 51 "ZoneBeltModel" "side" "I") ∈ wsL_law := List.mem_of_getElem? (i := 218) (by decide +kernel)
theorem zw_219 : (Cond.fieldLink RX6 99 "ZoneBeltModel" "doings" "I") ∈ wsL_law := List.mem_of_getElem? (i := 219) (by decide +kernel)
theorem zw_220 : (Cond.methodLink RX6 54 yX6_zones) ∈ wsL_law := List.mem_of_getElem? (i := 220) (by decide +kernel)
theorem zw_221 : (Cond.instanceMethod yX6_zones) ∈ wsL_law := List.mem_of_getElem? (i := 221) (by decide +kernel)
theorem zw_222 : (Cond.selects RX6 yX6_zones yX6_zones) ∈ wsL_law := List.mem_of_getElem? (i := 222) (by decide +kernel)
theorem zw_223 : (Cond.code yX6_zones cX6_zones 1 (some .int)) ∈ wsL_law := List.mem_of_getElem? (i := 223) (by decide +kernel)
theorem zw_224 : (Cond.methodLink RL 31 yX5_zone) ∈ wsL_law := List.mem_of_getElem? (i := 224) (by decide +kernel)
theorem zw_225 : (Cond.instanceMethod yX5_zone) ∈ wsL_law := List.mem_of_getElem? (i := 225) (by decide +kernel)
theorem zw_226 : (Cond.selects RX5 yX5_zone yX5_zone) ∈ wsL_law := List.mem_of_getElem? (i := 226) (by decide +kernel)
theorem zw_227 : (Cond.code yX5_zone cX5_zone 3 (some .int)) ∈ wsL_law := List.mem_of_getElem? (i := 227) (by decide +kernel)
theorem zw_228 : (Cond.methodLink RX5 91 yX1_hasZone) ∈ wsL_law := List.mem_of_getElem? (i := 228) (by decide +kernel)
theorem zw_229 : (Cond.methodLink RX5 94 yX5_factOf) ∈ wsL_law := List.mem_of_getElem? (i := 229) (by decide +kernel)
theorem zw_230 : (Cond.static yX5_factOf) ∈ wsL_law := List.mem_of_getElem? (i := 230) (by decide +kernel)
theorem zw_231 : (Cond.code yX5_factOf cX5_factOf 3 (some .int)) ∈ wsL_law := List.mem_of_getElem? (i := 231) (by decide +kernel)
theorem zw_232 : (Cond.fieldLink RX5 136 "ZoneBelt$Belt" "cells" "[I") ∈ wsL_law := List.mem_of_getElem? (i := 232) (by decide +kernel)
theorem zw_233 : (Cond.methodLink RX5 105 yX1_hasCarton) ∈ wsL_law := List.mem_of_getElem? (i := 233) (by decide +kernel)
theorem zw_234 : (Cond.instanceMethod yX1_hasCarton) ∈ wsL_law := List.mem_of_getElem? (i := 234) (by decide +kernel)
theorem zw_235 : (Cond.selects RX1 yX1_hasCarton yX1_hasCarton) ∈ wsL_law := List.mem_of_getElem? (i := 235) (by decide +kernel)
theorem zw_236 : (Cond.code yX1_hasCarton cX1_hasCarton 2 (some .boolean)) ∈ wsL_law := List.mem_of_getElem? (i := 236) (by decide +kernel)
theorem zw_237 : (Cond.methodLink RX5 239 yX1_seeing) ∈ wsL_law := List.mem_of_getElem? (i := 237) (by decide +kernel)
theorem zw_238 : (Cond.instanceMethod yX1_seeing) ∈ wsL_law := List.mem_of_getElem? (i := 238) (by decide +kernel)
theorem zw_239 : (Cond.selects RX1 yX1_seeing yX1_seeing) ∈ wsL_law := List.mem_of_getElem? (i := 239) (by decide +kernel)
theorem zw_240 : (Cond.code yX1_seeing cX1_seeing 4 (some .int)) ∈ wsL_law := List.mem_of_getElem? (i := 240) (by decide +kernel)
theorem zw_241 : (Cond.methodLink RX1 49 yX1_hasCarton) ∈ wsL_law := List.mem_of_getElem? (i := 241) (by decide +kernel)
theorem zw_242 : (Cond.methodLink RX5 220 yX1_in) ∈ wsL_law := List.mem_of_getElem? (i := 242) (by decide +kernel)
theorem zw_243 : (Cond.methodLink RX5 130 yX1_isJammed) ∈ wsL_law := List.mem_of_getElem? (i := 243) (by decide +kernel)
theorem zw_244 : (Cond.instanceMethod yX1_isJammed) ∈ wsL_law := List.mem_of_getElem? (i := 244) (by decide +kernel)
theorem zw_245 : (Cond.selects RX1 yX1_isJammed yX1_isJammed) ∈ wsL_law := List.mem_of_getElem? (i := 245) (by decide +kernel)
theorem zw_246 : (Cond.code yX1_isJammed cX1_isJammed 2 (some .boolean)) ∈ wsL_law := List.mem_of_getElem? (i := 246) (by decide +kernel)
theorem zw_247 : (Cond.methodLink RX1 37 yX1_in) ∈ wsL_law := List.mem_of_getElem? (i := 247) (by decide +kernel)
theorem zw_248 : (Cond.methodLink RL 35 yX6_zone) ∈ wsL_law := List.mem_of_getElem? (i := 248) (by decide +kernel)
theorem zw_249 : (Cond.instanceMethod yX6_zone) ∈ wsL_law := List.mem_of_getElem? (i := 249) (by decide +kernel)
theorem zw_250 : (Cond.selects RX6 yX6_zone yX6_zone) ∈ wsL_law := List.mem_of_getElem? (i := 250) (by decide +kernel)
theorem zw_251 : (Cond.code yX6_zone cX6_zone 3 (some .int)) ∈ wsL_law := List.mem_of_getElem? (i := 251) (by decide +kernel)
theorem zw_252 : (Cond.constantLong RX6 159 (6)) ∈ wsL_law := List.mem_of_getElem? (i := 252) (by decide +kernel)
theorem zw_253 : (Cond.methodLink RX6 156 yX6_noZone) ∈ wsL_law := List.mem_of_getElem? (i := 253) (by decide +kernel)
theorem zw_254 : (Cond.instanceMethod yX6_noZone) ∈ wsL_law := List.mem_of_getElem? (i := 254) (by decide +kernel)
theorem zw_255 : (Cond.selects RX6 yX6_noZone yX6_noZone) ∈ wsL_law := List.mem_of_getElem? (i := 255) (by decide +kernel)
theorem zw_256 : (Cond.code yX6_noZone cX6_noZone 2 (some .boolean)) ∈ wsL_law := List.mem_of_getElem? (i := 256) (by decide +kernel)
theorem zw_257 : (Cond.methodLink RX6 161 yX6_tellOf) ∈ wsL_law := List.mem_of_getElem? (i := 257) (by decide +kernel)
theorem zw_258 : (Cond.instanceMethod yX6_tellOf) ∈ wsL_law := List.mem_of_getElem? (i := 258) (by decide +kernel)
theorem zw_259 : (Cond.selects RX6 yX6_tellOf yX6_tellOf) ∈ wsL_law := List.mem_of_getElem? (i := 259) (by decide +kernel)
theorem zw_260 : (Cond.code yX6_tellOf cX6_tellOf 5 (some .int)) ∈ wsL_law := List.mem_of_getElem? (i := 260) (by decide +kernel)
theorem zw_261 : (Cond.methodLink RX6 102 yX6_seesAt) ∈ wsL_law := List.mem_of_getElem? (i := 261) (by decide +kernel)
theorem zw_262 : (Cond.static yX6_seesAt) ∈ wsL_law := List.mem_of_getElem? (i := 262) (by decide +kernel)
theorem zw_263 : (Cond.code yX6_seesAt cX6_seesAt 3 (some .boolean)) ∈ wsL_law := List.mem_of_getElem? (i := 263) (by decide +kernel)
theorem zw_264 : (Cond.methodLink RL 36 yX5_feed) ∈ wsL_law := List.mem_of_getElem? (i := 264) (by decide +kernel)
theorem zw_265 : (Cond.instanceMethod yX5_feed) ∈ wsL_law := List.mem_of_getElem? (i := 265) (by decide +kernel)
theorem zw_266 : (Cond.selects RX5 yX5_feed yX5_feed) ∈ wsL_law := List.mem_of_getElem? (i := 266) (by decide +kernel)
theorem zw_267 : (Cond.code yX5_feed cX5_feed 2 (some .int)) ∈ wsL_law := List.mem_of_getElem? (i := 267) (by decide +kernel)
theorem zw_268 : (Cond.methodLink RX5 98 yX1_hasLine) ∈ wsL_law := List.mem_of_getElem? (i := 268) (by decide +kernel)
theorem zw_269 : (Cond.instanceMethod yX1_hasLine) ∈ wsL_law := List.mem_of_getElem? (i := 269) (by decide +kernel)
theorem zw_270 : (Cond.selects RX1 yX1_hasLine yX1_hasLine) ∈ wsL_law := List.mem_of_getElem? (i := 270) (by decide +kernel)
theorem zw_271 : (Cond.code yX1_hasLine cX1_hasLine 2 (some .boolean)) ∈ wsL_law := List.mem_of_getElem? (i := 271) (by decide +kernel)
theorem zw_272 : (Cond.methodLink RX5 101 yX1_entryOf) ∈ wsL_law := List.mem_of_getElem? (i := 272) (by decide +kernel)
theorem zw_273 : (Cond.instanceMethod yX1_entryOf) ∈ wsL_law := List.mem_of_getElem? (i := 273) (by decide +kernel)
theorem zw_274 : (Cond.selects RX1 yX1_entryOf yX1_entryOf) ∈ wsL_law := List.mem_of_getElem? (i := 274) (by decide +kernel)
theorem zw_275 : (Cond.code yX1_entryOf cX1_entryOf 2 (some .int)) ∈ wsL_law := List.mem_of_getElem? (i := 275) (by decide +kernel)
theorem zw_276 : (Cond.methodLink RX5 108 yX1_canFeed) ∈ wsL_law := List.mem_of_getElem? (i := 276) (by decide +kernel)
theorem zw_277 : (Cond.instanceMethod yX1_canFeed) ∈ wsL_law := List.mem_of_getElem? (i := 277) (by decide +kernel)
theorem zw_278 : (Cond.selects RX1 yX1_canFeed yX1_canFeed) ∈ wsL_law := List.mem_of_getElem? (i := 278) (by decide +kernel)
theorem zw_279 : (Cond.code yX1_canFeed cX1_canFeed 2 (some .boolean)) ∈ wsL_law := List.mem_of_getElem? (i := 279) (by decide +kernel)
theorem zw_280 : (Cond.methodLink RX1 41 yX1_hasLine) ∈ wsL_law := List.mem_of_getElem? (i := 280) (by decide +kernel)
theorem zw_281 : (Cond.methodLink RX1 45 yX1_entryOf) ∈ wsL_law := List.mem_of_getElem? (i := 281) (by decide +kernel)
theorem zw_282 : (Cond.methodLink RX5 111 yX0_remember) ∈ wsL_law := List.mem_of_getElem? (i := 282) (by decide +kernel)
theorem zw_283 : (Cond.instanceMethod yX0_remember) ∈ wsL_law := List.mem_of_getElem? (i := 283) (by decide +kernel)
theorem zw_284 : (Cond.selects RX0 yX0_remember yX0_remember) ∈ wsL_law := List.mem_of_getElem? (i := 284) (by decide +kernel)
theorem zw_285 : (Cond.code yX0_remember cX0_remember 2 none) ∈ wsL_law := List.mem_of_getElem? (i := 285) (by decide +kernel)
theorem zw_286 : (Cond.methodLink RX0 31 Lib.Math.min.name) ∈ wsL_law := List.mem_of_getElem? (i := 286) (by decide +kernel)
theorem zw_287 : (Cond.static Lib.Math.min.name) ∈ wsL_law := List.mem_of_getElem? (i := 287) (by decide +kernel)
theorem zw_288 : (Cond.code Lib.Math.min.name Lib.Math.min.code 2 (some .int)) ∈ wsL_law := List.mem_of_getElem? (i := 288) (by decide +kernel)
theorem zw_289 : (Cond.methodLink RX0 27 yX3_put) ∈ wsL_law := List.mem_of_getElem? (i := 289) (by decide +kernel)
theorem zw_290 : (Cond.instanceMethod yX3_put) ∈ wsL_law := List.mem_of_getElem? (i := 290) (by decide +kernel)
theorem zw_291 : (Cond.selects RX3 yX3_put yX3_put) ∈ wsL_law := List.mem_of_getElem? (i := 291) (by decide +kernel)
theorem zw_292 : (Cond.code yX3_put cX3_put 3 none) ∈ wsL_law := List.mem_of_getElem? (i := 292) (by decide +kernel)
theorem zw_293 : (Cond.fieldLink RX3 25 "ZoneBelt$Belt" "cells" "[I") ∈ wsL_law := List.mem_of_getElem? (i := 293) (by decide +kernel)
theorem zw_294 : (Cond.methodLink RX3 26 arraycopyName) ∈ wsL_law := List.mem_of_getElem? (i := 294) (by decide +kernel)
theorem zw_295 : (Cond.native arraycopyName) ∈ wsL_law := List.mem_of_getElem? (i := 295) (by decide +kernel)
theorem zw_296 : (Cond.static arraycopyName) ∈ wsL_law := List.mem_of_getElem? (i := 296) (by decide +kernel)
theorem zw_297 : (Cond.initialized "java/lang/System") ∈ wsL_law := List.mem_of_getElem? (i := 297) (by decide +kernel)
theorem zw_298 : (Cond.methodLink RX5 114 yX1_putNext) ∈ wsL_law := List.mem_of_getElem? (i := 298) (by decide +kernel)
theorem zw_299 : (Cond.methodLink RL 39 yX6_feed) ∈ wsL_law := List.mem_of_getElem? (i := 299) (by decide +kernel)
theorem zw_300 : (Cond.instanceMethod yX6_feed) ∈ wsL_law := List.mem_of_getElem? (i := 300) (by decide +kernel)
theorem zw_301 : (Cond.selects RX6 yX6_feed yX6_feed) ∈ wsL_law := List.mem_of_getElem? (i := 301) (by decide +kernel)
theorem zw_302 : (Cond.code yX6_feed cX6_feed 2 (some .int)) ∈ wsL_law := List.mem_of_getElem? (i := 302) (by decide +kernel)
theorem zw_303 : (Cond.methodLink RX6 168 yX6_noLine) ∈ wsL_law := List.mem_of_getElem? (i := 303) (by decide +kernel)
theorem zw_304 : (Cond.instanceMethod yX6_noLine) ∈ wsL_law := List.mem_of_getElem? (i := 304) (by decide +kernel)
theorem zw_305 : (Cond.selects RX6 yX6_noLine yX6_noLine) ∈ wsL_law := List.mem_of_getElem? (i := 305) (by decide +kernel)
theorem zw_306 : (Cond.code yX6_noLine cX6_noLine 2 (some .boolean)) ∈ wsL_law := List.mem_of_getElem? (i := 306) (by decide +kernel)
theorem zw_307 : (Cond.methodLink RX6 165 yX6_entry) ∈ wsL_law := List.mem_of_getElem? (i := 307) (by decide +kernel)
theorem zw_308 : (Cond.instanceMethod yX6_entry) ∈ wsL_law := List.mem_of_getElem? (i := 308) (by decide +kernel)
theorem zw_309 : (Cond.selects RX6 yX6_entry yX6_entry) ∈ wsL_law := List.mem_of_getElem? (i := 309) (by decide +kernel)
theorem zw_310 : (Cond.code yX6_entry cX6_entry 2 (some .int)) ∈ wsL_law := List.mem_of_getElem? (i := 310) (by decide +kernel)
theorem zw_311 : (Cond.methodLink RX6 171 yX6_note) ∈ wsL_law := List.mem_of_getElem? (i := 311) (by decide +kernel)
theorem zw_312 : (Cond.instanceMethod yX6_note) ∈ wsL_law := List.mem_of_getElem? (i := 312) (by decide +kernel)
theorem zw_313 : (Cond.selects RX6 yX6_note yX6_note) ∈ wsL_law := List.mem_of_getElem? (i := 313) (by decide +kernel)
theorem zw_314 : (Cond.code yX6_note cX6_note 2 none) ∈ wsL_law := List.mem_of_getElem? (i := 314) (by decide +kernel)
theorem zw_315 : (Cond.methodLink RX6 174 yX6_feedOn) ∈ wsL_law := List.mem_of_getElem? (i := 315) (by decide +kernel)
theorem zw_316 : (Cond.instanceMethod yX6_feedOn) ∈ wsL_law := List.mem_of_getElem? (i := 316) (by decide +kernel)
theorem zw_317 : (Cond.selects RX6 yX6_feedOn yX6_feedOn) ∈ wsL_law := List.mem_of_getElem? (i := 317) (by decide +kernel)
theorem zw_318 : (Cond.code yX6_feedOn cX6_feedOn 3 none) ∈ wsL_law := List.mem_of_getElem? (i := 318) (by decide +kernel)
theorem zw_319 : (Cond.methodLink RL 40 yX5_lift) ∈ wsL_law := List.mem_of_getElem? (i := 319) (by decide +kernel)
theorem zw_320 : (Cond.instanceMethod yX5_lift) ∈ wsL_law := List.mem_of_getElem? (i := 320) (by decide +kernel)
theorem zw_321 : (Cond.selects RX5 yX5_lift yX5_lift) ∈ wsL_law := List.mem_of_getElem? (i := 321) (by decide +kernel)
theorem zw_322 : (Cond.code yX5_lift cX5_lift 2 (some .int)) ∈ wsL_law := List.mem_of_getElem? (i := 322) (by decide +kernel)
theorem zw_323 : (Cond.methodLink RX5 117 yX1_takeAway) ∈ wsL_law := List.mem_of_getElem? (i := 323) (by decide +kernel)
theorem zw_324 : (Cond.instanceMethod yX1_takeAway) ∈ wsL_law := List.mem_of_getElem? (i := 324) (by decide +kernel)
theorem zw_325 : (Cond.selects RX1 yX1_takeAway yX1_takeAway) ∈ wsL_law := List.mem_of_getElem? (i := 325) (by decide +kernel)
theorem zw_326 : (Cond.code yX1_takeAway cX1_takeAway 2 (some .int)) ∈ wsL_law := List.mem_of_getElem? (i := 326) (by decide +kernel)
theorem zw_327 : (Cond.methodLink RX1 52 yX1_freeJam) ∈ wsL_law := List.mem_of_getElem? (i := 327) (by decide +kernel)
theorem zw_328 : (Cond.instanceMethod yX1_freeJam) ∈ wsL_law := List.mem_of_getElem? (i := 328) (by decide +kernel)
theorem zw_329 : (Cond.selects RX1 yX1_freeJam yX1_freeJam) ∈ wsL_law := List.mem_of_getElem? (i := 329) (by decide +kernel)
theorem zw_330 : (Cond.code yX1_freeJam cX1_freeJam 2 none) ∈ wsL_law := List.mem_of_getElem? (i := 330) (by decide +kernel)
theorem zw_331 : (Cond.methodLink RX1 56 yX1_change) ∈ wsL_law := List.mem_of_getElem? (i := 331) (by decide +kernel)
theorem zw_332 : (Cond.instanceMethod yX1_change) ∈ wsL_law := List.mem_of_getElem? (i := 332) (by decide +kernel)
theorem zw_333 : (Cond.selects RX1 yX1_change yX1_change) ∈ wsL_law := List.mem_of_getElem? (i := 333) (by decide +kernel)
theorem zw_334 : (Cond.code yX1_change cX1_change 4 (some .int)) ∈ wsL_law := List.mem_of_getElem? (i := 334) (by decide +kernel)
theorem zw_335 : (Cond.methodLink RL 43 yX6_lift) ∈ wsL_law := List.mem_of_getElem? (i := 335) (by decide +kernel)
theorem zw_336 : (Cond.instanceMethod yX6_lift) ∈ wsL_law := List.mem_of_getElem? (i := 336) (by decide +kernel)
theorem zw_337 : (Cond.selects RX6 yX6_lift yX6_lift) ∈ wsL_law := List.mem_of_getElem? (i := 337) (by decide +kernel)
theorem zw_338 : (Cond.code yX6_lift cX6_lift 2 (some .int)) ∈ wsL_law := List.mem_of_getElem? (i := 338) (by decide +kernel)
theorem zw_339 : (Cond.methodLink RX6 177 yX6_liftOn) ∈ wsL_law := List.mem_of_getElem? (i := 339) (by decide +kernel)
theorem zw_340 : (Cond.static yX6_liftOn) ∈ wsL_law := List.mem_of_getElem? (i := 340) (by decide +kernel)
theorem zw_341 : (Cond.code yX6_liftOn cX6_liftOn 3 (some .int)) ∈ wsL_law := List.mem_of_getElem? (i := 341) (by decide +kernel)
theorem zw_342 : (Cond.methodLink RL 44 yX5_turn) ∈ wsL_law := List.mem_of_getElem? (i := 342) (by decide +kernel)
theorem zw_343 : (Cond.instanceMethod yX5_turn) ∈ wsL_law := List.mem_of_getElem? (i := 343) (by decide +kernel)
theorem zw_344 : (Cond.selects RX5 yX5_turn yX5_turn) ∈ wsL_law := List.mem_of_getElem? (i := 344) (by decide +kernel)
theorem zw_345 : (Cond.code yX5_turn cX5_turn 1 (some .int)) ∈ wsL_law := List.mem_of_getElem? (i := 345) (by decide +kernel)
theorem zw_346 : (Cond.methodLink RX5 120 yX1_turnExit) ∈ wsL_law := List.mem_of_getElem? (i := 346) (by decide +kernel)
theorem zw_347 : (Cond.instanceMethod yX1_turnExit) ∈ wsL_law := List.mem_of_getElem? (i := 347) (by decide +kernel)
theorem zw_348 : (Cond.selects RX1 yX1_turnExit yX1_turnExit) ∈ wsL_law := List.mem_of_getElem? (i := 348) (by decide +kernel)
theorem zw_349 : (Cond.code yX1_turnExit cX1_turnExit 1 (some .int)) ∈ wsL_law := List.mem_of_getElem? (i := 349) (by decide +kernel)
theorem zw_350 : (Cond.methodLink RL 47 yX6_turn) ∈ wsL_law := List.mem_of_getElem? (i := 350) (by decide +kernel)
theorem zw_351 : (Cond.instanceMethod yX6_turn) ∈ wsL_law := List.mem_of_getElem? (i := 351) (by decide +kernel)
theorem zw_352 : (Cond.selects RX6 yX6_turn yX6_turn) ∈ wsL_law := List.mem_of_getElem? (i := 352) (by decide +kernel)
theorem zw_353 : (Cond.code yX6_turn cX6_turn 1 (some .int)) ∈ wsL_law := List.mem_of_getElem? (i := 353) (by decide +kernel)
theorem zw_354 : (Cond.methodLink RL 48 yX5_eye) ∈ wsL_law := List.mem_of_getElem? (i := 354) (by decide +kernel)
theorem zw_355 : (Cond.instanceMethod yX5_eye) ∈ wsL_law := List.mem_of_getElem? (i := 355) (by decide +kernel)
theorem zw_356 : (Cond.selects RX5 yX5_eye yX5_eye) ∈ wsL_law := List.mem_of_getElem? (i := 356) (by decide +kernel)
theorem zw_357 : (Cond.code yX5_eye cX5_eye 3 (some .int)) ∈ wsL_law := List.mem_of_getElem? (i := 357) (by decide +kernel)
theorem zw_358 : (Cond.methodLink RX5 123 yX1_isEye) ∈ wsL_law := List.mem_of_getElem? (i := 358) (by decide +kernel)
theorem zw_359 : (Cond.static yX1_isEye) ∈ wsL_law := List.mem_of_getElem? (i := 359) (by decide +kernel)
theorem zw_360 : (Cond.code yX1_isEye cX1_isEye 1 (some .boolean)) ∈ wsL_law := List.mem_of_getElem? (i := 360) (by decide +kernel)
theorem zw_361 : (Cond.methodLink RX5 126 yX1_change) ∈ wsL_law := List.mem_of_getElem? (i := 361) (by decide +kernel)
theorem zw_362 : (Cond.methodLink RL 51 yX6_eye) ∈ wsL_law := List.mem_of_getElem? (i := 362) (by decide +kernel)
theorem zw_363 : (Cond.instanceMethod yX6_eye) ∈ wsL_law := List.mem_of_getElem? (i := 363) (by decide +kernel)
theorem zw_364 : (Cond.selects RX6 yX6_eye yX6_eye) ∈ wsL_law := List.mem_of_getElem? (i := 364) (by decide +kernel)
theorem zw_365 : (Cond.code yX6_eye cX6_eye 4 (some .int)) ∈ wsL_law := List.mem_of_getElem? (i := 365) (by decide +kernel)
theorem zw_366 : (Cond.constantLong RX6 181 (2)) ∈ wsL_law := List.mem_of_getElem? (i := 366) (by decide +kernel)
theorem zw_367 : (Cond.methodLink RL 52 yX5_make) ∈ wsL_law := List.mem_of_getElem? (i := 367) (by decide +kernel)
theorem zw_368 : (Cond.instanceMethod yX5_make) ∈ wsL_law := List.mem_of_getElem? (i := 368) (by decide +kernel)
theorem zw_369 : (Cond.selects RX5 yX5_make yX5_make) ∈ wsL_law := List.mem_of_getElem? (i := 369) (by decide +kernel)
theorem zw_370 : (Cond.code yX5_make cX5_make 3 (some .int)) ∈ wsL_law := List.mem_of_getElem? (i := 370) (by decide +kernel)
theorem zw_371 : (Cond.methodLink RL 55 yX6_make) ∈ wsL_law := List.mem_of_getElem? (i := 371) (by decide +kernel)
theorem zw_372 : (Cond.instanceMethod yX6_make) ∈ wsL_law := List.mem_of_getElem? (i := 372) (by decide +kernel)
theorem zw_373 : (Cond.selects RX6 yX6_make yX6_make) ∈ wsL_law := List.mem_of_getElem? (i := 373) (by decide +kernel)
theorem zw_374 : (Cond.code yX6_make cX6_make 4 (some .int)) ∈ wsL_law := List.mem_of_getElem? (i := 374) (by decide +kernel)
theorem zw_375 : (Cond.methodLink RL 56 yX5_clear) ∈ wsL_law := List.mem_of_getElem? (i := 375) (by decide +kernel)
theorem zw_376 : (Cond.instanceMethod yX5_clear) ∈ wsL_law := List.mem_of_getElem? (i := 376) (by decide +kernel)
theorem zw_377 : (Cond.selects RX5 yX5_clear yX5_clear) ∈ wsL_law := List.mem_of_getElem? (i := 377) (by decide +kernel)
theorem zw_378 : (Cond.code yX5_clear cX5_clear 2 (some .int)) ∈ wsL_law := List.mem_of_getElem? (i := 378) (by decide +kernel)
theorem zw_379 : (Cond.methodLink RX5 133 yX1_freeJam) ∈ wsL_law := List.mem_of_getElem? (i := 379) (by decide +kernel)
theorem zw_380 : (Cond.methodLink RX5 139 yJ6_bitCount_0f7a4) ∈ wsL_law := List.mem_of_getElem? (i := 380) (by decide +kernel)
theorem zw_381 : (Cond.static yJ6_bitCount_0f7a4) ∈ wsL_law := List.mem_of_getElem? (i := 381) (by decide +kernel)
theorem zw_382 : (Cond.initialized RJ6) ∈ wsL_law := List.mem_of_getElem? (i := 382) (by decide +kernel)
theorem zw_383 : (Cond.code yJ6_bitCount_0f7a4 cJ6_bitCount_0f7a4 1 (some .int)) ∈ wsL_law := List.mem_of_getElem? (i := 383) (by decide +kernel)
theorem zw_384 : (Cond.constant RJ6 265 (1431655765)) ∈ wsL_law := List.mem_of_getElem? (i := 384) (by decide +kernel)
theorem zw_385 : (Cond.constant RJ6 266 (858993459)) ∈ wsL_law := List.mem_of_getElem? (i := 385) (by decide +kernel)
theorem zw_386 : (Cond.constant RJ6 267 (252645135)) ∈ wsL_law := List.mem_of_getElem? (i := 386) (by decide +kernel)
theorem zw_387 : (Cond.methodLink RL 59 yX6_clear) ∈ wsL_law := List.mem_of_getElem? (i := 387) (by decide +kernel)
theorem zw_388 : (Cond.instanceMethod yX6_clear) ∈ wsL_law := List.mem_of_getElem? (i := 388) (by decide +kernel)
theorem zw_389 : (Cond.selects RX6 yX6_clear yX6_clear) ∈ wsL_law := List.mem_of_getElem? (i := 389) (by decide +kernel)
theorem zw_390 : (Cond.code yX6_clear cX6_clear 2 (some .int)) ∈ wsL_law := List.mem_of_getElem? (i := 390) (by decide +kernel)
theorem zw_391 : (Cond.methodLink RX6 183 yX6_those) ∈ wsL_law := List.mem_of_getElem? (i := 391) (by decide +kernel)
theorem zw_392 : (Cond.instanceMethod yX6_those) ∈ wsL_law := List.mem_of_getElem? (i := 392) (by decide +kernel)
theorem zw_393 : (Cond.selects RX6 yX6_those yX6_those) ∈ wsL_law := List.mem_of_getElem? (i := 393) (by decide +kernel)
theorem zw_394 : (Cond.code yX6_those cX6_those 5 (some .int)) ∈ wsL_law := List.mem_of_getElem? (i := 394) (by decide +kernel)
theorem zw_395 : (Cond.methodLink RX6 186 yX6_ones) ∈ wsL_law := List.mem_of_getElem? (i := 395) (by decide +kernel)
theorem zw_396 : (Cond.static yX6_ones) ∈ wsL_law := List.mem_of_getElem? (i := 396) (by decide +kernel)
theorem zw_397 : (Cond.code yX6_ones cX6_ones 3 (some .int)) ∈ wsL_law := List.mem_of_getElem? (i := 397) (by decide +kernel)
theorem zw_398 : (Cond.methodLink RL 60 yX5_step) ∈ wsL_law := List.mem_of_getElem? (i := 398) (by decide +kernel)
theorem zw_399 : (Cond.instanceMethod yX5_step) ∈ wsL_law := List.mem_of_getElem? (i := 399) (by decide +kernel)
theorem zw_400 : (Cond.selects RX5 yX5_step yX5_step) ∈ wsL_law := List.mem_of_getElem? (i := 400) (by decide +kernel)
theorem zw_401 : (Cond.code yX5_step cX5_step 3 (some .int)) ∈ wsL_law := List.mem_of_getElem? (i := 401) (by decide +kernel)
theorem zw_402 : (Cond.methodLink RX5 144 yX1_advance) ∈ wsL_law := List.mem_of_getElem? (i := 402) (by decide +kernel)
theorem zw_403 : (Cond.instanceMethod yX1_advance) ∈ wsL_law := List.mem_of_getElem? (i := 403) (by decide +kernel)
theorem zw_404 : (Cond.selects RX1 yX1_advance yX1_advance) ∈ wsL_law := List.mem_of_getElem? (i := 404) (by decide +kernel)
theorem zw_405 : (Cond.code yX1_advance cX1_advance 3 none) ∈ wsL_law := List.mem_of_getElem? (i := 405) (by decide +kernel)
theorem zw_406 : (Cond.methodLink RX1 60 yX1_advanceOnce) ∈ wsL_law := List.mem_of_getElem? (i := 406) (by decide +kernel)
theorem zw_407 : (Cond.instanceMethod yX1_advanceOnce) ∈ wsL_law := List.mem_of_getElem? (i := 407) (by decide +kernel)
theorem zw_408 : (Cond.selects RX1 yX1_advanceOnce yX1_advanceOnce) ∈ wsL_law := List.mem_of_getElem? (i := 408) (by decide +kernel)
theorem zw_409 : (Cond.code yX1_advanceOnce cX1_advanceOnce 4 none) ∈ wsL_law := List.mem_of_getElem? (i := 409) (by decide +kernel)
theorem zw_410 : (Cond.methodLink RX1 63 yX1_seeing) ∈ wsL_law := List.mem_of_getElem? (i := 410) (by decide +kernel)
theorem zw_411 : (Cond.methodLink RX1 67 yX1_behindThose) ∈ wsL_law := List.mem_of_getElem? (i := 411) (by decide +kernel)
theorem zw_412 : (Cond.instanceMethod yX1_behindThose) ∈ wsL_law := List.mem_of_getElem? (i := 412) (by decide +kernel)
theorem zw_413 : (Cond.selects RX1 yX1_behindThose yX1_behindThose) ∈ wsL_law := List.mem_of_getElem? (i := 413) (by decide +kernel)
theorem zw_414 : (Cond.code yX1_behindThose cX1_behindThose 4 (some .int)) ∈ wsL_law := List.mem_of_getElem? (i := 414) (by decide +kernel)
theorem zw_415 : (Cond.methodLink RX1 85 yX1_behind) ∈ wsL_law := List.mem_of_getElem? (i := 415) (by decide +kernel)
theorem zw_416 : (Cond.instanceMethod yX1_behind) ∈ wsL_law := List.mem_of_getElem? (i := 416) (by decide +kernel)
theorem zw_417 : (Cond.selects RX1 yX1_behind yX1_behind) ∈ wsL_law := List.mem_of_getElem? (i := 417) (by decide +kernel)
theorem zw_418 : (Cond.code yX1_behind cX1_behind 2 (some .int)) ∈ wsL_law := List.mem_of_getElem? (i := 418) (by decide +kernel)
theorem zw_419 : (Cond.methodLink RX1 70 yX1_giveTickets) ∈ wsL_law := List.mem_of_getElem? (i := 419) (by decide +kernel)
theorem zw_420 : (Cond.instanceMethod yX1_giveTickets) ∈ wsL_law := List.mem_of_getElem? (i := 420) (by decide +kernel)
theorem zw_421 : (Cond.selects RX1 yX1_giveTickets yX1_giveTickets) ∈ wsL_law := List.mem_of_getElem? (i := 421) (by decide +kernel)
theorem zw_422 : (Cond.code yX1_giveTickets cX1_giveTickets 2 none) ∈ wsL_law := List.mem_of_getElem? (i := 422) (by decide +kernel)
theorem zw_423 : (Cond.methodLink RX1 88 yX1_giveTicket) ∈ wsL_law := List.mem_of_getElem? (i := 423) (by decide +kernel)
theorem zw_424 : (Cond.instanceMethod yX1_giveTicket) ∈ wsL_law := List.mem_of_getElem? (i := 424) (by decide +kernel)
theorem zw_425 : (Cond.selects RX1 yX1_giveTicket yX1_giveTicket) ∈ wsL_law := List.mem_of_getElem? (i := 425) (by decide +kernel)
theorem zw_426 : (Cond.code yX1_giveTicket cX1_giveTicket 3 none) ∈ wsL_law := List.mem_of_getElem? (i := 426) (by decide +kernel)
theorem zw_427 : (Cond.methodLink RX1 73 yX1_yielding) ∈ wsL_law := List.mem_of_getElem? (i := 427) (by decide +kernel)
theorem zw_428 : (Cond.instanceMethod yX1_yielding) ∈ wsL_law := List.mem_of_getElem? (i := 428) (by decide +kernel)
theorem zw_429 : (Cond.selects RX1 yX1_yielding yX1_yielding) ∈ wsL_law := List.mem_of_getElem? (i := 429) (by decide +kernel)
theorem zw_430 : (Cond.code yX1_yielding cX1_yielding 4 (some .int)) ∈ wsL_law := List.mem_of_getElem? (i := 430) (by decide +kernel)
theorem zw_431 : (Cond.methodLink RX1 76 yX1_settle) ∈ wsL_law := List.mem_of_getElem? (i := 431) (by decide +kernel)
theorem zw_432 : (Cond.instanceMethod yX1_settle) ∈ wsL_law := List.mem_of_getElem? (i := 432) (by decide +kernel)
theorem zw_433 : (Cond.selects RX1 yX1_settle yX1_settle) ∈ wsL_law := List.mem_of_getElem? (i := 433) (by decide +kernel)
theorem zw_434 : (Cond.code yX1_settle cX1_settle 6 (some .int)) ∈ wsL_law := List.mem_of_getElem? (i := 434) (by decide +kernel)
theorem zw_435 : (Cond.methodLink RX1 92 yX1_roomWith) ∈ wsL_law := List.mem_of_getElem? (i := 435) (by decide +kernel)
theorem zw_436 : (Cond.instanceMethod yX1_roomWith) ∈ wsL_law := List.mem_of_getElem? (i := 436) (by decide +kernel)
theorem zw_437 : (Cond.selects RX1 yX1_roomWith yX1_roomWith) ∈ wsL_law := List.mem_of_getElem? (i := 437) (by decide +kernel)
theorem zw_438 : (Cond.code yX1_roomWith cX1_roomWith 3 (some .int)) ∈ wsL_law := List.mem_of_getElem? (i := 438) (by decide +kernel)
theorem zw_439 : (Cond.methodLink RX1 95 yX1_goer) ∈ wsL_law := List.mem_of_getElem? (i := 439) (by decide +kernel)
theorem zw_440 : (Cond.instanceMethod yX1_goer) ∈ wsL_law := List.mem_of_getElem? (i := 440) (by decide +kernel)
theorem zw_441 : (Cond.selects RX1 yX1_goer yX1_goer) ∈ wsL_law := List.mem_of_getElem? (i := 441) (by decide +kernel)
theorem zw_442 : (Cond.code yX1_goer cX1_goer 4 (some .int)) ∈ wsL_law := List.mem_of_getElem? (i := 442) (by decide +kernel)
theorem zw_443 : (Cond.methodLink RX1 79 yX1_moveThose) ∈ wsL_law := List.mem_of_getElem? (i := 443) (by decide +kernel)
theorem zw_444 : (Cond.instanceMethod yX1_moveThose) ∈ wsL_law := List.mem_of_getElem? (i := 444) (by decide +kernel)
theorem zw_445 : (Cond.selects RX1 yX1_moveThose yX1_moveThose) ∈ wsL_law := List.mem_of_getElem? (i := 445) (by decide +kernel)
theorem zw_446 : (Cond.code yX1_moveThose cX1_moveThose 3 none) ∈ wsL_law := List.mem_of_getElem? (i := 446) (by decide +kernel)
theorem zw_447 : (Cond.methodLink RX1 99 yX1_handOn) ∈ wsL_law := List.mem_of_getElem? (i := 447) (by decide +kernel)
theorem zw_448 : (Cond.instanceMethod yX1_handOn) ∈ wsL_law := List.mem_of_getElem? (i := 448) (by decide +kernel)
theorem zw_449 : (Cond.selects RX1 yX1_handOn yX1_handOn) ∈ wsL_law := List.mem_of_getElem? (i := 449) (by decide +kernel)
theorem zw_450 : (Cond.code yX1_handOn cX1_handOn 2 none) ∈ wsL_law := List.mem_of_getElem? (i := 450) (by decide +kernel)
theorem zw_451 : (Cond.methodLink RX1 82 yX1_tellIdle) ∈ wsL_law := List.mem_of_getElem? (i := 451) (by decide +kernel)
theorem zw_452 : (Cond.instanceMethod yX1_tellIdle) ∈ wsL_law := List.mem_of_getElem? (i := 452) (by decide +kernel)
theorem zw_453 : (Cond.selects RX1 yX1_tellIdle yX1_tellIdle) ∈ wsL_law := List.mem_of_getElem? (i := 453) (by decide +kernel)
theorem zw_454 : (Cond.code yX1_tellIdle cX1_tellIdle 3 none) ∈ wsL_law := List.mem_of_getElem? (i := 454) (by decide +kernel)
theorem zw_455 : (Cond.methodLink RX1 102 yX1_feedersOf) ∈ wsL_law := List.mem_of_getElem? (i := 455) (by decide +kernel)
theorem zw_456 : (Cond.instanceMethod yX1_feedersOf) ∈ wsL_law := List.mem_of_getElem? (i := 456) (by decide +kernel)
theorem zw_457 : (Cond.selects RX1 yX1_feedersOf yX1_feedersOf) ∈ wsL_law := List.mem_of_getElem? (i := 457) (by decide +kernel)
theorem zw_458 : (Cond.code yX1_feedersOf cX1_feedersOf 3 (some .int)) ∈ wsL_law := List.mem_of_getElem? (i := 458) (by decide +kernel)
theorem zw_459 : (Cond.methodLink RL 63 yX6_step) ∈ wsL_law := List.mem_of_getElem? (i := 459) (by decide +kernel)
theorem zw_460 : (Cond.instanceMethod yX6_step) ∈ wsL_law := List.mem_of_getElem? (i := 460) (by decide +kernel)
theorem zw_461 : (Cond.selects RX6 yX6_step yX6_step) ∈ wsL_law := List.mem_of_getElem? (i := 461) (by decide +kernel)
theorem zw_462 : (Cond.code yX6_step cX6_step 3 (some .int)) ∈ wsL_law := List.mem_of_getElem? (i := 462) (by decide +kernel)
theorem zw_463 : (Cond.constantLong RX6 189 (99)) ∈ wsL_law := List.mem_of_getElem? (i := 463) (by decide +kernel)
theorem zw_464 : (Cond.methodLink RX6 191 yX6_stepsOn) ∈ wsL_law := List.mem_of_getElem? (i := 464) (by decide +kernel)
theorem zw_465 : (Cond.instanceMethod yX6_stepsOn) ∈ wsL_law := List.mem_of_getElem? (i := 465) (by decide +kernel)
theorem zw_466 : (Cond.selects RX6 yX6_stepsOn yX6_stepsOn) ∈ wsL_law := List.mem_of_getElem? (i := 466) (by decide +kernel)
theorem zw_467 : (Cond.code yX6_stepsOn cX6_stepsOn 4 none) ∈ wsL_law := List.mem_of_getElem? (i := 467) (by decide +kernel)
theorem zw_468 : (Cond.methodLink RX6 153 yX6_stepOn) ∈ wsL_law := List.mem_of_getElem? (i := 468) (by decide +kernel)
theorem zw_469 : (Cond.instanceMethod yX6_stepOn) ∈ wsL_law := List.mem_of_getElem? (i := 469) (by decide +kernel)
theorem zw_470 : (Cond.selects RX6 yX6_stepOn yX6_stepOn) ∈ wsL_law := List.mem_of_getElem? (i := 470) (by decide +kernel)
theorem zw_471 : (Cond.code yX6_stepOn cX6_stepOn 3 none) ∈ wsL_law := List.mem_of_getElem? (i := 471) (by decide +kernel)
theorem zw_472 : (Cond.fieldLink RX6 133 "ZoneBeltModel" "went" "I") ∈ wsL_law := List.mem_of_getElem? (i := 472) (by decide +kernel)
theorem zw_473 : (Cond.methodLink RX6 136 yX6_wakeOn) ∈ wsL_law := List.mem_of_getElem? (i := 473) (by decide +kernel)
theorem zw_474 : (Cond.instanceMethod yX6_wakeOn) ∈ wsL_law := List.mem_of_getElem? (i := 474) (by decide +kernel)
theorem zw_475 : (Cond.selects RX6 yX6_wakeOn yX6_wakeOn) ∈ wsL_law := List.mem_of_getElem? (i := 475) (by decide +kernel)
theorem zw_476 : (Cond.code yX6_wakeOn cX6_wakeOn 4 none) ∈ wsL_law := List.mem_of_getElem? (i := 476) (by decide +kernel)
theorem zw_477 : (Cond.fieldLink RX6 110 "ZoneBeltModel" "sees" "I") ∈ wsL_law := List.mem_of_getElem? (i := 477) (by decide +kernel)
theorem zw_478 : (Cond.fieldLink RX6 113 "ZoneBeltModel" "slept" "I") ∈ wsL_law := List.mem_of_getElem? (i := 478) (by decide +kernel)
theorem zw_479 : (Cond.fieldLink RX6 116 "ZoneBeltModel" "wishes" "I") ∈ wsL_law := List.mem_of_getElem? (i := 479) (by decide +kernel)
theorem zw_480 : (Cond.methodLink RX6 106 yX6_allThatSee) ∈ wsL_law := List.mem_of_getElem? (i := 480) (by decide +kernel)
theorem zw_481 : (Cond.instanceMethod yX6_allThatSee) ∈ wsL_law := List.mem_of_getElem? (i := 481) (by decide +kernel)
theorem zw_482 : (Cond.selects RX6 yX6_allThatSee yX6_allThatSee) ∈ wsL_law := List.mem_of_getElem? (i := 482) (by decide +kernel)
theorem zw_483 : (Cond.code yX6_allThatSee cX6_allThatSee 4 (some .int)) ∈ wsL_law := List.mem_of_getElem? (i := 483) (by decide +kernel)
theorem zw_484 : (Cond.methodLink RX6 119 yX6_has) ∈ wsL_law := List.mem_of_getElem? (i := 484) (by decide +kernel)
theorem zw_485 : (Cond.static yX6_has) ∈ wsL_law := List.mem_of_getElem? (i := 485) (by decide +kernel)
theorem zw_486 : (Cond.code yX6_has cX6_has 2 (some .boolean)) ∈ wsL_law := List.mem_of_getElem? (i := 486) (by decide +kernel)
theorem zw_487 : (Cond.methodLink RX6 140 yX6_ticketOn) ∈ wsL_law := List.mem_of_getElem? (i := 487) (by decide +kernel)
theorem zw_488 : (Cond.instanceMethod yX6_ticketOn) ∈ wsL_law := List.mem_of_getElem? (i := 488) (by decide +kernel)
theorem zw_489 : (Cond.selects RX6 yX6_ticketOn yX6_ticketOn) ∈ wsL_law := List.mem_of_getElem? (i := 489) (by decide +kernel)
theorem zw_490 : (Cond.code yX6_ticketOn cX6_ticketOn 3 none) ∈ wsL_law := List.mem_of_getElem? (i := 490) (by decide +kernel)
theorem zw_491 : (Cond.methodLink RX6 144 yX6_layGoes) ∈ wsL_law := List.mem_of_getElem? (i := 491) (by decide +kernel)
theorem zw_492 : (Cond.instanceMethod yX6_layGoes) ∈ wsL_law := List.mem_of_getElem? (i := 492) (by decide +kernel)
theorem zw_493 : (Cond.selects RX6 yX6_layGoes yX6_layGoes) ∈ wsL_law := List.mem_of_getElem? (i := 493) (by decide +kernel)
theorem zw_494 : (Cond.code yX6_layGoes cX6_layGoes 8 none) ∈ wsL_law := List.mem_of_getElem? (i := 494) (by decide +kernel)
theorem zw_495 : (Cond.fieldLink RX6 127 "ZoneBeltModel" "goes" "I") ∈ wsL_law := List.mem_of_getElem? (i := 495) (by decide +kernel)
theorem zw_496 : (Cond.methodLink RX6 130 yX6_may) ∈ wsL_law := List.mem_of_getElem? (i := 496) (by decide +kernel)
theorem zw_497 : (Cond.instanceMethod yX6_may) ∈ wsL_law := List.mem_of_getElem? (i := 497) (by decide +kernel)
theorem zw_498 : (Cond.selects RX6 yX6_may yX6_may) ∈ wsL_law := List.mem_of_getElem? (i := 498) (by decide +kernel)
theorem zw_499 : (Cond.code yX6_may cX6_may 4 (some .boolean)) ∈ wsL_law := List.mem_of_getElem? (i := 499) (by decide +kernel)
theorem zw_500 : (Cond.methodLink RX6 123 yX6_behind) ∈ wsL_law := List.mem_of_getElem? (i := 500) (by decide +kernel)
theorem zw_501 : (Cond.instanceMethod yX6_behind) ∈ wsL_law := List.mem_of_getElem? (i := 501) (by decide +kernel)
theorem zw_502 : (Cond.selects RX6 yX6_behind yX6_behind) ∈ wsL_law := List.mem_of_getElem? (i := 502) (by decide +kernel)
theorem zw_503 : (Cond.code yX6_behind cX6_behind 2 (some .int)) ∈ wsL_law := List.mem_of_getElem? (i := 503) (by decide +kernel)
theorem zw_504 : (Cond.methodLink RX6 147 yX6_moveOn) ∈ wsL_law := List.mem_of_getElem? (i := 504) (by decide +kernel)
theorem zw_505 : (Cond.instanceMethod yX6_moveOn) ∈ wsL_law := List.mem_of_getElem? (i := 505) (by decide +kernel)
theorem zw_506 : (Cond.selects RX6 yX6_moveOn yX6_moveOn) ∈ wsL_law := List.mem_of_getElem? (i := 506) (by decide +kernel)
theorem zw_507 : (Cond.code yX6_moveOn cX6_moveOn 5 none) ∈ wsL_law := List.mem_of_getElem? (i := 507) (by decide +kernel)
theorem zw_508 : (Cond.methodLink RX6 150 yX6_idleOn) ∈ wsL_law := List.mem_of_getElem? (i := 508) (by decide +kernel)
theorem zw_509 : (Cond.instanceMethod yX6_idleOn) ∈ wsL_law := List.mem_of_getElem? (i := 509) (by decide +kernel)
theorem zw_510 : (Cond.selects RX6 yX6_idleOn yX6_idleOn) ∈ wsL_law := List.mem_of_getElem? (i := 510) (by decide +kernel)
theorem zw_511 : (Cond.code yX6_idleOn cX6_idleOn 6 none) ∈ wsL_law := List.mem_of_getElem? (i := 511) (by decide +kernel)
theorem zw_512 : (Cond.methodLink RL 64 yX5_undo) ∈ wsL_law := List.mem_of_getElem? (i := 512) (by decide +kernel)
theorem zw_513 : (Cond.instanceMethod yX5_undo) ∈ wsL_law := List.mem_of_getElem? (i := 513) (by decide +kernel)
theorem zw_514 : (Cond.selects RX5 yX5_undo yX5_undo) ∈ wsL_law := List.mem_of_getElem? (i := 514) (by decide +kernel)
theorem zw_515 : (Cond.code yX5_undo cX5_undo 1 (some .int)) ∈ wsL_law := List.mem_of_getElem? (i := 515) (by decide +kernel)
theorem zw_516 : (Cond.fieldLink RX5 151 "ZoneBelt$Acts" "size" "I") ∈ wsL_law := List.mem_of_getElem? (i := 516) (by decide +kernel)
theorem zw_517 : (Cond.methodLink RX5 147 yX0_takeBack) ∈ wsL_law := List.mem_of_getElem? (i := 517) (by decide +kernel)
theorem zw_518 : (Cond.instanceMethod yX0_takeBack) ∈ wsL_law := List.mem_of_getElem? (i := 518) (by decide +kernel)
theorem zw_519 : (Cond.selects RX0 yX0_takeBack yX0_takeBack) ∈ wsL_law := List.mem_of_getElem? (i := 519) (by decide +kernel)
theorem zw_520 : (Cond.code yX0_takeBack cX0_takeBack 2 (some .boolean)) ∈ wsL_law := List.mem_of_getElem? (i := 520) (by decide +kernel)
theorem zw_521 : (Cond.methodLink RX0 37 yX3_get) ∈ wsL_law := List.mem_of_getElem? (i := 521) (by decide +kernel)
theorem zw_522 : (Cond.instanceMethod yX3_get) ∈ wsL_law := List.mem_of_getElem? (i := 522) (by decide +kernel)
theorem zw_523 : (Cond.selects RX3 yX3_get yX3_get) ∈ wsL_law := List.mem_of_getElem? (i := 523) (by decide +kernel)
theorem zw_524 : (Cond.code yX3_get cX3_get 3 none) ∈ wsL_law := List.mem_of_getElem? (i := 524) (by decide +kernel)
theorem zw_525 : (Cond.methodLink RL 67 yX6_undo) ∈ wsL_law := List.mem_of_getElem? (i := 525) (by decide +kernel)
theorem zw_526 : (Cond.instanceMethod yX6_undo) ∈ wsL_law := List.mem_of_getElem? (i := 526) (by decide +kernel)
theorem zw_527 : (Cond.selects RX6 yX6_undo yX6_undo) ∈ wsL_law := List.mem_of_getElem? (i := 527) (by decide +kernel)
theorem zw_528 : (Cond.code yX6_undo cX6_undo 2 (some .int)) ∈ wsL_law := List.mem_of_getElem? (i := 528) (by decide +kernel)
theorem zw_529 : (Cond.methodLink RL 68 yX5_ahead) ∈ wsL_law := List.mem_of_getElem? (i := 529) (by decide +kernel)
theorem zw_530 : (Cond.instanceMethod yX5_ahead) ∈ wsL_law := List.mem_of_getElem? (i := 530) (by decide +kernel)
theorem zw_531 : (Cond.selects RX5 yX5_ahead yX5_ahead) ∈ wsL_law := List.mem_of_getElem? (i := 531) (by decide +kernel)
theorem zw_532 : (Cond.code yX5_ahead cX5_ahead 4 (some .int)) ∈ wsL_law := List.mem_of_getElem? (i := 532) (by decide +kernel)
theorem zw_533 : (Cond.methodLink RX5 154 yX1_copy) ∈ wsL_law := List.mem_of_getElem? (i := 533) (by decide +kernel)
theorem zw_534 : (Cond.instanceMethod yX1_copy) ∈ wsL_law := List.mem_of_getElem? (i := 534) (by decide +kernel)
theorem zw_535 : (Cond.selects RX1 yX1_copy yX1_copy) ∈ wsL_law := List.mem_of_getElem? (i := 535) (by decide +kernel)
theorem zw_536 : (Cond.code yX1_copy cX1_copy 2 none) ∈ wsL_law := List.mem_of_getElem? (i := 536) (by decide +kernel)
theorem zw_537 : (Cond.methodLink RX1 31 arraycopyName) ∈ wsL_law := List.mem_of_getElem? (i := 537) (by decide +kernel)
theorem zw_538 : (Cond.methodLink RL 72 yX6_ahead) ∈ wsL_law := List.mem_of_getElem? (i := 538) (by decide +kernel)
theorem zw_539 : (Cond.instanceMethod yX6_ahead) ∈ wsL_law := List.mem_of_getElem? (i := 539) (by decide +kernel)
theorem zw_540 : (Cond.selects RX6 yX6_ahead yX6_ahead) ∈ wsL_law := List.mem_of_getElem? (i := 540) (by decide +kernel)
theorem zw_541 : (Cond.code yX6_ahead cX6_ahead 4 (some .int)) ∈ wsL_law := List.mem_of_getElem? (i := 541) (by decide +kernel)
theorem zw_542 : (Cond.methodLink RX6 194 yX6_layTrial) ∈ wsL_law := List.mem_of_getElem? (i := 542) (by decide +kernel)
theorem zw_543 : (Cond.instanceMethod yX6_layTrial) ∈ wsL_law := List.mem_of_getElem? (i := 543) (by decide +kernel)
theorem zw_544 : (Cond.selects RX6 yX6_layTrial yX6_layTrial) ∈ wsL_law := List.mem_of_getElem? (i := 544) (by decide +kernel)
theorem zw_545 : (Cond.code yX6_layTrial cX6_layTrial 2 none) ∈ wsL_law := List.mem_of_getElem? (i := 545) (by decide +kernel)
theorem zw_546 : (Cond.methodLink RL 73 yX5_ask) ∈ wsL_law := List.mem_of_getElem? (i := 546) (by decide +kernel)
theorem zw_547 : (Cond.instanceMethod yX5_ask) ∈ wsL_law := List.mem_of_getElem? (i := 547) (by decide +kernel)
theorem zw_548 : (Cond.selects RX5 yX5_ask yX5_ask) ∈ wsL_law := List.mem_of_getElem? (i := 548) (by decide +kernel)
theorem zw_549 : (Cond.code yX5_ask cX5_ask 2 (some .int)) ∈ wsL_law := List.mem_of_getElem? (i := 549) (by decide +kernel)
theorem zw_550 : (Cond.methodLink RX5 157 yX5_stepsTillEmpty) ∈ wsL_law := List.mem_of_getElem? (i := 550) (by decide +kernel)
theorem zw_551 : (Cond.instanceMethod yX5_stepsTillEmpty) ∈ wsL_law := List.mem_of_getElem? (i := 551) (by decide +kernel)
theorem zw_552 : (Cond.selects RX5 yX5_stepsTillEmpty yX5_stepsTillEmpty) ∈ wsL_law := List.mem_of_getElem? (i := 552) (by decide +kernel)
theorem zw_553 : (Cond.code yX5_stepsTillEmpty cX5_stepsTillEmpty 2 (some .int)) ∈ wsL_law := List.mem_of_getElem? (i := 553) (by decide +kernel)
theorem zw_554 : (Cond.methodLink RX5 236 yX1_loaded) ∈ wsL_law := List.mem_of_getElem? (i := 554) (by decide +kernel)
theorem zw_555 : (Cond.instanceMethod yX1_loaded) ∈ wsL_law := List.mem_of_getElem? (i := 555) (by decide +kernel)
theorem zw_556 : (Cond.selects RX1 yX1_loaded yX1_loaded) ∈ wsL_law := List.mem_of_getElem? (i := 556) (by decide +kernel)
theorem zw_557 : (Cond.code yX1_loaded cX1_loaded 3 (some .int)) ∈ wsL_law := List.mem_of_getElem? (i := 557) (by decide +kernel)
theorem zw_558 : (Cond.methodLink RX5 163 yX1_advanceOnce) ∈ wsL_law := List.mem_of_getElem? (i := 558) (by decide +kernel)
theorem zw_559 : (Cond.methodLink RX5 160 yX5_bestRest) ∈ wsL_law := List.mem_of_getElem? (i := 559) (by decide +kernel)
theorem zw_560 : (Cond.instanceMethod yX5_bestRest) ∈ wsL_law := List.mem_of_getElem? (i := 560) (by decide +kernel)
theorem zw_561 : (Cond.selects RX5 yX5_bestRest yX5_bestRest) ∈ wsL_law := List.mem_of_getElem? (i := 561) (by decide +kernel)
theorem zw_562 : (Cond.code yX5_bestRest cX5_bestRest 5 (some .int)) ∈ wsL_law := List.mem_of_getElem? (i := 562) (by decide +kernel)
theorem zw_563 : (Cond.methodLink RL 76 yX6_ask) ∈ wsL_law := List.mem_of_getElem? (i := 563) (by decide +kernel)
theorem zw_564 : (Cond.instanceMethod yX6_ask) ∈ wsL_law := List.mem_of_getElem? (i := 564) (by decide +kernel)
theorem zw_565 : (Cond.selects RX6 yX6_ask yX6_ask) ∈ wsL_law := List.mem_of_getElem? (i := 565) (by decide +kernel)
theorem zw_566 : (Cond.code yX6_ask cX6_ask 2 (some .int)) ∈ wsL_law := List.mem_of_getElem? (i := 566) (by decide +kernel)
theorem zw_567 : (Cond.methodLink RX6 197 yX6_emptyOf) ∈ wsL_law := List.mem_of_getElem? (i := 567) (by decide +kernel)
theorem zw_568 : (Cond.instanceMethod yX6_emptyOf) ∈ wsL_law := List.mem_of_getElem? (i := 568) (by decide +kernel)
theorem zw_569 : (Cond.selects RX6 yX6_emptyOf yX6_emptyOf) ∈ wsL_law := List.mem_of_getElem? (i := 569) (by decide +kernel)
theorem zw_570 : (Cond.code yX6_emptyOf cX6_emptyOf 2 (some .int)) ∈ wsL_law := List.mem_of_getElem? (i := 570) (by decide +kernel)
theorem zw_571 : (Cond.methodLink RX6 200 yX6_bestRest) ∈ wsL_law := List.mem_of_getElem? (i := 571) (by decide +kernel)
theorem zw_572 : (Cond.instanceMethod yX6_bestRest) ∈ wsL_law := List.mem_of_getElem? (i := 572) (by decide +kernel)
theorem zw_573 : (Cond.selects RX6 yX6_bestRest yX6_bestRest) ∈ wsL_law := List.mem_of_getElem? (i := 573) (by decide +kernel)
theorem zw_574 : (Cond.code yX6_bestRest cX6_bestRest 5 (some .int)) ∈ wsL_law := List.mem_of_getElem? (i := 574) (by decide +kernel)
theorem zw_575 : (Cond.methodLink RX6 203 yX6_manyOut) ∈ wsL_law := List.mem_of_getElem? (i := 575) (by decide +kernel)
theorem zw_576 : (Cond.instanceMethod yX6_manyOut) ∈ wsL_law := List.mem_of_getElem? (i := 576) (by decide +kernel)
theorem zw_577 : (Cond.selects RX6 yX6_manyOut yX6_manyOut) ∈ wsL_law := List.mem_of_getElem? (i := 577) (by decide +kernel)
theorem zw_578 : (Cond.code yX6_manyOut cX6_manyOut 1 (some .int)) ∈ wsL_law := List.mem_of_getElem? (i := 578) (by decide +kernel)
theorem zw_579 : (Cond.methodLink RL 77 yX5_row) ∈ wsL_law := List.mem_of_getElem? (i := 579) (by decide +kernel)
theorem zw_580 : (Cond.instanceMethod yX5_row) ∈ wsL_law := List.mem_of_getElem? (i := 580) (by decide +kernel)
theorem zw_581 : (Cond.selects RX5 yX5_row yX5_row) ∈ wsL_law := List.mem_of_getElem? (i := 581) (by decide +kernel)
theorem zw_582 : (Cond.code yX5_row cX5_row 4 (some .int)) ∈ wsL_law := List.mem_of_getElem? (i := 582) (by decide +kernel)
theorem zw_583 : (Cond.fieldLink RX5 166 "ZoneBelt$Belt" "justOut" "I") ∈ wsL_law := List.mem_of_getElem? (i := 583) (by decide +kernel)
theorem zw_584 : (Cond.methodLink RL 80 yX6_row) ∈ wsL_law := List.mem_of_getElem? (i := 584) (by decide +kernel)
theorem zw_585 : (Cond.instanceMethod yX6_row) ∈ wsL_law := List.mem_of_getElem? (i := 585) (by decide +kernel)
theorem zw_586 : (Cond.selects RX6 yX6_row yX6_row) ∈ wsL_law := List.mem_of_getElem? (i := 586) (by decide +kernel)
theorem zw_587 : (Cond.code yX6_row cX6_row 2 (some .int)) ∈ wsL_law := List.mem_of_getElem? (i := 587) (by decide +kernel)
theorem zw_588 : (Cond.methodLink RX6 206 yX6_rowAt) ∈ wsL_law := List.mem_of_getElem? (i := 588) (by decide +kernel)
theorem zw_589 : (Cond.instanceMethod yX6_rowAt) ∈ wsL_law := List.mem_of_getElem? (i := 589) (by decide +kernel)
theorem zw_590 : (Cond.selects RX6 yX6_rowAt yX6_rowAt) ∈ wsL_law := List.mem_of_getElem? (i := 590) (by decide +kernel)
theorem zw_591 : (Cond.code yX6_rowAt cX6_rowAt 4 (some .int)) ∈ wsL_law := List.mem_of_getElem? (i := 591) (by decide +kernel)
theorem zw_592 : (Cond.methodLink RL 83 yX5_judge) ∈ wsL_law := List.mem_of_getElem? (i := 592) (by decide +kernel)
theorem zw_593 : (Cond.instanceMethod yX5_judge) ∈ wsL_law := List.mem_of_getElem? (i := 593) (by decide +kernel)
theorem zw_594 : (Cond.selects RX5 yX5_judge yX5_judge) ∈ wsL_law := List.mem_of_getElem? (i := 594) (by decide +kernel)
theorem zw_595 : (Cond.code yX5_judge cX5_judge 7 (some .int)) ∈ wsL_law := List.mem_of_getElem? (i := 595) (by decide +kernel)
theorem zw_596 : (Cond.fieldLink RX5 169 "ZoneBelt" "THOUSANDS" "[J") ∈ wsL_law := List.mem_of_getElem? (i := 596) (by decide +kernel)
theorem zw_597 : (Cond.constantLong RX5 173 (1000)) ∈ wsL_law := List.mem_of_getElem? (i := 597) (by decide +kernel)
theorem zw_598 : (Cond.methodLink RX5 175 yX5_holds) ∈ wsL_law := List.mem_of_getElem? (i := 598) (by decide +kernel)
theorem zw_599 : (Cond.static yX5_holds) ∈ wsL_law := List.mem_of_getElem? (i := 599) (by decide +kernel)
theorem zw_600 : (Cond.code yX5_holds cX5_holds 5 (some .boolean)) ∈ wsL_law := List.mem_of_getElem? (i := 600) (by decide +kernel)
theorem zw_601 : (Cond.methodLink RX5 242 yX5_feedTold) ∈ wsL_law := List.mem_of_getElem? (i := 601) (by decide +kernel)
theorem zw_602 : (Cond.static yX5_feedTold) ∈ wsL_law := List.mem_of_getElem? (i := 602) (by decide +kernel)
theorem zw_603 : (Cond.code yX5_feedTold cX5_feedTold 2 (some .boolean)) ∈ wsL_law := List.mem_of_getElem? (i := 603) (by decide +kernel)
theorem zw_604 : (Cond.methodLink RX5 245 yX5_liftTold) ∈ wsL_law := List.mem_of_getElem? (i := 604) (by decide +kernel)
theorem zw_605 : (Cond.static yX5_liftTold) ∈ wsL_law := List.mem_of_getElem? (i := 605) (by decide +kernel)
theorem zw_606 : (Cond.code yX5_liftTold cX5_liftTold 2 (some .boolean)) ∈ wsL_law := List.mem_of_getElem? (i := 606) (by decide +kernel)
theorem zw_607 : (Cond.methodLink RX5 248 yX5_turnTold) ∈ wsL_law := List.mem_of_getElem? (i := 607) (by decide +kernel)
theorem zw_608 : (Cond.static yX5_turnTold) ∈ wsL_law := List.mem_of_getElem? (i := 608) (by decide +kernel)
theorem zw_609 : (Cond.code yX5_turnTold cX5_turnTold 2 (some .boolean)) ∈ wsL_law := List.mem_of_getElem? (i := 609) (by decide +kernel)
theorem zw_610 : (Cond.methodLink RX5 251 yX5_eyeTold) ∈ wsL_law := List.mem_of_getElem? (i := 610) (by decide +kernel)
theorem zw_611 : (Cond.static yX5_eyeTold) ∈ wsL_law := List.mem_of_getElem? (i := 611) (by decide +kernel)
theorem zw_612 : (Cond.code yX5_eyeTold cX5_eyeTold 3 (some .boolean)) ∈ wsL_law := List.mem_of_getElem? (i := 612) (by decide +kernel)
theorem zw_613 : (Cond.methodLink RL 87 yX6_judge) ∈ wsL_law := List.mem_of_getElem? (i := 613) (by decide +kernel)
theorem zw_614 : (Cond.instanceMethod yX6_judge) ∈ wsL_law := List.mem_of_getElem? (i := 614) (by decide +kernel)
theorem zw_615 : (Cond.selects RX6 yX6_judge yX6_judge) ∈ wsL_law := List.mem_of_getElem? (i := 615) (by decide +kernel)
theorem zw_616 : (Cond.code yX6_judge cX6_judge 6 (some .int)) ∈ wsL_law := List.mem_of_getElem? (i := 616) (by decide +kernel)
theorem zw_617 : (Cond.constantLong RX6 209 (4)) ∈ wsL_law := List.mem_of_getElem? (i := 617) (by decide +kernel)
theorem zw_618 : (Cond.constantLong RX6 211 (1000)) ∈ wsL_law := List.mem_of_getElem? (i := 618) (by decide +kernel)
theorem zw_619 : (Cond.methodLink RX6 213 yX6_longPower) ∈ wsL_law := List.mem_of_getElem? (i := 619) (by decide +kernel)
theorem zw_620 : (Cond.static yX6_longPower) ∈ wsL_law := List.mem_of_getElem? (i := 620) (by decide +kernel)
theorem zw_621 : (Cond.code yX6_longPower cX6_longPower 6 (some .long)) ∈ wsL_law := List.mem_of_getElem? (i := 621) (by decide +kernel)
theorem zw_622 : (Cond.methodLink RX6 217 yX6_does) ∈ wsL_law := List.mem_of_getElem? (i := 622) (by decide +kernel)
theorem zw_623 : (Cond.instanceMethod yX6_does) ∈ wsL_law := List.mem_of_getElem? (i := 623) (by decide +kernel)
theorem zw_624 : (Cond.selects RX6 yX6_does yX6_does) ∈ wsL_law := List.mem_of_getElem? (i := 624) (by decide +kernel)
theorem zw_625 : (Cond.code yX6_does cX6_does 4 (some .boolean)) ∈ wsL_law := List.mem_of_getElem? (i := 625) (by decide +kernel)
theorem zw_626 : (Cond.methodLink RL 88 yX5_see) ∈ wsL_law := List.mem_of_getElem? (i := 626) (by decide +kernel)
theorem zw_627 : (Cond.instanceMethod yX5_see) ∈ wsL_law := List.mem_of_getElem? (i := 627) (by decide +kernel)
theorem zw_628 : (Cond.selects RX5 yX5_see yX5_see) ∈ wsL_law := List.mem_of_getElem? (i := 628) (by decide +kernel)
theorem zw_629 : (Cond.code yX5_see cX5_see 4 (some .int)) ∈ wsL_law := List.mem_of_getElem? (i := 629) (by decide +kernel)
theorem zw_630 : (Cond.fieldLink RX5 182 "ZoneBelt$Sightings" "size" "I") ∈ wsL_law := List.mem_of_getElem? (i := 630) (by decide +kernel)
theorem zw_631 : (Cond.methodLink RX5 179 yX2_append) ∈ wsL_law := List.mem_of_getElem? (i := 631) (by decide +kernel)
theorem zw_632 : (Cond.instanceMethod yX2_append) ∈ wsL_law := List.mem_of_getElem? (i := 632) (by decide +kernel)
theorem zw_633 : (Cond.selects RX2 yX2_append yX2_append) ∈ wsL_law := List.mem_of_getElem? (i := 633) (by decide +kernel)
theorem zw_634 : (Cond.code yX2_append cX2_append 4 (some .boolean)) ∈ wsL_law := List.mem_of_getElem? (i := 634) (by decide +kernel)
theorem zw_635 : (Cond.methodLink RL 91 yX6_see) ∈ wsL_law := List.mem_of_getElem? (i := 635) (by decide +kernel)
theorem zw_636 : (Cond.instanceMethod yX6_see) ∈ wsL_law := List.mem_of_getElem? (i := 636) (by decide +kernel)
theorem zw_637 : (Cond.selects RX6 yX6_see yX6_see) ∈ wsL_law := List.mem_of_getElem? (i := 637) (by decide +kernel)
theorem zw_638 : (Cond.code yX6_see cX6_see 4 (some .int)) ∈ wsL_law := List.mem_of_getElem? (i := 638) (by decide +kernel)
theorem zw_639 : (Cond.constantLong RX6 221 (30)) ∈ wsL_law := List.mem_of_getElem? (i := 639) (by decide +kernel)
theorem zw_640 : (Cond.fieldLink RX6 223 "ZoneBeltModel" "seen" "I") ∈ wsL_law := List.mem_of_getElem? (i := 640) (by decide +kernel)
theorem zw_641 : (Cond.methodLink RL 92 yX5_unsee) ∈ wsL_law := List.mem_of_getElem? (i := 641) (by decide +kernel)
theorem zw_642 : (Cond.instanceMethod yX5_unsee) ∈ wsL_law := List.mem_of_getElem? (i := 642) (by decide +kernel)
theorem zw_643 : (Cond.selects RX5 yX5_unsee yX5_unsee) ∈ wsL_law := List.mem_of_getElem? (i := 643) (by decide +kernel)
theorem zw_644 : (Cond.code yX5_unsee cX5_unsee 2 (some .int)) ∈ wsL_law := List.mem_of_getElem? (i := 644) (by decide +kernel)
theorem zw_645 : (Cond.methodLink RL 95 yX6_unsee) ∈ wsL_law := List.mem_of_getElem? (i := 645) (by decide +kernel)
theorem zw_646 : (Cond.instanceMethod yX6_unsee) ∈ wsL_law := List.mem_of_getElem? (i := 646) (by decide +kernel)
theorem zw_647 : (Cond.selects RX6 yX6_unsee yX6_unsee) ∈ wsL_law := List.mem_of_getElem? (i := 647) (by decide +kernel)
theorem zw_648 : (Cond.code yX6_unsee cX6_unsee 2 (some .int)) ∈ wsL_law := List.mem_of_getElem? (i := 648) (by decide +kernel)
theorem zw_649 : (Cond.methodLink RL 96 yX5_which) ∈ wsL_law := List.mem_of_getElem? (i := 649) (by decide +kernel)
theorem zw_650 : (Cond.instanceMethod yX5_which) ∈ wsL_law := List.mem_of_getElem? (i := 650) (by decide +kernel)
theorem zw_651 : (Cond.selects RX5 yX5_which yX5_which) ∈ wsL_law := List.mem_of_getElem? (i := 651) (by decide +kernel)
theorem zw_652 : (Cond.code yX5_which cX5_which 3 (some .int)) ∈ wsL_law := List.mem_of_getElem? (i := 652) (by decide +kernel)
theorem zw_653 : (Cond.methodLink RX5 183 yX2_allSo) ∈ wsL_law := List.mem_of_getElem? (i := 653) (by decide +kernel)
theorem zw_654 : (Cond.instanceMethod yX2_allSo) ∈ wsL_law := List.mem_of_getElem? (i := 654) (by decide +kernel)
theorem zw_655 : (Cond.selects RX2 yX2_allSo yX2_allSo) ∈ wsL_law := List.mem_of_getElem? (i := 655) (by decide +kernel)
theorem zw_656 : (Cond.code yX2_allSo cX2_allSo 4 (some .boolean)) ∈ wsL_law := List.mem_of_getElem? (i := 656) (by decide +kernel)
theorem zw_657 : (Cond.fieldLink RX2 27 "ZoneBelt$Belt" "cells" "[I") ∈ wsL_law := List.mem_of_getElem? (i := 657) (by decide +kernel)
theorem zw_658 : (Cond.methodLink RX2 23 yX2_latest) ∈ wsL_law := List.mem_of_getElem? (i := 658) (by decide +kernel)
theorem zw_659 : (Cond.instanceMethod yX2_latest) ∈ wsL_law := List.mem_of_getElem? (i := 659) (by decide +kernel)
theorem zw_660 : (Cond.selects RX2 yX2_latest yX2_latest) ∈ wsL_law := List.mem_of_getElem? (i := 660) (by decide +kernel)
theorem zw_661 : (Cond.code yX2_latest cX2_latest 3 (some .int)) ∈ wsL_law := List.mem_of_getElem? (i := 661) (by decide +kernel)
theorem zw_662 : (Cond.methodLink RX2 39 Lib.Math.max.name) ∈ wsL_law := List.mem_of_getElem? (i := 662) (by decide +kernel)
theorem zw_663 : (Cond.methodLink RX2 32 yX2_soBehind) ∈ wsL_law := List.mem_of_getElem? (i := 663) (by decide +kernel)
theorem zw_664 : (Cond.instanceMethod yX2_soBehind) ∈ wsL_law := List.mem_of_getElem? (i := 664) (by decide +kernel)
theorem zw_665 : (Cond.selects RX2 yX2_soBehind yX2_soBehind) ∈ wsL_law := List.mem_of_getElem? (i := 665) (by decide +kernel)
theorem zw_666 : (Cond.code yX2_soBehind cX2_soBehind 4 (some .boolean)) ∈ wsL_law := List.mem_of_getElem? (i := 666) (by decide +kernel)
theorem zw_667 : (Cond.methodLink RX2 36 yX1_advanceOnce) ∈ wsL_law := List.mem_of_getElem? (i := 667) (by decide +kernel)
theorem zw_668 : (Cond.methodLink RL 99 yX6_which) ∈ wsL_law := List.mem_of_getElem? (i := 668) (by decide +kernel)
theorem zw_669 : (Cond.instanceMethod yX6_which) ∈ wsL_law := List.mem_of_getElem? (i := 669) (by decide +kernel)
theorem zw_670 : (Cond.selects RX6 yX6_which yX6_which) ∈ wsL_law := List.mem_of_getElem? (i := 670) (by decide +kernel)
theorem zw_671 : (Cond.code yX6_which cX6_which 5 (some .int)) ∈ wsL_law := List.mem_of_getElem? (i := 671) (by decide +kernel)
theorem zw_672 : (Cond.methodLink RX6 226 yX6_isSo) ∈ wsL_law := List.mem_of_getElem? (i := 672) (by decide +kernel)
theorem zw_673 : (Cond.instanceMethod yX6_isSo) ∈ wsL_law := List.mem_of_getElem? (i := 673) (by decide +kernel)
theorem zw_674 : (Cond.selects RX6 yX6_isSo yX6_isSo) ∈ wsL_law := List.mem_of_getElem? (i := 674) (by decide +kernel)
theorem zw_675 : (Cond.code yX6_isSo cX6_isSo 3 (some .boolean)) ∈ wsL_law := List.mem_of_getElem? (i := 675) (by decide +kernel)
theorem zw_676 : (Cond.methodLink RL 100 yX5_share) ∈ wsL_law := List.mem_of_getElem? (i := 676) (by decide +kernel)
theorem zw_677 : (Cond.instanceMethod yX5_share) ∈ wsL_law := List.mem_of_getElem? (i := 677) (by decide +kernel)
theorem zw_678 : (Cond.selects RX5 yX5_share yX5_share) ∈ wsL_law := List.mem_of_getElem? (i := 678) (by decide +kernel)
theorem zw_679 : (Cond.code yX5_share cX5_share 6 (some .int)) ∈ wsL_law := List.mem_of_getElem? (i := 679) (by decide +kernel)
theorem zw_680 : (Cond.fieldLink RX5 198 "ZoneBelt" "FACTORIALS" "[I") ∈ wsL_law := List.mem_of_getElem? (i := 680) (by decide +kernel)
theorem zw_681 : (Cond.methodLink RX5 186 yX1_countUnsound) ∈ wsL_law := List.mem_of_getElem? (i := 681) (by decide +kernel)
theorem zw_682 : (Cond.instanceMethod yX1_countUnsound) ∈ wsL_law := List.mem_of_getElem? (i := 682) (by decide +kernel)
theorem zw_683 : (Cond.selects RX1 yX1_countUnsound yX1_countUnsound) ∈ wsL_law := List.mem_of_getElem? (i := 683) (by decide +kernel)
theorem zw_684 : (Cond.code yX1_countUnsound cX1_countUnsound 3 (some .int)) ∈ wsL_law := List.mem_of_getElem? (i := 684) (by decide +kernel)
theorem zw_685 : (Cond.methodLink RX5 189 yX5_listUnsound) ∈ wsL_law := List.mem_of_getElem? (i := 685) (by decide +kernel)
theorem zw_686 : (Cond.instanceMethod yX5_listUnsound) ∈ wsL_law := List.mem_of_getElem? (i := 686) (by decide +kernel)
theorem zw_687 : (Cond.selects RX5 yX5_listUnsound yX5_listUnsound) ∈ wsL_law := List.mem_of_getElem? (i := 687) (by decide +kernel)
theorem zw_688 : (Cond.code yX5_listUnsound cX5_listUnsound 5 (some .int)) ∈ wsL_law := List.mem_of_getElem? (i := 688) (by decide +kernel)
theorem zw_689 : (Cond.methodLink RX5 192 yX5_outWith) ∈ wsL_law := List.mem_of_getElem? (i := 689) (by decide +kernel)
theorem zw_690 : (Cond.instanceMethod yX5_outWith) ∈ wsL_law := List.mem_of_getElem? (i := 690) (by decide +kernel)
theorem zw_691 : (Cond.selects RX5 yX5_outWith yX5_outWith) ∈ wsL_law := List.mem_of_getElem? (i := 691) (by decide +kernel)
theorem zw_692 : (Cond.code yX5_outWith cX5_outWith 4 (some .int)) ∈ wsL_law := List.mem_of_getElem? (i := 692) (by decide +kernel)
theorem zw_693 : (Cond.methodLink RX5 195 yX5_gainInAllOrders) ∈ wsL_law := List.mem_of_getElem? (i := 693) (by decide +kernel)
theorem zw_694 : (Cond.instanceMethod yX5_gainInAllOrders) ∈ wsL_law := List.mem_of_getElem? (i := 694) (by decide +kernel)
theorem zw_695 : (Cond.selects RX5 yX5_gainInAllOrders yX5_gainInAllOrders) ∈ wsL_law := List.mem_of_getElem? (i := 695) (by decide +kernel)
theorem zw_696 : (Cond.code yX5_gainInAllOrders cX5_gainInAllOrders 7 (some .int)) ∈ wsL_law := List.mem_of_getElem? (i := 696) (by decide +kernel)
theorem zw_697 : (Cond.methodLink RX5 201 yX5_fraction) ∈ wsL_law := List.mem_of_getElem? (i := 697) (by decide +kernel)
theorem zw_698 : (Cond.static yX5_fraction) ∈ wsL_law := List.mem_of_getElem? (i := 698) (by decide +kernel)
theorem zw_699 : (Cond.code yX5_fraction cX5_fraction 4 (some .int)) ∈ wsL_law := List.mem_of_getElem? (i := 699) (by decide +kernel)
theorem zw_700 : (Cond.methodLink RX5 255 Lib.Math.abs.name) ∈ wsL_law := List.mem_of_getElem? (i := 700) (by decide +kernel)
theorem zw_701 : (Cond.static Lib.Math.abs.name) ∈ wsL_law := List.mem_of_getElem? (i := 701) (by decide +kernel)
theorem zw_702 : (Cond.code Lib.Math.abs.name Lib.Math.abs.code 1 (some .int)) ∈ wsL_law := List.mem_of_getElem? (i := 702) (by decide +kernel)
theorem zw_703 : (Cond.methodLink RX5 260 yX5_commonDivisor) ∈ wsL_law := List.mem_of_getElem? (i := 703) (by decide +kernel)
theorem zw_704 : (Cond.static yX5_commonDivisor) ∈ wsL_law := List.mem_of_getElem? (i := 704) (by decide +kernel)
theorem zw_705 : (Cond.code yX5_commonDivisor cX5_commonDivisor 6 (some .int)) ∈ wsL_law := List.mem_of_getElem? (i := 705) (by decide +kernel)
theorem zw_706 : (Cond.methodLink RL 104 yX6_share) ∈ wsL_law := List.mem_of_getElem? (i := 706) (by decide +kernel)
theorem zw_707 : (Cond.instanceMethod yX6_share) ∈ wsL_law := List.mem_of_getElem? (i := 707) (by decide +kernel)
theorem zw_708 : (Cond.selects RX6 yX6_share yX6_share) ∈ wsL_law := List.mem_of_getElem? (i := 708) (by decide +kernel)
theorem zw_709 : (Cond.code yX6_share cX6_share 8 (some .int)) ∈ wsL_law := List.mem_of_getElem? (i := 709) (by decide +kernel)
theorem zw_710 : (Cond.methodLink RX6 232 yX6_factorial) ∈ wsL_law := List.mem_of_getElem? (i := 710) (by decide +kernel)
theorem zw_711 : (Cond.static yX6_factorial) ∈ wsL_law := List.mem_of_getElem? (i := 711) (by decide +kernel)
theorem zw_712 : (Cond.code yX6_factorial cX6_factorial 3 (some .int)) ∈ wsL_law := List.mem_of_getElem? (i := 712) (by decide +kernel)
theorem zw_713 : (Cond.methodLink RX6 235 yX6_goneBy) ∈ wsL_law := List.mem_of_getElem? (i := 713) (by decide +kernel)
theorem zw_714 : (Cond.instanceMethod yX6_goneBy) ∈ wsL_law := List.mem_of_getElem? (i := 714) (by decide +kernel)
theorem zw_715 : (Cond.selects RX6 yX6_goneBy yX6_goneBy) ∈ wsL_law := List.mem_of_getElem? (i := 715) (by decide +kernel)
theorem zw_716 : (Cond.code yX6_goneBy cX6_goneBy 3 (some .int)) ∈ wsL_law := List.mem_of_getElem? (i := 716) (by decide +kernel)
theorem zw_717 : (Cond.methodLink RX6 238 yX6_fraction) ∈ wsL_law := List.mem_of_getElem? (i := 717) (by decide +kernel)
theorem zw_718 : (Cond.static yX6_fraction) ∈ wsL_law := List.mem_of_getElem? (i := 718) (by decide +kernel)
theorem zw_719 : (Cond.code yX6_fraction cX6_fraction 4 (some .int)) ∈ wsL_law := List.mem_of_getElem? (i := 719) (by decide +kernel)
theorem zw_720 : (Cond.methodLink RX6 229 yX6_divisor) ∈ wsL_law := List.mem_of_getElem? (i := 720) (by decide +kernel)
theorem zw_721 : (Cond.static yX6_divisor) ∈ wsL_law := List.mem_of_getElem? (i := 721) (by decide +kernel)
theorem zw_722 : (Cond.code yX6_divisor cX6_divisor 5 (some .int)) ∈ wsL_law := List.mem_of_getElem? (i := 722) (by decide +kernel)
theorem zw_723 : (Cond.methodLink RL 105 yX5_shut) ∈ wsL_law := List.mem_of_getElem? (i := 723) (by decide +kernel)
theorem zw_724 : (Cond.instanceMethod yX5_shut) ∈ wsL_law := List.mem_of_getElem? (i := 724) (by decide +kernel)
theorem zw_725 : (Cond.selects RX5 yX5_shut yX5_shut) ∈ wsL_law := List.mem_of_getElem? (i := 725) (by decide +kernel)
theorem zw_726 : (Cond.code yX5_shut cX5_shut 4 (some .int)) ∈ wsL_law := List.mem_of_getElem? (i := 726) (by decide +kernel)
theorem zw_727 : (Cond.methodLink RX5 205 yX5_waysToEmpty) ∈ wsL_law := List.mem_of_getElem? (i := 727) (by decide +kernel)
theorem zw_728 : (Cond.static yX5_waysToEmpty) ∈ wsL_law := List.mem_of_getElem? (i := 728) (by decide +kernel)
theorem zw_729 : (Cond.code yX5_waysToEmpty cX5_waysToEmpty 7 (some .int)) ∈ wsL_law := List.mem_of_getElem? (i := 729) (by decide +kernel)
theorem zw_730 : (Cond.methodLink RX5 209 yX5_tenToThe) ∈ wsL_law := List.mem_of_getElem? (i := 730) (by decide +kernel)
theorem zw_731 : (Cond.static yX5_tenToThe) ∈ wsL_law := List.mem_of_getElem? (i := 731) (by decide +kernel)
theorem zw_732 : (Cond.code yX5_tenToThe cX5_tenToThe 3 (some .int)) ∈ wsL_law := List.mem_of_getElem? (i := 732) (by decide +kernel)
theorem zw_733 : (Cond.methodLink RX5 216 yX3_put) ∈ wsL_law := List.mem_of_getElem? (i := 733) (by decide +kernel)
theorem zw_734 : (Cond.methodLink RX5 224 yX3_get) ∈ wsL_law := List.mem_of_getElem? (i := 734) (by decide +kernel)
theorem zw_735 : (Cond.methodLink RL 109 yX6_shut) ∈ wsL_law := List.mem_of_getElem? (i := 735) (by decide +kernel)
theorem zw_736 : (Cond.instanceMethod yX6_shut) ∈ wsL_law := List.mem_of_getElem? (i := 736) (by decide +kernel)
theorem zw_737 : (Cond.selects RX6 yX6_shut yX6_shut) ∈ wsL_law := List.mem_of_getElem? (i := 737) (by decide +kernel)
theorem zw_738 : (Cond.code yX6_shut cX6_shut 7 (some .int)) ∈ wsL_law := List.mem_of_getElem? (i := 738) (by decide +kernel)
theorem zw_739 : (Cond.constantLong RX6 242 (8)) ∈ wsL_law := List.mem_of_getElem? (i := 739) (by decide +kernel)
theorem zw_740 : (Cond.constantLong RX6 244 (10)) ∈ wsL_law := List.mem_of_getElem? (i := 740) (by decide +kernel)
theorem zw_741 : (Cond.methodLink RX6 246 yX6_power) ∈ wsL_law := List.mem_of_getElem? (i := 741) (by decide +kernel)
theorem zw_742 : (Cond.static yX6_power) ∈ wsL_law := List.mem_of_getElem? (i := 742) (by decide +kernel)
theorem zw_743 : (Cond.code yX6_power cX6_power 4 (some .int)) ∈ wsL_law := List.mem_of_getElem? (i := 743) (by decide +kernel)
theorem zw_744 : (Cond.methodLink RL 110 yX5_seed) ∈ wsL_law := List.mem_of_getElem? (i := 744) (by decide +kernel)
theorem zw_745 : (Cond.instanceMethod yX5_seed) ∈ wsL_law := List.mem_of_getElem? (i := 745) (by decide +kernel)
theorem zw_746 : (Cond.selects RX5 yX5_seed yX5_seed) ∈ wsL_law := List.mem_of_getElem? (i := 746) (by decide +kernel)
theorem zw_747 : (Cond.code yX5_seed cX5_seed 5 (some .long)) ∈ wsL_law := List.mem_of_getElem? (i := 747) (by decide +kernel)
theorem zw_748 : (Cond.methodLink RL 114 yX6_seed) ∈ wsL_law := List.mem_of_getElem? (i := 748) (by decide +kernel)
theorem zw_749 : (Cond.instanceMethod yX6_seed) ∈ wsL_law := List.mem_of_getElem? (i := 749) (by decide +kernel)
theorem zw_750 : (Cond.selects RX6 yX6_seed yX6_seed) ∈ wsL_law := List.mem_of_getElem? (i := 750) (by decide +kernel)
theorem zw_751 : (Cond.code yX6_seed cX6_seed 5 (some .long)) ∈ wsL_law := List.mem_of_getElem? (i := 751) (by decide +kernel)
theorem zw_752 : (Cond.fieldLink RX6 249 "ZoneBeltModel" "seed" "J") ∈ wsL_law := List.mem_of_getElem? (i := 752) (by decide +kernel)
theorem zw_753 : (Cond.methodLink RL 115 yX5_drawn) ∈ wsL_law := List.mem_of_getElem? (i := 753) (by decide +kernel)
theorem zw_754 : (Cond.instanceMethod yX5_drawn) ∈ wsL_law := List.mem_of_getElem? (i := 754) (by decide +kernel)
theorem zw_755 : (Cond.selects RX5 yX5_drawn yX5_drawn) ∈ wsL_law := List.mem_of_getElem? (i := 755) (by decide +kernel)
theorem zw_756 : (Cond.code yX5_drawn cX5_drawn 4 (some .int)) ∈ wsL_law := List.mem_of_getElem? (i := 756) (by decide +kernel)
theorem zw_757 : (Cond.constantLong RX5 212 (6364136223846793005)) ∈ wsL_law := List.mem_of_getElem? (i := 757) (by decide +kernel)
theorem zw_758 : (Cond.constantLong RX5 214 (1442695040888963407)) ∈ wsL_law := List.mem_of_getElem? (i := 758) (by decide +kernel)
theorem zw_759 : (Cond.methodLink RL 118 yX6_drawn) ∈ wsL_law := List.mem_of_getElem? (i := 759) (by decide +kernel)
theorem zw_760 : (Cond.instanceMethod yX6_drawn) ∈ wsL_law := List.mem_of_getElem? (i := 760) (by decide +kernel)
theorem zw_761 : (Cond.selects RX6 yX6_drawn yX6_drawn) ∈ wsL_law := List.mem_of_getElem? (i := 761) (by decide +kernel)
theorem zw_762 : (Cond.code yX6_drawn cX6_drawn 4 (some .int)) ∈ wsL_law := List.mem_of_getElem? (i := 762) (by decide +kernel)
theorem zw_763 : (Cond.constantLong RX6 253 (40)) ∈ wsL_law := List.mem_of_getElem? (i := 763) (by decide +kernel)
theorem zw_764 : (Cond.constantLong RX6 255 (6364136223846793005)) ∈ wsL_law := List.mem_of_getElem? (i := 764) (by decide +kernel)
theorem zw_765 : (Cond.constantLong RX6 257 (1442695040888963407)) ∈ wsL_law := List.mem_of_getElem? (i := 765) (by decide +kernel)
theorem zw_766 : (Cond.methodLink RL 119 yX5_keep) ∈ wsL_law := List.mem_of_getElem? (i := 766) (by decide +kernel)
theorem zw_767 : (Cond.instanceMethod yX5_keep) ∈ wsL_law := List.mem_of_getElem? (i := 767) (by decide +kernel)
theorem zw_768 : (Cond.selects RX5 yX5_keep yX5_keep) ∈ wsL_law := List.mem_of_getElem? (i := 768) (by decide +kernel)
theorem zw_769 : (Cond.code yX5_keep cX5_keep 2 (some .int)) ∈ wsL_law := List.mem_of_getElem? (i := 769) (by decide +kernel)
theorem zw_770 : (Cond.methodLink RL 122 yX6_keep) ∈ wsL_law := List.mem_of_getElem? (i := 770) (by decide +kernel)
theorem zw_771 : (Cond.instanceMethod yX6_keep) ∈ wsL_law := List.mem_of_getElem? (i := 771) (by decide +kernel)
theorem zw_772 : (Cond.selects RX6 yX6_keep yX6_keep) ∈ wsL_law := List.mem_of_getElem? (i := 772) (by decide +kernel)
theorem zw_773 : (Cond.code yX6_keep cX6_keep 3 (some .int)) ∈ wsL_law := List.mem_of_getElem? (i := 773) (by decide +kernel)
theorem zw_774 : (Cond.methodLink RL 123 yX5_again) ∈ wsL_law := List.mem_of_getElem? (i := 774) (by decide +kernel)
theorem zw_775 : (Cond.instanceMethod yX5_again) ∈ wsL_law := List.mem_of_getElem? (i := 775) (by decide +kernel)
theorem zw_776 : (Cond.selects RX5 yX5_again yX5_again) ∈ wsL_law := List.mem_of_getElem? (i := 776) (by decide +kernel)
theorem zw_777 : (Cond.code yX5_again cX5_again 2 (some .int)) ∈ wsL_law := List.mem_of_getElem? (i := 777) (by decide +kernel)
theorem zw_778 : (Cond.methodLink RL 126 yX6_again) ∈ wsL_law := List.mem_of_getElem? (i := 778) (by decide +kernel)
theorem zw_779 : (Cond.instanceMethod yX6_again) ∈ wsL_law := List.mem_of_getElem? (i := 779) (by decide +kernel)
theorem zw_780 : (Cond.selects RX6 yX6_again yX6_again) ∈ wsL_law := List.mem_of_getElem? (i := 780) (by decide +kernel)
theorem zw_781 : (Cond.code yX6_again cX6_again 3 (some .int)) ∈ wsL_law := List.mem_of_getElem? (i := 781) (by decide +kernel)
theorem zw_782 : (Cond.methodLink RL 127 yX5_count) ∈ wsL_law := List.mem_of_getElem? (i := 782) (by decide +kernel)
theorem zw_783 : (Cond.instanceMethod yX5_count) ∈ wsL_law := List.mem_of_getElem? (i := 783) (by decide +kernel)
theorem zw_784 : (Cond.selects RX5 yX5_count yX5_count) ∈ wsL_law := List.mem_of_getElem? (i := 784) (by decide +kernel)
theorem zw_785 : (Cond.code yX5_count cX5_count 2 (some .int)) ∈ wsL_law := List.mem_of_getElem? (i := 785) (by decide +kernel)
theorem zw_786 : (Cond.fieldLink RX5 227 "ZoneBelt$Belt" "mainZones" "I") ∈ wsL_law := List.mem_of_getElem? (i := 786) (by decide +kernel)
theorem zw_787 : (Cond.fieldLink RX5 230 "ZoneBelt$Belt" "sideZones" "I") ∈ wsL_law := List.mem_of_getElem? (i := 787) (by decide +kernel)
theorem zw_788 : (Cond.fieldLink RX5 233 "ZoneBelt$Belt" "meeting" "I") ∈ wsL_law := List.mem_of_getElem? (i := 788) (by decide +kernel)
theorem zw_789 : (Cond.methodLink RL 130 yX6_count) ∈ wsL_law := List.mem_of_getElem? (i := 789) (by decide +kernel)
theorem zw_790 : (Cond.instanceMethod yX6_count) ∈ wsL_law := List.mem_of_getElem? (i := 790) (by decide +kernel)
theorem zw_791 : (Cond.selects RX6 yX6_count yX6_count) ∈ wsL_law := List.mem_of_getElem? (i := 791) (by decide +kernel)
theorem zw_792 : (Cond.code yX6_count cX6_count 2 (some .int)) ∈ wsL_law := List.mem_of_getElem? (i := 792) (by decide +kernel)
end
section
theorem dX0_init_0 : decode cX0_init 0 = .ok (.aload_n 0, 1) := by decide +kernel
theorem dX0_init_1 : decode cX0_init 1 = .ok (.invokespecial 3, 3) := by decide +kernel
theorem dX0_init_4 : decode cX0_init 4 = .ok (.aload_n 0, 1) := by decide +kernel
theorem dX0_init_5 : decode cX0_init 5 = .ok (.new 9, 3) := by decide +kernel
theorem dX0_init_8 : decode cX0_init 8 = .ok (.dup, 1) := by decide +kernel
theorem dX0_init_9 : decode cX0_init 9 = .ok (.bipush 14, 2) := by decide +kernel
theorem dX0_init_11 : decode cX0_init 11 = .ok (.invokespecial 11, 3) := by decide +kernel
theorem dX0_init_14 : decode cX0_init 14 = .ok (.putfield 14, 3) := by decide +kernel
theorem dX0_init_17 : decode cX0_init 17 = .ok (.aload_n 0, 1) := by decide +kernel
theorem dX0_init_18 : decode cX0_init 18 = .ok (.iconst 0, 1) := by decide +kernel
theorem dX0_init_19 : decode cX0_init 19 = .ok (.putfield 20, 3) := by decide +kernel
theorem dX0_init_22 : decode cX0_init 22 = .ok (.aload_n 0, 1) := by decide +kernel
theorem dX0_init_23 : decode cX0_init 23 = .ok (.iconst 0, 1) := by decide +kernel
theorem dX0_init_24 : decode cX0_init 24 = .ok (.putfield 24, 3) := by decide +kernel
theorem dX0_init_27 : decode cX0_init 27 = .ok (.return_, 1) := by decide +kernel
theorem dX0_remember_0 : decode cX0_remember 0 = .ok (.aload_n 0, 1) := by decide +kernel
theorem dX0_remember_1 : decode cX0_remember 1 = .ok (.getfield 14, 3) := by decide +kernel
theorem dX0_remember_4 : decode cX0_remember 4 = .ok (.aload_n 0, 1) := by decide +kernel
theorem dX0_remember_5 : decode cX0_remember 5 = .ok (.getfield 20, 3) := by decide +kernel
theorem dX0_remember_8 : decode cX0_remember 8 = .ok (.aload_n 1, 1) := by decide +kernel
theorem dX0_remember_9 : decode cX0_remember 9 = .ok (.invokevirtual 27, 3) := by decide +kernel
theorem dX0_remember_12 : decode cX0_remember 12 = .ok (.aload_n 0, 1) := by decide +kernel
theorem dX0_remember_13 : decode cX0_remember 13 = .ok (.aload_n 0, 1) := by decide +kernel
theorem dX0_remember_14 : decode cX0_remember 14 = .ok (.getfield 20, 3) := by decide +kernel
theorem dX0_remember_17 : decode cX0_remember 17 = .ok (.iconst 1, 1) := by decide +kernel
theorem dX0_remember_18 : decode cX0_remember 18 = .ok (.iadd, 1) := by decide +kernel
theorem dX0_remember_19 : decode cX0_remember 19 = .ok (.bipush 14, 2) := by decide +kernel
theorem dX0_remember_21 : decode cX0_remember 21 = .ok (.irem, 1) := by decide +kernel
theorem dX0_remember_22 : decode cX0_remember 22 = .ok (.putfield 20, 3) := by decide +kernel
theorem dX0_remember_25 : decode cX0_remember 25 = .ok (.aload_n 0, 1) := by decide +kernel
theorem dX0_remember_26 : decode cX0_remember 26 = .ok (.aload_n 0, 1) := by decide +kernel
theorem dX0_remember_27 : decode cX0_remember 27 = .ok (.getfield 24, 3) := by decide +kernel
theorem dX0_remember_30 : decode cX0_remember 30 = .ok (.iconst 1, 1) := by decide +kernel
theorem dX0_remember_31 : decode cX0_remember 31 = .ok (.iadd, 1) := by decide +kernel
theorem dX0_remember_32 : decode cX0_remember 32 = .ok (.bipush 14, 2) := by decide +kernel
theorem dX0_remember_34 : decode cX0_remember 34 = .ok (.invokestatic 31, 3) := by decide +kernel
theorem dX0_remember_37 : decode cX0_remember 37 = .ok (.putfield 24, 3) := by decide +kernel
theorem dX0_remember_40 : decode cX0_remember 40 = .ok (.return_, 1) := by decide +kernel
theorem dX0_takeBack_0 : decode cX0_takeBack 0 = .ok (.aload_n 0, 1) := by decide +kernel
theorem dX0_takeBack_1 : decode cX0_takeBack 1 = .ok (.getfield 24, 3) := by decide +kernel
theorem dX0_takeBack_4 : decode cX0_takeBack 4 = .ok (.ifCond .ne 5, 3) := by decide +kernel
theorem dX0_takeBack_7 : decode cX0_takeBack 7 = .ok (.iconst 0, 1) := by decide +kernel
theorem dX0_takeBack_8 : decode cX0_takeBack 8 = .ok (.ireturn, 1) := by decide +kernel
theorem dX0_takeBack_9 : decode cX0_takeBack 9 = .ok (.aload_n 0, 1) := by decide +kernel
theorem dX0_takeBack_10 : decode cX0_takeBack 10 = .ok (.aload_n 0, 1) := by decide +kernel
theorem dX0_takeBack_11 : decode cX0_takeBack 11 = .ok (.getfield 20, 3) := by decide +kernel
theorem dX0_takeBack_14 : decode cX0_takeBack 14 = .ok (.bipush 14, 2) := by decide +kernel
theorem dX0_takeBack_16 : decode cX0_takeBack 16 = .ok (.iadd, 1) := by decide +kernel
theorem dX0_takeBack_17 : decode cX0_takeBack 17 = .ok (.iconst 1, 1) := by decide +kernel
theorem dX0_takeBack_18 : decode cX0_takeBack 18 = .ok (.isub, 1) := by decide +kernel
theorem dX0_takeBack_19 : decode cX0_takeBack 19 = .ok (.bipush 14, 2) := by decide +kernel
theorem dX0_takeBack_21 : decode cX0_takeBack 21 = .ok (.irem, 1) := by decide +kernel
theorem dX0_takeBack_22 : decode cX0_takeBack 22 = .ok (.putfield 20, 3) := by decide +kernel
theorem dX0_takeBack_25 : decode cX0_takeBack 25 = .ok (.aload_n 0, 1) := by decide +kernel
theorem dX0_takeBack_26 : decode cX0_takeBack 26 = .ok (.dup, 1) := by decide +kernel
theorem dX0_takeBack_27 : decode cX0_takeBack 27 = .ok (.getfield 24, 3) := by decide +kernel
theorem dX0_takeBack_30 : decode cX0_takeBack 30 = .ok (.iconst 1, 1) := by decide +kernel
theorem dX0_takeBack_31 : decode cX0_takeBack 31 = .ok (.isub, 1) := by decide +kernel
theorem dX0_takeBack_32 : decode cX0_takeBack 32 = .ok (.putfield 24, 3) := by decide +kernel
theorem dX0_takeBack_35 : decode cX0_takeBack 35 = .ok (.aload_n 0, 1) := by decide +kernel
theorem dX0_takeBack_36 : decode cX0_takeBack 36 = .ok (.getfield 14, 3) := by decide +kernel
theorem dX0_takeBack_39 : decode cX0_takeBack 39 = .ok (.aload_n 0, 1) := by decide +kernel
theorem dX0_takeBack_40 : decode cX0_takeBack 40 = .ok (.getfield 20, 3) := by decide +kernel
theorem dX0_takeBack_43 : decode cX0_takeBack 43 = .ok (.aload_n 1, 1) := by decide +kernel
theorem dX0_takeBack_44 : decode cX0_takeBack 44 = .ok (.invokevirtual 37, 3) := by decide +kernel
theorem dX0_takeBack_47 : decode cX0_takeBack 47 = .ok (.iconst 1, 1) := by decide +kernel
theorem dX0_takeBack_48 : decode cX0_takeBack 48 = .ok (.ireturn, 1) := by decide +kernel
theorem dX0_forgetAll_0 : decode cX0_forgetAll 0 = .ok (.aload_n 0, 1) := by decide +kernel
theorem dX0_forgetAll_1 : decode cX0_forgetAll 1 = .ok (.iconst 0, 1) := by decide +kernel
theorem dX0_forgetAll_2 : decode cX0_forgetAll 2 = .ok (.putfield 24, 3) := by decide +kernel
theorem dX0_forgetAll_5 : decode cX0_forgetAll 5 = .ok (.return_, 1) := by decide +kernel
theorem dX1_init_0 : decode cX1_init 0 = .ok (.aload_n 0, 1) := by decide +kernel
theorem dX1_init_1 : decode cX1_init 1 = .ok (.invokespecial 3, 3) := by decide +kernel
theorem dX1_init_4 : decode cX1_init 4 = .ok (.aload_n 0, 1) := by decide +kernel
theorem dX1_init_5 : decode cX1_init 5 = .ok (.iconst 2, 1) := by decide +kernel
theorem dX1_init_6 : decode cX1_init 6 = .ok (.putfield 9, 3) := by decide +kernel
theorem dX1_init_9 : decode cX1_init 9 = .ok (.aload_n 0, 1) := by decide +kernel
theorem dX1_init_10 : decode cX1_init 10 = .ok (.iconst 0, 1) := by decide +kernel
theorem dX1_init_11 : decode cX1_init 11 = .ok (.putfield 15, 3) := by decide +kernel
theorem dX1_init_14 : decode cX1_init 14 = .ok (.aload_n 0, 1) := by decide +kernel
theorem dX1_init_15 : decode cX1_init 15 = .ok (.iconst 2, 1) := by decide +kernel
theorem dX1_init_16 : decode cX1_init 16 = .ok (.putfield 18, 3) := by decide +kernel
theorem dX1_init_19 : decode cX1_init 19 = .ok (.aload_n 0, 1) := by decide +kernel
theorem dX1_init_20 : decode cX1_init 20 = .ok (.iconst 1, 1) := by decide +kernel
theorem dX1_init_21 : decode cX1_init 21 = .ok (.putfield 21, 3) := by decide +kernel
theorem dX1_init_24 : decode cX1_init 24 = .ok (.aload_n 0, 1) := by decide +kernel
theorem dX1_init_25 : decode cX1_init 25 = .ok (.bipush 57, 2) := by decide +kernel
theorem dX1_init_27 : decode cX1_init 27 = .ok (.newarray .int, 2) := by decide +kernel
theorem dX1_init_29 : decode cX1_init 29 = .ok (.putfield 24, 3) := by decide +kernel
theorem dX1_init_32 : decode cX1_init 32 = .ok (.aload_n 0, 1) := by decide +kernel
theorem dX1_init_33 : decode cX1_init 33 = .ok (.getfield 24, 3) := by decide +kernel
theorem dX1_init_36 : decode cX1_init 36 = .ok (.bipush 50, 2) := by decide +kernel
theorem dX1_init_38 : decode cX1_init 38 = .ok (.iconst 1, 1) := by decide +kernel
theorem dX1_init_39 : decode cX1_init 39 = .ok (.iastore, 1) := by decide +kernel
theorem dX1_init_40 : decode cX1_init 40 = .ok (.aload_n 0, 1) := by decide +kernel
theorem dX1_init_41 : decode cX1_init 41 = .ok (.iconst 0, 1) := by decide +kernel
theorem dX1_init_42 : decode cX1_init 42 = .ok (.putfield 28, 3) := by decide +kernel
theorem dX1_init_45 : decode cX1_init 45 = .ok (.return_, 1) := by decide +kernel
theorem dX1_in_0 : decode cX1_in 0 = .ok (.iload_n 0, 1) := by decide +kernel
theorem dX1_in_1 : decode cX1_in 1 = .ok (.iload_n 1, 1) := by decide +kernel
theorem dX1_in_2 : decode cX1_in 2 = .ok (.ishr, 1) := by decide +kernel
theorem dX1_in_3 : decode cX1_in 3 = .ok (.iconst 1, 1) := by decide +kernel
theorem dX1_in_4 : decode cX1_in 4 = .ok (.iand, 1) := by decide +kernel
theorem dX1_in_5 : decode cX1_in 5 = .ok (.iconst 1, 1) := by decide +kernel
theorem dX1_in_6 : decode cX1_in 6 = .ok (.if_icmp .ne 7, 3) := by decide +kernel
theorem dX1_in_9 : decode cX1_in 9 = .ok (.iconst 1, 1) := by decide +kernel
theorem dX1_in_10 : decode cX1_in 10 = .ok (.goto 4, 3) := by decide +kernel
theorem dX1_in_13 : decode cX1_in 13 = .ok (.iconst 0, 1) := by decide +kernel
theorem dX1_in_14 : decode cX1_in 14 = .ok (.ireturn, 1) := by decide +kernel
theorem dX1_isEye_0 : decode cX1_isEye 0 = .ok (.iload_n 0, 1) := by decide +kernel
theorem dX1_isEye_1 : decode cX1_isEye 1 = .ok (.ifCond .lt 12, 3) := by decide +kernel
theorem dX1_isEye_4 : decode cX1_isEye 4 = .ok (.iload_n 0, 1) := by decide +kernel
theorem dX1_isEye_5 : decode cX1_isEye 5 = .ok (.iconst 2, 1) := by decide +kernel
theorem dX1_isEye_6 : decode cX1_isEye 6 = .ok (.if_icmp .gt 7, 3) := by decide +kernel
theorem dX1_isEye_9 : decode cX1_isEye 9 = .ok (.iconst 1, 1) := by decide +kernel
theorem dX1_isEye_10 : decode cX1_isEye 10 = .ok (.goto 4, 3) := by decide +kernel
theorem dX1_isEye_13 : decode cX1_isEye 13 = .ok (.iconst 0, 1) := by decide +kernel
theorem dX1_isEye_14 : decode cX1_isEye 14 = .ok (.ireturn, 1) := by decide +kernel
theorem dX1_begin_0 : decode cX1_begin 0 = .ok (.aload_n 0, 1) := by decide +kernel
theorem dX1_begin_1 : decode cX1_begin 1 = .ok (.iload_n 1, 1) := by decide +kernel
theorem dX1_begin_2 : decode cX1_begin 2 = .ok (.putfield 9, 3) := by decide +kernel
theorem dX1_begin_5 : decode cX1_begin 5 = .ok (.aload_n 0, 1) := by decide +kernel
theorem dX1_begin_6 : decode cX1_begin 6 = .ok (.iload_n 2, 1) := by decide +kernel
theorem dX1_begin_7 : decode cX1_begin 7 = .ok (.putfield 15, 3) := by decide +kernel
theorem dX1_begin_10 : decode cX1_begin 10 = .ok (.aload_n 0, 1) := by decide +kernel
theorem dX1_begin_11 : decode cX1_begin 11 = .ok (.iload_n 1, 1) := by decide +kernel
theorem dX1_begin_12 : decode cX1_begin 12 = .ok (.iload_n 2, 1) := by decide +kernel
theorem dX1_begin_13 : decode cX1_begin 13 = .ok (.iadd, 1) := by decide +kernel
theorem dX1_begin_14 : decode cX1_begin 14 = .ok (.putfield 18, 3) := by decide +kernel
theorem dX1_begin_17 : decode cX1_begin 17 = .ok (.aload_n 0, 1) := by decide +kernel
theorem dX1_begin_18 : decode cX1_begin 18 = .ok (.iload_n 3, 1) := by decide +kernel
theorem dX1_begin_19 : decode cX1_begin 19 = .ok (.putfield 21, 3) := by decide +kernel
theorem dX1_begin_22 : decode cX1_begin 22 = .ok (.iconst 0, 1) := by decide +kernel
theorem dX1_begin_23 : decode cX1_begin 23 = .ok (.istore 4, 2) := by decide +kernel
theorem dX1_begin_25 : decode cX1_begin 25 = .ok (.iload 4, 2) := by decide +kernel
theorem dX1_begin_27 : decode cX1_begin 27 = .ok (.bipush 57, 2) := by decide +kernel
theorem dX1_begin_29 : decode cX1_begin 29 = .ok (.if_icmp .ge 17, 3) := by decide +kernel
theorem dX1_begin_32 : decode cX1_begin 32 = .ok (.aload_n 0, 1) := by decide +kernel
theorem dX1_begin_33 : decode cX1_begin 33 = .ok (.getfield 24, 3) := by decide +kernel
theorem dX1_begin_36 : decode cX1_begin 36 = .ok (.iload 4, 2) := by decide +kernel
theorem dX1_begin_38 : decode cX1_begin 38 = .ok (.iconst 0, 1) := by decide +kernel
theorem dX1_begin_39 : decode cX1_begin 39 = .ok (.iastore, 1) := by decide +kernel
theorem dX1_begin_40 : decode cX1_begin 40 = .ok (.iinc 4 1, 3) := by decide +kernel
theorem dX1_begin_43 : decode cX1_begin 43 = .ok (.goto (-18), 3) := by decide +kernel
theorem dX1_begin_46 : decode cX1_begin 46 = .ok (.aload_n 0, 1) := by decide +kernel
theorem dX1_begin_47 : decode cX1_begin 47 = .ok (.getfield 24, 3) := by decide +kernel
theorem dX1_begin_50 : decode cX1_begin 50 = .ok (.bipush 50, 2) := by decide +kernel
theorem dX1_begin_52 : decode cX1_begin 52 = .ok (.iconst 1, 1) := by decide +kernel
theorem dX1_begin_53 : decode cX1_begin 53 = .ok (.iastore, 1) := by decide +kernel
theorem dX1_begin_54 : decode cX1_begin 54 = .ok (.return_, 1) := by decide +kernel
theorem dX1_copy_0 : decode cX1_copy 0 = .ok (.aload_n 0, 1) := by decide +kernel
theorem dX1_copy_1 : decode cX1_copy 1 = .ok (.aload_n 1, 1) := by decide +kernel
theorem dX1_copy_2 : decode cX1_copy 2 = .ok (.getfield 9, 3) := by decide +kernel
theorem dX1_copy_5 : decode cX1_copy 5 = .ok (.putfield 9, 3) := by decide +kernel
theorem dX1_copy_8 : decode cX1_copy 8 = .ok (.aload_n 0, 1) := by decide +kernel
theorem dX1_copy_9 : decode cX1_copy 9 = .ok (.aload_n 1, 1) := by decide +kernel
theorem dX1_copy_10 : decode cX1_copy 10 = .ok (.getfield 15, 3) := by decide +kernel
theorem dX1_copy_13 : decode cX1_copy 13 = .ok (.putfield 15, 3) := by decide +kernel
theorem dX1_copy_16 : decode cX1_copy 16 = .ok (.aload_n 0, 1) := by decide +kernel
theorem dX1_copy_17 : decode cX1_copy 17 = .ok (.aload_n 1, 1) := by decide +kernel
theorem dX1_copy_18 : decode cX1_copy 18 = .ok (.getfield 18, 3) := by decide +kernel
theorem dX1_copy_21 : decode cX1_copy 21 = .ok (.putfield 18, 3) := by decide +kernel
theorem dX1_copy_24 : decode cX1_copy 24 = .ok (.aload_n 0, 1) := by decide +kernel
theorem dX1_copy_25 : decode cX1_copy 25 = .ok (.aload_n 1, 1) := by decide +kernel
theorem dX1_copy_26 : decode cX1_copy 26 = .ok (.getfield 21, 3) := by decide +kernel
theorem dX1_copy_29 : decode cX1_copy 29 = .ok (.putfield 21, 3) := by decide +kernel
theorem dX1_copy_32 : decode cX1_copy 32 = .ok (.aload_n 1, 1) := by decide +kernel
theorem dX1_copy_33 : decode cX1_copy 33 = .ok (.getfield 24, 3) := by decide +kernel
theorem dX1_copy_36 : decode cX1_copy 36 = .ok (.iconst 0, 1) := by decide +kernel
theorem dX1_copy_37 : decode cX1_copy 37 = .ok (.aload_n 0, 1) := by decide +kernel
theorem dX1_copy_38 : decode cX1_copy 38 = .ok (.getfield 24, 3) := by decide +kernel
theorem dX1_copy_41 : decode cX1_copy 41 = .ok (.iconst 0, 1) := by decide +kernel
theorem dX1_copy_42 : decode cX1_copy 42 = .ok (.bipush 57, 2) := by decide +kernel
theorem dX1_copy_44 : decode cX1_copy 44 = .ok (.invokestatic 31, 3) := by decide +kernel
theorem dX1_copy_47 : decode cX1_copy 47 = .ok (.return_, 1) := by decide +kernel
theorem dX1_hasZone_0 : decode cX1_hasZone 0 = .ok (.iload_n 1, 1) := by decide +kernel
theorem dX1_hasZone_1 : decode cX1_hasZone 1 = .ok (.ifCond .lt 21, 3) := by decide +kernel
theorem dX1_hasZone_4 : decode cX1_hasZone 4 = .ok (.iload_n 1, 1) := by decide +kernel
theorem dX1_hasZone_5 : decode cX1_hasZone 5 = .ok (.aload_n 0, 1) := by decide +kernel
theorem dX1_hasZone_6 : decode cX1_hasZone 6 = .ok (.getfield 18, 3) := by decide +kernel
theorem dX1_hasZone_9 : decode cX1_hasZone 9 = .ok (.if_icmp .ge 13, 3) := by decide +kernel
theorem dX1_hasZone_12 : decode cX1_hasZone 12 = .ok (.iload_n 1, 1) := by decide +kernel
theorem dX1_hasZone_13 : decode cX1_hasZone 13 = .ok (.bipush 12, 2) := by decide +kernel
theorem dX1_hasZone_15 : decode cX1_hasZone 15 = .ok (.if_icmp .ge 7, 3) := by decide +kernel
theorem dX1_hasZone_18 : decode cX1_hasZone 18 = .ok (.iconst 1, 1) := by decide +kernel
theorem dX1_hasZone_19 : decode cX1_hasZone 19 = .ok (.goto 4, 3) := by decide +kernel
theorem dX1_hasZone_22 : decode cX1_hasZone 22 = .ok (.iconst 0, 1) := by decide +kernel
theorem dX1_hasZone_23 : decode cX1_hasZone 23 = .ok (.ireturn, 1) := by decide +kernel
theorem dX1_hasLine_0 : decode cX1_hasLine 0 = .ok (.iload_n 1, 1) := by decide +kernel
theorem dX1_hasLine_1 : decode cX1_hasLine 1 = .ok (.ifCond .eq 15, 3) := by decide +kernel
theorem dX1_hasLine_4 : decode cX1_hasLine 4 = .ok (.iload_n 1, 1) := by decide +kernel
theorem dX1_hasLine_5 : decode cX1_hasLine 5 = .ok (.iconst 1, 1) := by decide +kernel
theorem dX1_hasLine_6 : decode cX1_hasLine 6 = .ok (.if_icmp .ne 14, 3) := by decide +kernel
theorem dX1_hasLine_9 : decode cX1_hasLine 9 = .ok (.aload_n 0, 1) := by decide +kernel
theorem dX1_hasLine_10 : decode cX1_hasLine 10 = .ok (.getfield 15, 3) := by decide +kernel
theorem dX1_hasLine_13 : decode cX1_hasLine 13 = .ok (.ifCond .le 7, 3) := by decide +kernel
theorem dX1_hasLine_16 : decode cX1_hasLine 16 = .ok (.iconst 1, 1) := by decide +kernel
theorem dX1_hasLine_17 : decode cX1_hasLine 17 = .ok (.goto 4, 3) := by decide +kernel
theorem dX1_hasLine_20 : decode cX1_hasLine 20 = .ok (.iconst 0, 1) := by decide +kernel
theorem dX1_hasLine_21 : decode cX1_hasLine 21 = .ok (.ireturn, 1) := by decide +kernel
theorem dX1_entryOf_0 : decode cX1_entryOf 0 = .ok (.iload_n 1, 1) := by decide +kernel
theorem dX1_entryOf_1 : decode cX1_entryOf 1 = .ok (.ifCond .ne 7, 3) := by decide +kernel
theorem dX1_entryOf_4 : decode cX1_entryOf 4 = .ok (.iconst 0, 1) := by decide +kernel
theorem dX1_entryOf_5 : decode cX1_entryOf 5 = .ok (.goto 7, 3) := by decide +kernel
theorem dX1_entryOf_8 : decode cX1_entryOf 8 = .ok (.aload_n 0, 1) := by decide +kernel
theorem dX1_entryOf_9 : decode cX1_entryOf 9 = .ok (.getfield 9, 3) := by decide +kernel
theorem dX1_entryOf_12 : decode cX1_entryOf 12 = .ok (.ireturn, 1) := by decide +kernel
theorem dX1_hasCarton_0 : decode cX1_hasCarton 0 = .ok (.aload_n 0, 1) := by decide +kernel
theorem dX1_hasCarton_1 : decode cX1_hasCarton 1 = .ok (.getfield 24, 3) := by decide +kernel
theorem dX1_hasCarton_4 : decode cX1_hasCarton 4 = .ok (.iconst 0, 1) := by decide +kernel
theorem dX1_hasCarton_5 : decode cX1_hasCarton 5 = .ok (.iload_n 1, 1) := by decide +kernel
theorem dX1_hasCarton_6 : decode cX1_hasCarton 6 = .ok (.iadd, 1) := by decide +kernel
theorem dX1_hasCarton_7 : decode cX1_hasCarton 7 = .ok (.iaload, 1) := by decide +kernel
theorem dX1_hasCarton_8 : decode cX1_hasCarton 8 = .ok (.ifCond .eq 7, 3) := by decide +kernel
theorem dX1_hasCarton_11 : decode cX1_hasCarton 11 = .ok (.iconst 1, 1) := by decide +kernel
theorem dX1_hasCarton_12 : decode cX1_hasCarton 12 = .ok (.goto 4, 3) := by decide +kernel
theorem dX1_hasCarton_15 : decode cX1_hasCarton 15 = .ok (.iconst 0, 1) := by decide +kernel
theorem dX1_hasCarton_16 : decode cX1_hasCarton 16 = .ok (.ireturn, 1) := by decide +kernel
theorem dX1_isJammed_0 : decode cX1_isJammed 0 = .ok (.aload_n 0, 1) := by decide +kernel
theorem dX1_isJammed_1 : decode cX1_isJammed 1 = .ok (.getfield 24, 3) := by decide +kernel
theorem dX1_isJammed_4 : decode cX1_isJammed 4 = .ok (.bipush 48, 2) := by decide +kernel
theorem dX1_isJammed_6 : decode cX1_isJammed 6 = .ok (.iaload, 1) := by decide +kernel
theorem dX1_isJammed_7 : decode cX1_isJammed 7 = .ok (.iload_n 1, 1) := by decide +kernel
theorem dX1_isJammed_8 : decode cX1_isJammed 8 = .ok (.invokestatic 37, 3) := by decide +kernel
theorem dX1_isJammed_11 : decode cX1_isJammed 11 = .ok (.ireturn, 1) := by decide +kernel
theorem dX1_canFeed_0 : decode cX1_canFeed 0 = .ok (.aload_n 0, 1) := by decide +kernel
theorem dX1_canFeed_1 : decode cX1_canFeed 1 = .ok (.iload_n 1, 1) := by decide +kernel
theorem dX1_canFeed_2 : decode cX1_canFeed 2 = .ok (.invokevirtual 41, 3) := by decide +kernel
theorem dX1_canFeed_5 : decode cX1_canFeed 5 = .ok (.ifCond .eq 31, 3) := by decide +kernel
theorem dX1_canFeed_8 : decode cX1_canFeed 8 = .ok (.aload_n 0, 1) := by decide +kernel
theorem dX1_canFeed_9 : decode cX1_canFeed 9 = .ok (.aload_n 0, 1) := by decide +kernel
theorem dX1_canFeed_10 : decode cX1_canFeed 10 = .ok (.iload_n 1, 1) := by decide +kernel
theorem dX1_canFeed_11 : decode cX1_canFeed 11 = .ok (.invokevirtual 45, 3) := by decide +kernel
theorem dX1_canFeed_14 : decode cX1_canFeed 14 = .ok (.invokevirtual 49, 3) := by decide +kernel
theorem dX1_canFeed_17 : decode cX1_canFeed 17 = .ok (.ifCond .ne 19, 3) := by decide +kernel
theorem dX1_canFeed_20 : decode cX1_canFeed 20 = .ok (.aload_n 0, 1) := by decide +kernel
theorem dX1_canFeed_21 : decode cX1_canFeed 21 = .ok (.getfield 24, 3) := by decide +kernel
theorem dX1_canFeed_24 : decode cX1_canFeed 24 = .ok (.bipush 54, 2) := by decide +kernel
theorem dX1_canFeed_26 : decode cX1_canFeed 26 = .ok (.iaload, 1) := by decide +kernel
theorem dX1_canFeed_27 : decode cX1_canFeed 27 = .ok (.bipush 99, 2) := by decide +kernel
theorem dX1_canFeed_29 : decode cX1_canFeed 29 = .ok (.if_icmp .ge 7, 3) := by decide +kernel
theorem dX1_canFeed_32 : decode cX1_canFeed 32 = .ok (.iconst 1, 1) := by decide +kernel
theorem dX1_canFeed_33 : decode cX1_canFeed 33 = .ok (.goto 4, 3) := by decide +kernel
theorem dX1_canFeed_36 : decode cX1_canFeed 36 = .ok (.iconst 0, 1) := by decide +kernel
theorem dX1_canFeed_37 : decode cX1_canFeed 37 = .ok (.ireturn, 1) := by decide +kernel
theorem dX1_change_0 : decode cX1_change 0 = .ok (.aload_n 0, 1) := by decide +kernel
theorem dX1_change_1 : decode cX1_change 1 = .ok (.getfield 24, 3) := by decide +kernel
theorem dX1_change_4 : decode cX1_change 4 = .ok (.iload_n 1, 1) := by decide +kernel
theorem dX1_change_5 : decode cX1_change 5 = .ok (.iaload, 1) := by decide +kernel
theorem dX1_change_6 : decode cX1_change 6 = .ok (.istore_n 3, 1) := by decide +kernel
theorem dX1_change_7 : decode cX1_change 7 = .ok (.aload_n 0, 1) := by decide +kernel
theorem dX1_change_8 : decode cX1_change 8 = .ok (.getfield 24, 3) := by decide +kernel
theorem dX1_change_11 : decode cX1_change 11 = .ok (.iload_n 1, 1) := by decide +kernel
theorem dX1_change_12 : decode cX1_change 12 = .ok (.iload_n 2, 1) := by decide +kernel
theorem dX1_change_13 : decode cX1_change 13 = .ok (.iastore, 1) := by decide +kernel
theorem dX1_change_14 : decode cX1_change 14 = .ok (.iload_n 3, 1) := by decide +kernel
theorem dX1_change_15 : decode cX1_change 15 = .ok (.ireturn, 1) := by decide +kernel
theorem dX1_putNext_0 : decode cX1_putNext 0 = .ok (.aload_n 0, 1) := by decide +kernel
theorem dX1_putNext_1 : decode cX1_putNext 1 = .ok (.getfield 24, 3) := by decide +kernel
theorem dX1_putNext_4 : decode cX1_putNext 4 = .ok (.bipush 54, 2) := by decide +kernel
theorem dX1_putNext_6 : decode cX1_putNext 6 = .ok (.dup2, 1) := by decide +kernel
theorem dX1_putNext_7 : decode cX1_putNext 7 = .ok (.iaload, 1) := by decide +kernel
theorem dX1_putNext_8 : decode cX1_putNext 8 = .ok (.iconst 1, 1) := by decide +kernel
theorem dX1_putNext_9 : decode cX1_putNext 9 = .ok (.iadd, 1) := by decide +kernel
theorem dX1_putNext_10 : decode cX1_putNext 10 = .ok (.iastore, 1) := by decide +kernel
theorem dX1_putNext_11 : decode cX1_putNext 11 = .ok (.aload_n 0, 1) := by decide +kernel
theorem dX1_putNext_12 : decode cX1_putNext 12 = .ok (.getfield 24, 3) := by decide +kernel
theorem dX1_putNext_15 : decode cX1_putNext 15 = .ok (.iconst 0, 1) := by decide +kernel
theorem dX1_putNext_16 : decode cX1_putNext 16 = .ok (.iload_n 1, 1) := by decide +kernel
theorem dX1_putNext_17 : decode cX1_putNext 17 = .ok (.iadd, 1) := by decide +kernel
theorem dX1_putNext_18 : decode cX1_putNext 18 = .ok (.aload_n 0, 1) := by decide +kernel
theorem dX1_putNext_19 : decode cX1_putNext 19 = .ok (.getfield 24, 3) := by decide +kernel
theorem dX1_putNext_22 : decode cX1_putNext 22 = .ok (.bipush 54, 2) := by decide +kernel
theorem dX1_putNext_24 : decode cX1_putNext 24 = .ok (.iaload, 1) := by decide +kernel
theorem dX1_putNext_25 : decode cX1_putNext 25 = .ok (.iastore, 1) := by decide +kernel
theorem dX1_putNext_26 : decode cX1_putNext 26 = .ok (.aload_n 0, 1) := by decide +kernel
theorem dX1_putNext_27 : decode cX1_putNext 27 = .ok (.getfield 24, 3) := by decide +kernel
theorem dX1_putNext_30 : decode cX1_putNext 30 = .ok (.bipush 54, 2) := by decide +kernel
theorem dX1_putNext_32 : decode cX1_putNext 32 = .ok (.iaload, 1) := by decide +kernel
theorem dX1_putNext_33 : decode cX1_putNext 33 = .ok (.ireturn, 1) := by decide +kernel
theorem dX1_takeAway_0 : decode cX1_takeAway 0 = .ok (.aload_n 0, 1) := by decide +kernel
theorem dX1_takeAway_1 : decode cX1_takeAway 1 = .ok (.iload_n 1, 1) := by decide +kernel
theorem dX1_takeAway_2 : decode cX1_takeAway 2 = .ok (.invokevirtual 52, 3) := by decide +kernel
theorem dX1_takeAway_5 : decode cX1_takeAway 5 = .ok (.aload_n 0, 1) := by decide +kernel
theorem dX1_takeAway_6 : decode cX1_takeAway 6 = .ok (.iconst 0, 1) := by decide +kernel
theorem dX1_takeAway_7 : decode cX1_takeAway 7 = .ok (.iload_n 1, 1) := by decide +kernel
theorem dX1_takeAway_8 : decode cX1_takeAway 8 = .ok (.iadd, 1) := by decide +kernel
theorem dX1_takeAway_9 : decode cX1_takeAway 9 = .ok (.iconst 0, 1) := by decide +kernel
theorem dX1_takeAway_10 : decode cX1_takeAway 10 = .ok (.invokevirtual 56, 3) := by decide +kernel
theorem dX1_takeAway_13 : decode cX1_takeAway 13 = .ok (.ireturn, 1) := by decide +kernel
theorem dX1_freeJam_0 : decode cX1_freeJam 0 = .ok (.aload_n 0, 1) := by decide +kernel
theorem dX1_freeJam_1 : decode cX1_freeJam 1 = .ok (.getfield 24, 3) := by decide +kernel
theorem dX1_freeJam_4 : decode cX1_freeJam 4 = .ok (.bipush 48, 2) := by decide +kernel
theorem dX1_freeJam_6 : decode cX1_freeJam 6 = .ok (.dup2, 1) := by decide +kernel
theorem dX1_freeJam_7 : decode cX1_freeJam 7 = .ok (.iaload, 1) := by decide +kernel
theorem dX1_freeJam_8 : decode cX1_freeJam 8 = .ok (.iconst 1, 1) := by decide +kernel
theorem dX1_freeJam_9 : decode cX1_freeJam 9 = .ok (.iload_n 1, 1) := by decide +kernel
theorem dX1_freeJam_10 : decode cX1_freeJam 10 = .ok (.ishl, 1) := by decide +kernel
theorem dX1_freeJam_11 : decode cX1_freeJam 11 = .ok (.iconst (-1), 1) := by decide +kernel
theorem dX1_freeJam_12 : decode cX1_freeJam 12 = .ok (.ixor, 1) := by decide +kernel
theorem dX1_freeJam_13 : decode cX1_freeJam 13 = .ok (.iand, 1) := by decide +kernel
theorem dX1_freeJam_14 : decode cX1_freeJam 14 = .ok (.iastore, 1) := by decide +kernel
theorem dX1_freeJam_15 : decode cX1_freeJam 15 = .ok (.return_, 1) := by decide +kernel
theorem dX1_turnExit_0 : decode cX1_turnExit 0 = .ok (.aload_n 0, 1) := by decide +kernel
theorem dX1_turnExit_1 : decode cX1_turnExit 1 = .ok (.getfield 24, 3) := by decide +kernel
theorem dX1_turnExit_4 : decode cX1_turnExit 4 = .ok (.bipush 50, 2) := by decide +kernel
theorem dX1_turnExit_6 : decode cX1_turnExit 6 = .ok (.iconst 1, 1) := by decide +kernel
theorem dX1_turnExit_7 : decode cX1_turnExit 7 = .ok (.aload_n 0, 1) := by decide +kernel
theorem dX1_turnExit_8 : decode cX1_turnExit 8 = .ok (.getfield 24, 3) := by decide +kernel
theorem dX1_turnExit_11 : decode cX1_turnExit 11 = .ok (.bipush 50, 2) := by decide +kernel
theorem dX1_turnExit_13 : decode cX1_turnExit 13 = .ok (.iaload, 1) := by decide +kernel
theorem dX1_turnExit_14 : decode cX1_turnExit 14 = .ok (.isub, 1) := by decide +kernel
theorem dX1_turnExit_15 : decode cX1_turnExit 15 = .ok (.iastore, 1) := by decide +kernel
theorem dX1_turnExit_16 : decode cX1_turnExit 16 = .ok (.aload_n 0, 1) := by decide +kernel
theorem dX1_turnExit_17 : decode cX1_turnExit 17 = .ok (.getfield 24, 3) := by decide +kernel
theorem dX1_turnExit_20 : decode cX1_turnExit 20 = .ok (.bipush 50, 2) := by decide +kernel
theorem dX1_turnExit_22 : decode cX1_turnExit 22 = .ok (.iaload, 1) := by decide +kernel
theorem dX1_turnExit_23 : decode cX1_turnExit 23 = .ok (.ireturn, 1) := by decide +kernel
theorem dX1_loaded_0 : decode cX1_loaded 0 = .ok (.iconst 0, 1) := by decide +kernel
theorem dX1_loaded_1 : decode cX1_loaded 1 = .ok (.istore_n 1, 1) := by decide +kernel
theorem dX1_loaded_2 : decode cX1_loaded 2 = .ok (.iconst 0, 1) := by decide +kernel
theorem dX1_loaded_3 : decode cX1_loaded 3 = .ok (.istore_n 2, 1) := by decide +kernel
theorem dX1_loaded_4 : decode cX1_loaded 4 = .ok (.iload_n 2, 1) := by decide +kernel
theorem dX1_loaded_5 : decode cX1_loaded 5 = .ok (.aload_n 0, 1) := by decide +kernel
theorem dX1_loaded_6 : decode cX1_loaded 6 = .ok (.getfield 18, 3) := by decide +kernel
theorem dX1_loaded_9 : decode cX1_loaded 9 = .ok (.if_icmp .ge 23, 3) := by decide +kernel
theorem dX1_loaded_12 : decode cX1_loaded 12 = .ok (.aload_n 0, 1) := by decide +kernel
theorem dX1_loaded_13 : decode cX1_loaded 13 = .ok (.iload_n 2, 1) := by decide +kernel
theorem dX1_loaded_14 : decode cX1_loaded 14 = .ok (.invokevirtual 49, 3) := by decide +kernel
theorem dX1_loaded_17 : decode cX1_loaded 17 = .ok (.ifCond .eq 9, 3) := by decide +kernel
theorem dX1_loaded_20 : decode cX1_loaded 20 = .ok (.iload_n 1, 1) := by decide +kernel
theorem dX1_loaded_21 : decode cX1_loaded 21 = .ok (.iconst 1, 1) := by decide +kernel
theorem dX1_loaded_22 : decode cX1_loaded 22 = .ok (.iload_n 2, 1) := by decide +kernel
theorem dX1_loaded_23 : decode cX1_loaded 23 = .ok (.ishl, 1) := by decide +kernel
theorem dX1_loaded_24 : decode cX1_loaded 24 = .ok (.ior, 1) := by decide +kernel
theorem dX1_loaded_25 : decode cX1_loaded 25 = .ok (.istore_n 1, 1) := by decide +kernel
theorem dX1_loaded_26 : decode cX1_loaded 26 = .ok (.iinc 2 1, 3) := by decide +kernel
theorem dX1_loaded_29 : decode cX1_loaded 29 = .ok (.goto (-25), 3) := by decide +kernel
theorem dX1_loaded_32 : decode cX1_loaded 32 = .ok (.iload_n 1, 1) := by decide +kernel
theorem dX1_loaded_33 : decode cX1_loaded 33 = .ok (.ireturn, 1) := by decide +kernel
theorem dX1_seeing_0 : decode cX1_seeing 0 = .ok (.iconst 0, 1) := by decide +kernel
theorem dX1_seeing_1 : decode cX1_seeing 1 = .ok (.istore_n 1, 1) := by decide +kernel
theorem dX1_seeing_2 : decode cX1_seeing 2 = .ok (.iconst 0, 1) := by decide +kernel
theorem dX1_seeing_3 : decode cX1_seeing 3 = .ok (.istore_n 2, 1) := by decide +kernel
theorem dX1_seeing_4 : decode cX1_seeing 4 = .ok (.iload_n 2, 1) := by decide +kernel
theorem dX1_seeing_5 : decode cX1_seeing 5 = .ok (.aload_n 0, 1) := by decide +kernel
theorem dX1_seeing_6 : decode cX1_seeing 6 = .ok (.getfield 18, 3) := by decide +kernel
theorem dX1_seeing_9 : decode cX1_seeing 9 = .ok (.if_icmp .ge 42, 3) := by decide +kernel
theorem dX1_seeing_12 : decode cX1_seeing 12 = .ok (.aload_n 0, 1) := by decide +kernel
theorem dX1_seeing_13 : decode cX1_seeing 13 = .ok (.getfield 24, 3) := by decide +kernel
theorem dX1_seeing_16 : decode cX1_seeing 16 = .ok (.bipush 12, 2) := by decide +kernel
theorem dX1_seeing_18 : decode cX1_seeing 18 = .ok (.iload_n 2, 1) := by decide +kernel
theorem dX1_seeing_19 : decode cX1_seeing 19 = .ok (.iadd, 1) := by decide +kernel
theorem dX1_seeing_20 : decode cX1_seeing 20 = .ok (.iaload, 1) := by decide +kernel
theorem dX1_seeing_21 : decode cX1_seeing 21 = .ok (.istore_n 3, 1) := by decide +kernel
theorem dX1_seeing_22 : decode cX1_seeing 22 = .ok (.iload_n 3, 1) := by decide +kernel
theorem dX1_seeing_23 : decode cX1_seeing 23 = .ok (.iconst 2, 1) := by decide +kernel
theorem dX1_seeing_24 : decode cX1_seeing 24 = .ok (.if_icmp .eq 15, 3) := by decide +kernel
theorem dX1_seeing_27 : decode cX1_seeing 27 = .ok (.iload_n 3, 1) := by decide +kernel
theorem dX1_seeing_28 : decode cX1_seeing 28 = .ok (.ifCond .ne 17, 3) := by decide +kernel
theorem dX1_seeing_31 : decode cX1_seeing 31 = .ok (.aload_n 0, 1) := by decide +kernel
theorem dX1_seeing_32 : decode cX1_seeing 32 = .ok (.iload_n 2, 1) := by decide +kernel
theorem dX1_seeing_33 : decode cX1_seeing 33 = .ok (.invokevirtual 49, 3) := by decide +kernel
theorem dX1_seeing_36 : decode cX1_seeing 36 = .ok (.ifCond .eq 9, 3) := by decide +kernel
theorem dX1_seeing_39 : decode cX1_seeing 39 = .ok (.iload_n 1, 1) := by decide +kernel
theorem dX1_seeing_40 : decode cX1_seeing 40 = .ok (.iconst 1, 1) := by decide +kernel
theorem dX1_seeing_41 : decode cX1_seeing 41 = .ok (.iload_n 2, 1) := by decide +kernel
theorem dX1_seeing_42 : decode cX1_seeing 42 = .ok (.ishl, 1) := by decide +kernel
theorem dX1_seeing_43 : decode cX1_seeing 43 = .ok (.ior, 1) := by decide +kernel
theorem dX1_seeing_44 : decode cX1_seeing 44 = .ok (.istore_n 1, 1) := by decide +kernel
theorem dX1_seeing_45 : decode cX1_seeing 45 = .ok (.iinc 2 1, 3) := by decide +kernel
theorem dX1_seeing_48 : decode cX1_seeing 48 = .ok (.goto (-44), 3) := by decide +kernel
theorem dX1_seeing_51 : decode cX1_seeing 51 = .ok (.iload_n 1, 1) := by decide +kernel
theorem dX1_seeing_52 : decode cX1_seeing 52 = .ok (.ireturn, 1) := by decide +kernel
theorem dX1_countUnsound_0 : decode cX1_countUnsound 0 = .ok (.iconst 0, 1) := by decide +kernel
theorem dX1_countUnsound_1 : decode cX1_countUnsound 1 = .ok (.istore_n 1, 1) := by decide +kernel
theorem dX1_countUnsound_2 : decode cX1_countUnsound 2 = .ok (.iconst 0, 1) := by decide +kernel
theorem dX1_countUnsound_3 : decode cX1_countUnsound 3 = .ok (.istore_n 2, 1) := by decide +kernel
theorem dX1_countUnsound_4 : decode cX1_countUnsound 4 = .ok (.iload_n 2, 1) := by decide +kernel
theorem dX1_countUnsound_5 : decode cX1_countUnsound 5 = .ok (.aload_n 0, 1) := by decide +kernel
theorem dX1_countUnsound_6 : decode cX1_countUnsound 6 = .ok (.getfield 18, 3) := by decide +kernel
theorem dX1_countUnsound_9 : decode cX1_countUnsound 9 = .ok (.if_icmp .ge 24, 3) := by decide +kernel
theorem dX1_countUnsound_12 : decode cX1_countUnsound 12 = .ok (.aload_n 0, 1) := by decide +kernel
theorem dX1_countUnsound_13 : decode cX1_countUnsound 13 = .ok (.getfield 24, 3) := by decide +kernel
theorem dX1_countUnsound_16 : decode cX1_countUnsound 16 = .ok (.bipush 12, 2) := by decide +kernel
theorem dX1_countUnsound_18 : decode cX1_countUnsound 18 = .ok (.iload_n 2, 1) := by decide +kernel
theorem dX1_countUnsound_19 : decode cX1_countUnsound 19 = .ok (.iadd, 1) := by decide +kernel
theorem dX1_countUnsound_20 : decode cX1_countUnsound 20 = .ok (.iaload, 1) := by decide +kernel
theorem dX1_countUnsound_21 : decode cX1_countUnsound 21 = .ok (.ifCond .eq 6, 3) := by decide +kernel
theorem dX1_countUnsound_24 : decode cX1_countUnsound 24 = .ok (.iinc 1 1, 3) := by decide +kernel
theorem dX1_countUnsound_27 : decode cX1_countUnsound 27 = .ok (.iinc 2 1, 3) := by decide +kernel
theorem dX1_countUnsound_30 : decode cX1_countUnsound 30 = .ok (.goto (-26), 3) := by decide +kernel
theorem dX1_countUnsound_33 : decode cX1_countUnsound 33 = .ok (.iload_n 1, 1) := by decide +kernel
theorem dX1_countUnsound_34 : decode cX1_countUnsound 34 = .ok (.ireturn, 1) := by decide +kernel
theorem dX1_advance_0 : decode cX1_advance 0 = .ok (.iconst 0, 1) := by decide +kernel
theorem dX1_advance_1 : decode cX1_advance 1 = .ok (.istore_n 2, 1) := by decide +kernel
theorem dX1_advance_2 : decode cX1_advance 2 = .ok (.iload_n 2, 1) := by decide +kernel
theorem dX1_advance_3 : decode cX1_advance 3 = .ok (.iload_n 1, 1) := by decide +kernel
theorem dX1_advance_4 : decode cX1_advance 4 = .ok (.if_icmp .ge 19, 3) := by decide +kernel
theorem dX1_advance_7 : decode cX1_advance 7 = .ok (.iload_n 2, 1) := by decide +kernel
theorem dX1_advance_8 : decode cX1_advance 8 = .ok (.bipush 99, 2) := by decide +kernel
theorem dX1_advance_10 : decode cX1_advance 10 = .ok (.if_icmp .ge 13, 3) := by decide +kernel
theorem dX1_advance_13 : decode cX1_advance 13 = .ok (.aload_n 0, 1) := by decide +kernel
theorem dX1_advance_14 : decode cX1_advance 14 = .ok (.invokevirtual 60, 3) := by decide +kernel
theorem dX1_advance_17 : decode cX1_advance 17 = .ok (.iinc 2 1, 3) := by decide +kernel
theorem dX1_advance_20 : decode cX1_advance 20 = .ok (.goto (-18), 3) := by decide +kernel
theorem dX1_advance_23 : decode cX1_advance 23 = .ok (.return_, 1) := by decide +kernel
theorem dX1_advanceOnce_0 : decode cX1_advanceOnce 0 = .ok (.aload_n 0, 1) := by decide +kernel
theorem dX1_advanceOnce_1 : decode cX1_advanceOnce 1 = .ok (.invokevirtual 63, 3) := by decide +kernel
theorem dX1_advanceOnce_4 : decode cX1_advanceOnce 4 = .ok (.istore_n 1, 1) := by decide +kernel
theorem dX1_advanceOnce_5 : decode cX1_advanceOnce 5 = .ok (.aload_n 0, 1) := by decide +kernel
theorem dX1_advanceOnce_6 : decode cX1_advanceOnce 6 = .ok (.getfield 24, 3) := by decide +kernel
theorem dX1_advanceOnce_9 : decode cX1_advanceOnce 9 = .ok (.bipush 49, 2) := by decide +kernel
theorem dX1_advanceOnce_11 : decode cX1_advanceOnce 11 = .ok (.iaload, 1) := by decide +kernel
theorem dX1_advanceOnce_12 : decode cX1_advanceOnce 12 = .ok (.istore_n 2, 1) := by decide +kernel
theorem dX1_advanceOnce_13 : decode cX1_advanceOnce 13 = .ok (.iload_n 1, 1) := by decide +kernel
theorem dX1_advanceOnce_14 : decode cX1_advanceOnce 14 = .ok (.aload_n 0, 1) := by decide +kernel
theorem dX1_advanceOnce_15 : decode cX1_advanceOnce 15 = .ok (.getfield 24, 3) := by decide +kernel
theorem dX1_advanceOnce_18 : decode cX1_advanceOnce 18 = .ok (.bipush 48, 2) := by decide +kernel
theorem dX1_advanceOnce_20 : decode cX1_advanceOnce 20 = .ok (.iaload, 1) := by decide +kernel
theorem dX1_advanceOnce_21 : decode cX1_advanceOnce 21 = .ok (.iconst (-1), 1) := by decide +kernel
theorem dX1_advanceOnce_22 : decode cX1_advanceOnce 22 = .ok (.ixor, 1) := by decide +kernel
theorem dX1_advanceOnce_23 : decode cX1_advanceOnce 23 = .ok (.iand, 1) := by decide +kernel
theorem dX1_advanceOnce_24 : decode cX1_advanceOnce 24 = .ok (.iload_n 2, 1) := by decide +kernel
theorem dX1_advanceOnce_25 : decode cX1_advanceOnce 25 = .ok (.iconst (-1), 1) := by decide +kernel
theorem dX1_advanceOnce_26 : decode cX1_advanceOnce 26 = .ok (.ixor, 1) := by decide +kernel
theorem dX1_advanceOnce_27 : decode cX1_advanceOnce 27 = .ok (.iand, 1) := by decide +kernel
theorem dX1_advanceOnce_28 : decode cX1_advanceOnce 28 = .ok (.istore_n 3, 1) := by decide +kernel
theorem dX1_advanceOnce_29 : decode cX1_advanceOnce 29 = .ok (.aload_n 0, 1) := by decide +kernel
theorem dX1_advanceOnce_30 : decode cX1_advanceOnce 30 = .ok (.getfield 24, 3) := by decide +kernel
theorem dX1_advanceOnce_33 : decode cX1_advanceOnce 33 = .ok (.bipush 49, 2) := by decide +kernel
theorem dX1_advanceOnce_35 : decode cX1_advanceOnce 35 = .ok (.iload_n 2, 1) := by decide +kernel
theorem dX1_advanceOnce_36 : decode cX1_advanceOnce 36 = .ok (.iload_n 1, 1) := by decide +kernel
theorem dX1_advanceOnce_37 : decode cX1_advanceOnce 37 = .ok (.iconst (-1), 1) := by decide +kernel
theorem dX1_advanceOnce_38 : decode cX1_advanceOnce 38 = .ok (.ixor, 1) := by decide +kernel
theorem dX1_advanceOnce_39 : decode cX1_advanceOnce 39 = .ok (.iand, 1) := by decide +kernel
theorem dX1_advanceOnce_40 : decode cX1_advanceOnce 40 = .ok (.aload_n 0, 1) := by decide +kernel
theorem dX1_advanceOnce_41 : decode cX1_advanceOnce 41 = .ok (.iload_n 3, 1) := by decide +kernel
theorem dX1_advanceOnce_42 : decode cX1_advanceOnce 42 = .ok (.invokevirtual 67, 3) := by decide +kernel
theorem dX1_advanceOnce_45 : decode cX1_advanceOnce 45 = .ok (.iconst (-1), 1) := by decide +kernel
theorem dX1_advanceOnce_46 : decode cX1_advanceOnce 46 = .ok (.ixor, 1) := by decide +kernel
theorem dX1_advanceOnce_47 : decode cX1_advanceOnce 47 = .ok (.iand, 1) := by decide +kernel
theorem dX1_advanceOnce_48 : decode cX1_advanceOnce 48 = .ok (.iastore, 1) := by decide +kernel
theorem dX1_advanceOnce_49 : decode cX1_advanceOnce 49 = .ok (.aload_n 0, 1) := by decide +kernel
theorem dX1_advanceOnce_50 : decode cX1_advanceOnce 50 = .ok (.iload_n 3, 1) := by decide +kernel
theorem dX1_advanceOnce_51 : decode cX1_advanceOnce 51 = .ok (.invokevirtual 70, 3) := by decide +kernel
theorem dX1_advanceOnce_54 : decode cX1_advanceOnce 54 = .ok (.aload_n 0, 1) := by decide +kernel
theorem dX1_advanceOnce_55 : decode cX1_advanceOnce 55 = .ok (.aload_n 0, 1) := by decide +kernel
theorem dX1_advanceOnce_56 : decode cX1_advanceOnce 56 = .ok (.iload_n 3, 1) := by decide +kernel
theorem dX1_advanceOnce_57 : decode cX1_advanceOnce 57 = .ok (.aload_n 0, 1) := by decide +kernel
theorem dX1_advanceOnce_58 : decode cX1_advanceOnce 58 = .ok (.iload_n 3, 1) := by decide +kernel
theorem dX1_advanceOnce_59 : decode cX1_advanceOnce 59 = .ok (.invokevirtual 73, 3) := by decide +kernel
theorem dX1_advanceOnce_62 : decode cX1_advanceOnce 62 = .ok (.iconst (-1), 1) := by decide +kernel
theorem dX1_advanceOnce_63 : decode cX1_advanceOnce 63 = .ok (.ixor, 1) := by decide +kernel
theorem dX1_advanceOnce_64 : decode cX1_advanceOnce 64 = .ok (.iand, 1) := by decide +kernel
theorem dX1_advanceOnce_65 : decode cX1_advanceOnce 65 = .ok (.iload_n 1, 1) := by decide +kernel
theorem dX1_advanceOnce_66 : decode cX1_advanceOnce 66 = .ok (.iconst (-1), 1) := by decide +kernel
theorem dX1_advanceOnce_67 : decode cX1_advanceOnce 67 = .ok (.ixor, 1) := by decide +kernel
theorem dX1_advanceOnce_68 : decode cX1_advanceOnce 68 = .ok (.iload_n 2, 1) := by decide +kernel
theorem dX1_advanceOnce_69 : decode cX1_advanceOnce 69 = .ok (.iconst (-1), 1) := by decide +kernel
theorem dX1_advanceOnce_70 : decode cX1_advanceOnce 70 = .ok (.ixor, 1) := by decide +kernel
theorem dX1_advanceOnce_71 : decode cX1_advanceOnce 71 = .ok (.iand, 1) := by decide +kernel
theorem dX1_advanceOnce_72 : decode cX1_advanceOnce 72 = .ok (.invokevirtual 76, 3) := by decide +kernel
theorem dX1_advanceOnce_75 : decode cX1_advanceOnce 75 = .ok (.invokevirtual 79, 3) := by decide +kernel
theorem dX1_advanceOnce_78 : decode cX1_advanceOnce 78 = .ok (.aload_n 0, 1) := by decide +kernel
theorem dX1_advanceOnce_79 : decode cX1_advanceOnce 79 = .ok (.invokevirtual 82, 3) := by decide +kernel
theorem dX1_advanceOnce_82 : decode cX1_advanceOnce 82 = .ok (.aload_n 0, 1) := by decide +kernel
theorem dX1_advanceOnce_83 : decode cX1_advanceOnce 83 = .ok (.getfield 24, 3) := by decide +kernel
theorem dX1_advanceOnce_86 : decode cX1_advanceOnce 86 = .ok (.bipush 56, 2) := by decide +kernel
theorem dX1_advanceOnce_88 : decode cX1_advanceOnce 88 = .ok (.dup2, 1) := by decide +kernel
theorem dX1_advanceOnce_89 : decode cX1_advanceOnce 89 = .ok (.iaload, 1) := by decide +kernel
theorem dX1_advanceOnce_90 : decode cX1_advanceOnce 90 = .ok (.iconst 1, 1) := by decide +kernel
theorem dX1_advanceOnce_91 : decode cX1_advanceOnce 91 = .ok (.iadd, 1) := by decide +kernel
theorem dX1_advanceOnce_92 : decode cX1_advanceOnce 92 = .ok (.iastore, 1) := by decide +kernel
theorem dX1_advanceOnce_93 : decode cX1_advanceOnce 93 = .ok (.return_, 1) := by decide +kernel
theorem dX1_behind_0 : decode cX1_behind 0 = .ok (.iload_n 1, 1) := by decide +kernel
theorem dX1_behind_1 : decode cX1_behind 1 = .ok (.aload_n 0, 1) := by decide +kernel
theorem dX1_behind_2 : decode cX1_behind 2 = .ok (.getfield 18, 3) := by decide +kernel
theorem dX1_behind_5 : decode cX1_behind 5 = .ok (.iconst 1, 1) := by decide +kernel
theorem dX1_behind_6 : decode cX1_behind 6 = .ok (.isub, 1) := by decide +kernel
theorem dX1_behind_7 : decode cX1_behind 7 = .ok (.if_icmp .ne 10, 3) := by decide +kernel
theorem dX1_behind_10 : decode cX1_behind 10 = .ok (.aload_n 0, 1) := by decide +kernel
theorem dX1_behind_11 : decode cX1_behind 11 = .ok (.getfield 21, 3) := by decide +kernel
theorem dX1_behind_14 : decode cX1_behind 14 = .ok (.goto 6, 3) := by decide +kernel
theorem dX1_behind_17 : decode cX1_behind 17 = .ok (.iload_n 1, 1) := by decide +kernel
theorem dX1_behind_18 : decode cX1_behind 18 = .ok (.iconst 1, 1) := by decide +kernel
theorem dX1_behind_19 : decode cX1_behind 19 = .ok (.iadd, 1) := by decide +kernel
theorem dX1_behind_20 : decode cX1_behind 20 = .ok (.ireturn, 1) := by decide +kernel
theorem dX1_behindThose_0 : decode cX1_behindThose 0 = .ok (.iconst 0, 1) := by decide +kernel
theorem dX1_behindThose_1 : decode cX1_behindThose 1 = .ok (.istore_n 2, 1) := by decide +kernel
theorem dX1_behindThose_2 : decode cX1_behindThose 2 = .ok (.iconst 0, 1) := by decide +kernel
theorem dX1_behindThose_3 : decode cX1_behindThose 3 = .ok (.istore_n 3, 1) := by decide +kernel
theorem dX1_behindThose_4 : decode cX1_behindThose 4 = .ok (.iload_n 3, 1) := by decide +kernel
theorem dX1_behindThose_5 : decode cX1_behindThose 5 = .ok (.aload_n 0, 1) := by decide +kernel
theorem dX1_behindThose_6 : decode cX1_behindThose 6 = .ok (.getfield 18, 3) := by decide +kernel
theorem dX1_behindThose_9 : decode cX1_behindThose 9 = .ok (.if_icmp .ge 37, 3) := by decide +kernel
theorem dX1_behindThose_12 : decode cX1_behindThose 12 = .ok (.iload_n 1, 1) := by decide +kernel
theorem dX1_behindThose_13 : decode cX1_behindThose 13 = .ok (.iload_n 3, 1) := by decide +kernel
theorem dX1_behindThose_14 : decode cX1_behindThose 14 = .ok (.invokestatic 37, 3) := by decide +kernel
theorem dX1_behindThose_17 : decode cX1_behindThose 17 = .ok (.ifCond .eq 23, 3) := by decide +kernel
theorem dX1_behindThose_20 : decode cX1_behindThose 20 = .ok (.iload_n 3, 1) := by decide +kernel
theorem dX1_behindThose_21 : decode cX1_behindThose 21 = .ok (.aload_n 0, 1) := by decide +kernel
theorem dX1_behindThose_22 : decode cX1_behindThose 22 = .ok (.getfield 9, 3) := by decide +kernel
theorem dX1_behindThose_25 : decode cX1_behindThose 25 = .ok (.iconst 1, 1) := by decide +kernel
theorem dX1_behindThose_26 : decode cX1_behindThose 26 = .ok (.isub, 1) := by decide +kernel
theorem dX1_behindThose_27 : decode cX1_behindThose 27 = .ok (.if_icmp .eq 13, 3) := by decide +kernel
theorem dX1_behindThose_30 : decode cX1_behindThose 30 = .ok (.iload_n 2, 1) := by decide +kernel
theorem dX1_behindThose_31 : decode cX1_behindThose 31 = .ok (.iconst 1, 1) := by decide +kernel
theorem dX1_behindThose_32 : decode cX1_behindThose 32 = .ok (.aload_n 0, 1) := by decide +kernel
theorem dX1_behindThose_33 : decode cX1_behindThose 33 = .ok (.iload_n 3, 1) := by decide +kernel
theorem dX1_behindThose_34 : decode cX1_behindThose 34 = .ok (.invokevirtual 85, 3) := by decide +kernel
theorem dX1_behindThose_37 : decode cX1_behindThose 37 = .ok (.ishl, 1) := by decide +kernel
theorem dX1_behindThose_38 : decode cX1_behindThose 38 = .ok (.ior, 1) := by decide +kernel
theorem dX1_behindThose_39 : decode cX1_behindThose 39 = .ok (.istore_n 2, 1) := by decide +kernel
theorem dX1_behindThose_40 : decode cX1_behindThose 40 = .ok (.iinc 3 1, 3) := by decide +kernel
theorem dX1_behindThose_43 : decode cX1_behindThose 43 = .ok (.goto (-39), 3) := by decide +kernel
theorem dX1_behindThose_46 : decode cX1_behindThose 46 = .ok (.iload_n 2, 1) := by decide +kernel
theorem dX1_behindThose_47 : decode cX1_behindThose 47 = .ok (.ireturn, 1) := by decide +kernel
theorem dX1_feedersOf_0 : decode cX1_feedersOf 0 = .ok (.iload_n 1, 1) := by decide +kernel
theorem dX1_feedersOf_1 : decode cX1_feedersOf 1 = .ok (.ifCond .eq 11, 3) := by decide +kernel
theorem dX1_feedersOf_4 : decode cX1_feedersOf 4 = .ok (.iload_n 1, 1) := by decide +kernel
theorem dX1_feedersOf_5 : decode cX1_feedersOf 5 = .ok (.aload_n 0, 1) := by decide +kernel
theorem dX1_feedersOf_6 : decode cX1_feedersOf 6 = .ok (.getfield 9, 3) := by decide +kernel
theorem dX1_feedersOf_9 : decode cX1_feedersOf 9 = .ok (.if_icmp .ne 7, 3) := by decide +kernel
theorem dX1_feedersOf_12 : decode cX1_feedersOf 12 = .ok (.iconst 0, 1) := by decide +kernel
theorem dX1_feedersOf_13 : decode cX1_feedersOf 13 = .ok (.goto 8, 3) := by decide +kernel
theorem dX1_feedersOf_16 : decode cX1_feedersOf 16 = .ok (.iconst 1, 1) := by decide +kernel
theorem dX1_feedersOf_17 : decode cX1_feedersOf 17 = .ok (.iload_n 1, 1) := by decide +kernel
theorem dX1_feedersOf_18 : decode cX1_feedersOf 18 = .ok (.iconst 1, 1) := by decide +kernel
theorem dX1_feedersOf_19 : decode cX1_feedersOf 19 = .ok (.isub, 1) := by decide +kernel
theorem dX1_feedersOf_20 : decode cX1_feedersOf 20 = .ok (.ishl, 1) := by decide +kernel
theorem dX1_feedersOf_21 : decode cX1_feedersOf 21 = .ok (.istore_n 2, 1) := by decide +kernel
theorem dX1_feedersOf_22 : decode cX1_feedersOf 22 = .ok (.iload_n 1, 1) := by decide +kernel
theorem dX1_feedersOf_23 : decode cX1_feedersOf 23 = .ok (.aload_n 0, 1) := by decide +kernel
theorem dX1_feedersOf_24 : decode cX1_feedersOf 24 = .ok (.getfield 21, 3) := by decide +kernel
theorem dX1_feedersOf_27 : decode cX1_feedersOf 27 = .ok (.if_icmp .ne 21, 3) := by decide +kernel
theorem dX1_feedersOf_30 : decode cX1_feedersOf 30 = .ok (.aload_n 0, 1) := by decide +kernel
theorem dX1_feedersOf_31 : decode cX1_feedersOf 31 = .ok (.getfield 15, 3) := by decide +kernel
theorem dX1_feedersOf_34 : decode cX1_feedersOf 34 = .ok (.ifCond .le 14, 3) := by decide +kernel
theorem dX1_feedersOf_37 : decode cX1_feedersOf 37 = .ok (.iload_n 2, 1) := by decide +kernel
theorem dX1_feedersOf_38 : decode cX1_feedersOf 38 = .ok (.iconst 1, 1) := by decide +kernel
theorem dX1_feedersOf_39 : decode cX1_feedersOf 39 = .ok (.aload_n 0, 1) := by decide +kernel
theorem dX1_feedersOf_40 : decode cX1_feedersOf 40 = .ok (.getfield 18, 3) := by decide +kernel
theorem dX1_feedersOf_43 : decode cX1_feedersOf 43 = .ok (.iconst 1, 1) := by decide +kernel
theorem dX1_feedersOf_44 : decode cX1_feedersOf 44 = .ok (.isub, 1) := by decide +kernel
theorem dX1_feedersOf_45 : decode cX1_feedersOf 45 = .ok (.ishl, 1) := by decide +kernel
theorem dX1_feedersOf_46 : decode cX1_feedersOf 46 = .ok (.ior, 1) := by decide +kernel
theorem dX1_feedersOf_47 : decode cX1_feedersOf 47 = .ok (.istore_n 2, 1) := by decide +kernel
theorem dX1_feedersOf_48 : decode cX1_feedersOf 48 = .ok (.iload_n 2, 1) := by decide +kernel
theorem dX1_feedersOf_49 : decode cX1_feedersOf 49 = .ok (.ireturn, 1) := by decide +kernel
theorem dX1_giveTickets_0 : decode cX1_giveTickets 0 = .ok (.aload_n 0, 1) := by decide +kernel
theorem dX1_giveTickets_1 : decode cX1_giveTickets 1 = .ok (.iload_n 1, 1) := by decide +kernel
theorem dX1_giveTickets_2 : decode cX1_giveTickets 2 = .ok (.aload_n 0, 1) := by decide +kernel
theorem dX1_giveTickets_3 : decode cX1_giveTickets 3 = .ok (.getfield 21, 3) := by decide +kernel
theorem dX1_giveTickets_6 : decode cX1_giveTickets 6 = .ok (.iconst 1, 1) := by decide +kernel
theorem dX1_giveTickets_7 : decode cX1_giveTickets 7 = .ok (.isub, 1) := by decide +kernel
theorem dX1_giveTickets_8 : decode cX1_giveTickets 8 = .ok (.invokevirtual 88, 3) := by decide +kernel
theorem dX1_giveTickets_11 : decode cX1_giveTickets 11 = .ok (.aload_n 0, 1) := by decide +kernel
theorem dX1_giveTickets_12 : decode cX1_giveTickets 12 = .ok (.getfield 15, 3) := by decide +kernel
theorem dX1_giveTickets_15 : decode cX1_giveTickets 15 = .ok (.ifCond .le 14, 3) := by decide +kernel
theorem dX1_giveTickets_18 : decode cX1_giveTickets 18 = .ok (.aload_n 0, 1) := by decide +kernel
theorem dX1_giveTickets_19 : decode cX1_giveTickets 19 = .ok (.iload_n 1, 1) := by decide +kernel
theorem dX1_giveTickets_20 : decode cX1_giveTickets 20 = .ok (.aload_n 0, 1) := by decide +kernel
theorem dX1_giveTickets_21 : decode cX1_giveTickets 21 = .ok (.getfield 18, 3) := by decide +kernel
theorem dX1_giveTickets_24 : decode cX1_giveTickets 24 = .ok (.iconst 1, 1) := by decide +kernel
theorem dX1_giveTickets_25 : decode cX1_giveTickets 25 = .ok (.isub, 1) := by decide +kernel
theorem dX1_giveTickets_26 : decode cX1_giveTickets 26 = .ok (.invokevirtual 88, 3) := by decide +kernel
theorem dX1_giveTickets_29 : decode cX1_giveTickets 29 = .ok (.return_, 1) := by decide +kernel
theorem dX1_giveTicket_0 : decode cX1_giveTicket 0 = .ok (.iload_n 1, 1) := by decide +kernel
theorem dX1_giveTicket_1 : decode cX1_giveTicket 1 = .ok (.iload_n 2, 1) := by decide +kernel
theorem dX1_giveTicket_2 : decode cX1_giveTicket 2 = .ok (.invokestatic 37, 3) := by decide +kernel
theorem dX1_giveTicket_5 : decode cX1_giveTicket 5 = .ok (.ifCond .eq 42, 3) := by decide +kernel
theorem dX1_giveTicket_8 : decode cX1_giveTicket 8 = .ok (.aload_n 0, 1) := by decide +kernel
theorem dX1_giveTicket_9 : decode cX1_giveTicket 9 = .ok (.getfield 24, 3) := by decide +kernel
theorem dX1_giveTicket_12 : decode cX1_giveTicket 12 = .ok (.bipush 36, 2) := by decide +kernel
theorem dX1_giveTicket_14 : decode cX1_giveTicket 14 = .ok (.iload_n 2, 1) := by decide +kernel
theorem dX1_giveTicket_15 : decode cX1_giveTicket 15 = .ok (.iadd, 1) := by decide +kernel
theorem dX1_giveTicket_16 : decode cX1_giveTicket 16 = .ok (.iaload, 1) := by decide +kernel
theorem dX1_giveTicket_17 : decode cX1_giveTicket 17 = .ok (.ifCond .ne 30, 3) := by decide +kernel
theorem dX1_giveTicket_20 : decode cX1_giveTicket 20 = .ok (.aload_n 0, 1) := by decide +kernel
theorem dX1_giveTicket_21 : decode cX1_giveTicket 21 = .ok (.getfield 24, 3) := by decide +kernel
theorem dX1_giveTicket_24 : decode cX1_giveTicket 24 = .ok (.bipush 53, 2) := by decide +kernel
theorem dX1_giveTicket_26 : decode cX1_giveTicket 26 = .ok (.dup2, 1) := by decide +kernel
theorem dX1_giveTicket_27 : decode cX1_giveTicket 27 = .ok (.iaload, 1) := by decide +kernel
theorem dX1_giveTicket_28 : decode cX1_giveTicket 28 = .ok (.iconst 1, 1) := by decide +kernel
theorem dX1_giveTicket_29 : decode cX1_giveTicket 29 = .ok (.iadd, 1) := by decide +kernel
theorem dX1_giveTicket_30 : decode cX1_giveTicket 30 = .ok (.iastore, 1) := by decide +kernel
theorem dX1_giveTicket_31 : decode cX1_giveTicket 31 = .ok (.aload_n 0, 1) := by decide +kernel
theorem dX1_giveTicket_32 : decode cX1_giveTicket 32 = .ok (.getfield 24, 3) := by decide +kernel
theorem dX1_giveTicket_35 : decode cX1_giveTicket 35 = .ok (.bipush 36, 2) := by decide +kernel
theorem dX1_giveTicket_37 : decode cX1_giveTicket 37 = .ok (.iload_n 2, 1) := by decide +kernel
theorem dX1_giveTicket_38 : decode cX1_giveTicket 38 = .ok (.iadd, 1) := by decide +kernel
theorem dX1_giveTicket_39 : decode cX1_giveTicket 39 = .ok (.aload_n 0, 1) := by decide +kernel
theorem dX1_giveTicket_40 : decode cX1_giveTicket 40 = .ok (.getfield 24, 3) := by decide +kernel
theorem dX1_giveTicket_43 : decode cX1_giveTicket 43 = .ok (.bipush 53, 2) := by decide +kernel
theorem dX1_giveTicket_45 : decode cX1_giveTicket 45 = .ok (.iaload, 1) := by decide +kernel
theorem dX1_giveTicket_46 : decode cX1_giveTicket 46 = .ok (.iastore, 1) := by decide +kernel
theorem dX1_giveTicket_47 : decode cX1_giveTicket 47 = .ok (.return_, 1) := by decide +kernel
theorem dX1_yielding_0 : decode cX1_yielding 0 = .ok (.aload_n 0, 1) := by decide +kernel
theorem dX1_yielding_1 : decode cX1_yielding 1 = .ok (.getfield 21, 3) := by decide +kernel
theorem dX1_yielding_4 : decode cX1_yielding 4 = .ok (.iconst 1, 1) := by decide +kernel
theorem dX1_yielding_5 : decode cX1_yielding 5 = .ok (.isub, 1) := by decide +kernel
theorem dX1_yielding_6 : decode cX1_yielding 6 = .ok (.istore_n 2, 1) := by decide +kernel
theorem dX1_yielding_7 : decode cX1_yielding 7 = .ok (.aload_n 0, 1) := by decide +kernel
theorem dX1_yielding_8 : decode cX1_yielding 8 = .ok (.getfield 18, 3) := by decide +kernel
theorem dX1_yielding_11 : decode cX1_yielding 11 = .ok (.iconst 1, 1) := by decide +kernel
theorem dX1_yielding_12 : decode cX1_yielding 12 = .ok (.isub, 1) := by decide +kernel
theorem dX1_yielding_13 : decode cX1_yielding 13 = .ok (.istore_n 3, 1) := by decide +kernel
theorem dX1_yielding_14 : decode cX1_yielding 14 = .ok (.aload_n 0, 1) := by decide +kernel
theorem dX1_yielding_15 : decode cX1_yielding 15 = .ok (.getfield 15, 3) := by decide +kernel
theorem dX1_yielding_18 : decode cX1_yielding 18 = .ok (.ifCond .eq 19, 3) := by decide +kernel
theorem dX1_yielding_21 : decode cX1_yielding 21 = .ok (.iload_n 1, 1) := by decide +kernel
theorem dX1_yielding_22 : decode cX1_yielding 22 = .ok (.iload_n 2, 1) := by decide +kernel
theorem dX1_yielding_23 : decode cX1_yielding 23 = .ok (.invokestatic 37, 3) := by decide +kernel
theorem dX1_yielding_26 : decode cX1_yielding 26 = .ok (.ifCond .eq 11, 3) := by decide +kernel
theorem dX1_yielding_29 : decode cX1_yielding 29 = .ok (.iload_n 1, 1) := by decide +kernel
theorem dX1_yielding_30 : decode cX1_yielding 30 = .ok (.iload_n 3, 1) := by decide +kernel
theorem dX1_yielding_31 : decode cX1_yielding 31 = .ok (.invokestatic 37, 3) := by decide +kernel
theorem dX1_yielding_34 : decode cX1_yielding 34 = .ok (.ifCond .ne 5, 3) := by decide +kernel
theorem dX1_yielding_37 : decode cX1_yielding 37 = .ok (.iconst 0, 1) := by decide +kernel
theorem dX1_yielding_38 : decode cX1_yielding 38 = .ok (.ireturn, 1) := by decide +kernel
theorem dX1_yielding_39 : decode cX1_yielding 39 = .ok (.aload_n 0, 1) := by decide +kernel
theorem dX1_yielding_40 : decode cX1_yielding 40 = .ok (.getfield 24, 3) := by decide +kernel
theorem dX1_yielding_43 : decode cX1_yielding 43 = .ok (.bipush 36, 2) := by decide +kernel
theorem dX1_yielding_45 : decode cX1_yielding 45 = .ok (.iload_n 2, 1) := by decide +kernel
theorem dX1_yielding_46 : decode cX1_yielding 46 = .ok (.iadd, 1) := by decide +kernel
theorem dX1_yielding_47 : decode cX1_yielding 47 = .ok (.iaload, 1) := by decide +kernel
theorem dX1_yielding_48 : decode cX1_yielding 48 = .ok (.aload_n 0, 1) := by decide +kernel
theorem dX1_yielding_49 : decode cX1_yielding 49 = .ok (.getfield 24, 3) := by decide +kernel
theorem dX1_yielding_52 : decode cX1_yielding 52 = .ok (.bipush 36, 2) := by decide +kernel
theorem dX1_yielding_54 : decode cX1_yielding 54 = .ok (.iload_n 3, 1) := by decide +kernel
theorem dX1_yielding_55 : decode cX1_yielding 55 = .ok (.iadd, 1) := by decide +kernel
theorem dX1_yielding_56 : decode cX1_yielding 56 = .ok (.iaload, 1) := by decide +kernel
theorem dX1_yielding_57 : decode cX1_yielding 57 = .ok (.if_icmp .ge 9, 3) := by decide +kernel
theorem dX1_yielding_60 : decode cX1_yielding 60 = .ok (.iconst 1, 1) := by decide +kernel
theorem dX1_yielding_61 : decode cX1_yielding 61 = .ok (.iload_n 3, 1) := by decide +kernel
theorem dX1_yielding_62 : decode cX1_yielding 62 = .ok (.ishl, 1) := by decide +kernel
theorem dX1_yielding_63 : decode cX1_yielding 63 = .ok (.goto 6, 3) := by decide +kernel
theorem dX1_yielding_66 : decode cX1_yielding 66 = .ok (.iconst 1, 1) := by decide +kernel
theorem dX1_yielding_67 : decode cX1_yielding 67 = .ok (.iload_n 2, 1) := by decide +kernel
theorem dX1_yielding_68 : decode cX1_yielding 68 = .ok (.ishl, 1) := by decide +kernel
theorem dX1_yielding_69 : decode cX1_yielding 69 = .ok (.ireturn, 1) := by decide +kernel
theorem dX1_settle_0 : decode cX1_settle 0 = .ok (.aload_n 0, 1) := by decide +kernel
theorem dX1_settle_1 : decode cX1_settle 1 = .ok (.getfield 9, 3) := by decide +kernel
theorem dX1_settle_4 : decode cX1_settle 4 = .ok (.iconst 1, 1) := by decide +kernel
theorem dX1_settle_5 : decode cX1_settle 5 = .ok (.isub, 1) := by decide +kernel
theorem dX1_settle_6 : decode cX1_settle 6 = .ok (.istore_n 3, 1) := by decide +kernel
theorem dX1_settle_7 : decode cX1_settle 7 = .ok (.aload_n 0, 1) := by decide +kernel
theorem dX1_settle_8 : decode cX1_settle 8 = .ok (.getfield 24, 3) := by decide +kernel
theorem dX1_settle_11 : decode cX1_settle 11 = .ok (.bipush 50, 2) := by decide +kernel
theorem dX1_settle_13 : decode cX1_settle 13 = .ok (.iaload, 1) := by decide +kernel
theorem dX1_settle_14 : decode cX1_settle 14 = .ok (.iconst 1, 1) := by decide +kernel
theorem dX1_settle_15 : decode cX1_settle 15 = .ok (.if_icmp .ne 11, 3) := by decide +kernel
theorem dX1_settle_18 : decode cX1_settle 18 = .ok (.iload_n 1, 1) := by decide +kernel
theorem dX1_settle_19 : decode cX1_settle 19 = .ok (.iconst 1, 1) := by decide +kernel
theorem dX1_settle_20 : decode cX1_settle 20 = .ok (.iload_n 3, 1) := by decide +kernel
theorem dX1_settle_21 : decode cX1_settle 21 = .ok (.ishl, 1) := by decide +kernel
theorem dX1_settle_22 : decode cX1_settle 22 = .ok (.iand, 1) := by decide +kernel
theorem dX1_settle_23 : decode cX1_settle 23 = .ok (.goto 4, 3) := by decide +kernel
theorem dX1_settle_26 : decode cX1_settle 26 = .ok (.iconst 0, 1) := by decide +kernel
theorem dX1_settle_27 : decode cX1_settle 27 = .ok (.istore 4, 2) := by decide +kernel
theorem dX1_settle_29 : decode cX1_settle 29 = .ok (.iload_n 3, 1) := by decide +kernel
theorem dX1_settle_30 : decode cX1_settle 30 = .ok (.iconst 1, 1) := by decide +kernel
theorem dX1_settle_31 : decode cX1_settle 31 = .ok (.isub, 1) := by decide +kernel
theorem dX1_settle_32 : decode cX1_settle 32 = .ok (.istore 5, 2) := by decide +kernel
theorem dX1_settle_34 : decode cX1_settle 34 = .ok (.iload 5, 2) := by decide +kernel
theorem dX1_settle_36 : decode cX1_settle 36 = .ok (.ifCond .lt 28, 3) := by decide +kernel
theorem dX1_settle_39 : decode cX1_settle 39 = .ok (.iload 4, 2) := by decide +kernel
theorem dX1_settle_41 : decode cX1_settle 41 = .ok (.aload_n 0, 1) := by decide +kernel
theorem dX1_settle_42 : decode cX1_settle 42 = .ok (.iload 5, 2) := by decide +kernel
theorem dX1_settle_44 : decode cX1_settle 44 = .ok (.iload_n 1, 1) := by decide +kernel
theorem dX1_settle_45 : decode cX1_settle 45 = .ok (.aload_n 0, 1) := by decide +kernel
theorem dX1_settle_46 : decode cX1_settle 46 = .ok (.iload 4, 2) := by decide +kernel
theorem dX1_settle_48 : decode cX1_settle 48 = .ok (.iload_n 2, 1) := by decide +kernel
theorem dX1_settle_49 : decode cX1_settle 49 = .ok (.invokevirtual 92, 3) := by decide +kernel
theorem dX1_settle_52 : decode cX1_settle 52 = .ok (.invokevirtual 95, 3) := by decide +kernel
theorem dX1_settle_55 : decode cX1_settle 55 = .ok (.ior, 1) := by decide +kernel
theorem dX1_settle_56 : decode cX1_settle 56 = .ok (.istore 4, 2) := by decide +kernel
theorem dX1_settle_58 : decode cX1_settle 58 = .ok (.iinc 5 (-1), 3) := by decide +kernel
theorem dX1_settle_61 : decode cX1_settle 61 = .ok (.goto (-27), 3) := by decide +kernel
theorem dX1_settle_64 : decode cX1_settle 64 = .ok (.aload_n 0, 1) := by decide +kernel
theorem dX1_settle_65 : decode cX1_settle 65 = .ok (.getfield 18, 3) := by decide +kernel
theorem dX1_settle_68 : decode cX1_settle 68 = .ok (.iconst 1, 1) := by decide +kernel
theorem dX1_settle_69 : decode cX1_settle 69 = .ok (.isub, 1) := by decide +kernel
theorem dX1_settle_70 : decode cX1_settle 70 = .ok (.istore 5, 2) := by decide +kernel
theorem dX1_settle_72 : decode cX1_settle 72 = .ok (.iload 5, 2) := by decide +kernel
theorem dX1_settle_74 : decode cX1_settle 74 = .ok (.aload_n 0, 1) := by decide +kernel
theorem dX1_settle_75 : decode cX1_settle 75 = .ok (.getfield 9, 3) := by decide +kernel
theorem dX1_settle_78 : decode cX1_settle 78 = .ok (.if_icmp .lt 28, 3) := by decide +kernel
theorem dX1_settle_81 : decode cX1_settle 81 = .ok (.iload 4, 2) := by decide +kernel
theorem dX1_settle_83 : decode cX1_settle 83 = .ok (.aload_n 0, 1) := by decide +kernel
theorem dX1_settle_84 : decode cX1_settle 84 = .ok (.iload 5, 2) := by decide +kernel
theorem dX1_settle_86 : decode cX1_settle 86 = .ok (.iload_n 1, 1) := by decide +kernel
theorem dX1_settle_87 : decode cX1_settle 87 = .ok (.aload_n 0, 1) := by decide +kernel
theorem dX1_settle_88 : decode cX1_settle 88 = .ok (.iload 4, 2) := by decide +kernel
theorem dX1_settle_90 : decode cX1_settle 90 = .ok (.iload_n 2, 1) := by decide +kernel
theorem dX1_settle_91 : decode cX1_settle 91 = .ok (.invokevirtual 92, 3) := by decide +kernel
theorem dX1_settle_94 : decode cX1_settle 94 = .ok (.invokevirtual 95, 3) := by decide +kernel
theorem dX1_settle_97 : decode cX1_settle 97 = .ok (.ior, 1) := by decide +kernel
theorem dX1_settle_98 : decode cX1_settle 98 = .ok (.istore 4, 2) := by decide +kernel
theorem dX1_settle_100 : decode cX1_settle 100 = .ok (.iinc 5 (-1), 3) := by decide +kernel
theorem dX1_settle_103 : decode cX1_settle 103 = .ok (.goto (-31), 3) := by decide +kernel
theorem dX1_settle_106 : decode cX1_settle 106 = .ok (.iload 4, 2) := by decide +kernel
theorem dX1_settle_108 : decode cX1_settle 108 = .ok (.ireturn, 1) := by decide +kernel
theorem dX1_roomWith_0 : decode cX1_roomWith 0 = .ok (.aload_n 0, 1) := by decide +kernel
theorem dX1_roomWith_1 : decode cX1_roomWith 1 = .ok (.getfield 24, 3) := by decide +kernel
theorem dX1_roomWith_4 : decode cX1_roomWith 4 = .ok (.bipush 51, 2) := by decide +kernel
theorem dX1_roomWith_6 : decode cX1_roomWith 6 = .ok (.iaload, 1) := by decide +kernel
theorem dX1_roomWith_7 : decode cX1_roomWith 7 = .ok (.iconst 1, 1) := by decide +kernel
theorem dX1_roomWith_8 : decode cX1_roomWith 8 = .ok (.if_icmp .ne 9, 3) := by decide +kernel
theorem dX1_roomWith_11 : decode cX1_roomWith 11 = .ok (.iload_n 2, 1) := by decide +kernel
theorem dX1_roomWith_12 : decode cX1_roomWith 12 = .ok (.iload_n 1, 1) := by decide +kernel
theorem dX1_roomWith_13 : decode cX1_roomWith 13 = .ok (.ior, 1) := by decide +kernel
theorem dX1_roomWith_14 : decode cX1_roomWith 14 = .ok (.goto 4, 3) := by decide +kernel
theorem dX1_roomWith_17 : decode cX1_roomWith 17 = .ok (.iload_n 2, 1) := by decide +kernel
theorem dX1_roomWith_18 : decode cX1_roomWith 18 = .ok (.ireturn, 1) := by decide +kernel
theorem dX1_goer_0 : decode cX1_goer 0 = .ok (.iload_n 2, 1) := by decide +kernel
theorem dX1_goer_1 : decode cX1_goer 1 = .ok (.iload_n 1, 1) := by decide +kernel
theorem dX1_goer_2 : decode cX1_goer 2 = .ok (.invokestatic 37, 3) := by decide +kernel
theorem dX1_goer_5 : decode cX1_goer 5 = .ok (.ifCond .eq 21, 3) := by decide +kernel
theorem dX1_goer_8 : decode cX1_goer 8 = .ok (.iload_n 3, 1) := by decide +kernel
theorem dX1_goer_9 : decode cX1_goer 9 = .ok (.aload_n 0, 1) := by decide +kernel
theorem dX1_goer_10 : decode cX1_goer 10 = .ok (.iload_n 1, 1) := by decide +kernel
theorem dX1_goer_11 : decode cX1_goer 11 = .ok (.invokevirtual 85, 3) := by decide +kernel
theorem dX1_goer_14 : decode cX1_goer 14 = .ok (.invokestatic 37, 3) := by decide +kernel
theorem dX1_goer_17 : decode cX1_goer 17 = .ok (.ifCond .eq 9, 3) := by decide +kernel
theorem dX1_goer_20 : decode cX1_goer 20 = .ok (.iconst 1, 1) := by decide +kernel
theorem dX1_goer_21 : decode cX1_goer 21 = .ok (.iload_n 1, 1) := by decide +kernel
theorem dX1_goer_22 : decode cX1_goer 22 = .ok (.ishl, 1) := by decide +kernel
theorem dX1_goer_23 : decode cX1_goer 23 = .ok (.goto 4, 3) := by decide +kernel
theorem dX1_goer_26 : decode cX1_goer 26 = .ok (.iconst 0, 1) := by decide +kernel
theorem dX1_goer_27 : decode cX1_goer 27 = .ok (.ireturn, 1) := by decide +kernel
theorem dX1_moveThose_0 : decode cX1_moveThose 0 = .ok (.aload_n 0, 1) := by decide +kernel
theorem dX1_moveThose_1 : decode cX1_moveThose 1 = .ok (.iconst 0, 1) := by decide +kernel
theorem dX1_moveThose_2 : decode cX1_moveThose 2 = .ok (.putfield 28, 3) := by decide +kernel
theorem dX1_moveThose_5 : decode cX1_moveThose 5 = .ok (.aload_n 0, 1) := by decide +kernel
theorem dX1_moveThose_6 : decode cX1_moveThose 6 = .ok (.getfield 9, 3) := by decide +kernel
theorem dX1_moveThose_9 : decode cX1_moveThose 9 = .ok (.iconst 1, 1) := by decide +kernel
theorem dX1_moveThose_10 : decode cX1_moveThose 10 = .ok (.isub, 1) := by decide +kernel
theorem dX1_moveThose_11 : decode cX1_moveThose 11 = .ok (.istore_n 2, 1) := by decide +kernel
theorem dX1_moveThose_12 : decode cX1_moveThose 12 = .ok (.iload_n 2, 1) := by decide +kernel
theorem dX1_moveThose_13 : decode cX1_moveThose 13 = .ok (.ifCond .lt 22, 3) := by decide +kernel
theorem dX1_moveThose_16 : decode cX1_moveThose 16 = .ok (.iload_n 1, 1) := by decide +kernel
theorem dX1_moveThose_17 : decode cX1_moveThose 17 = .ok (.iload_n 2, 1) := by decide +kernel
theorem dX1_moveThose_18 : decode cX1_moveThose 18 = .ok (.invokestatic 37, 3) := by decide +kernel
theorem dX1_moveThose_21 : decode cX1_moveThose 21 = .ok (.ifCond .eq 8, 3) := by decide +kernel
theorem dX1_moveThose_24 : decode cX1_moveThose 24 = .ok (.aload_n 0, 1) := by decide +kernel
theorem dX1_moveThose_25 : decode cX1_moveThose 25 = .ok (.iload_n 2, 1) := by decide +kernel
theorem dX1_moveThose_26 : decode cX1_moveThose 26 = .ok (.invokevirtual 99, 3) := by decide +kernel
theorem dX1_moveThose_29 : decode cX1_moveThose 29 = .ok (.iinc 2 (-1), 3) := by decide +kernel
theorem dX1_moveThose_32 : decode cX1_moveThose 32 = .ok (.goto (-20), 3) := by decide +kernel
theorem dX1_moveThose_35 : decode cX1_moveThose 35 = .ok (.aload_n 0, 1) := by decide +kernel
theorem dX1_moveThose_36 : decode cX1_moveThose 36 = .ok (.getfield 18, 3) := by decide +kernel
theorem dX1_moveThose_39 : decode cX1_moveThose 39 = .ok (.iconst 1, 1) := by decide +kernel
theorem dX1_moveThose_40 : decode cX1_moveThose 40 = .ok (.isub, 1) := by decide +kernel
theorem dX1_moveThose_41 : decode cX1_moveThose 41 = .ok (.istore_n 2, 1) := by decide +kernel
theorem dX1_moveThose_42 : decode cX1_moveThose 42 = .ok (.iload_n 2, 1) := by decide +kernel
theorem dX1_moveThose_43 : decode cX1_moveThose 43 = .ok (.aload_n 0, 1) := by decide +kernel
theorem dX1_moveThose_44 : decode cX1_moveThose 44 = .ok (.getfield 9, 3) := by decide +kernel
theorem dX1_moveThose_47 : decode cX1_moveThose 47 = .ok (.if_icmp .lt 22, 3) := by decide +kernel
theorem dX1_moveThose_50 : decode cX1_moveThose 50 = .ok (.iload_n 1, 1) := by decide +kernel
theorem dX1_moveThose_51 : decode cX1_moveThose 51 = .ok (.iload_n 2, 1) := by decide +kernel
theorem dX1_moveThose_52 : decode cX1_moveThose 52 = .ok (.invokestatic 37, 3) := by decide +kernel
theorem dX1_moveThose_55 : decode cX1_moveThose 55 = .ok (.ifCond .eq 8, 3) := by decide +kernel
theorem dX1_moveThose_58 : decode cX1_moveThose 58 = .ok (.aload_n 0, 1) := by decide +kernel
theorem dX1_moveThose_59 : decode cX1_moveThose 59 = .ok (.iload_n 2, 1) := by decide +kernel
theorem dX1_moveThose_60 : decode cX1_moveThose 60 = .ok (.invokevirtual 99, 3) := by decide +kernel
theorem dX1_moveThose_63 : decode cX1_moveThose 63 = .ok (.iinc 2 (-1), 3) := by decide +kernel
theorem dX1_moveThose_66 : decode cX1_moveThose 66 = .ok (.goto (-24), 3) := by decide +kernel
theorem dX1_moveThose_69 : decode cX1_moveThose 69 = .ok (.return_, 1) := by decide +kernel
theorem dX1_handOn_0 : decode cX1_handOn 0 = .ok (.aload_n 0, 1) := by decide +kernel
theorem dX1_handOn_1 : decode cX1_handOn 1 = .ok (.getfield 24, 3) := by decide +kernel
theorem dX1_handOn_4 : decode cX1_handOn 4 = .ok (.bipush 36, 2) := by decide +kernel
theorem dX1_handOn_6 : decode cX1_handOn 6 = .ok (.iload_n 1, 1) := by decide +kernel
theorem dX1_handOn_7 : decode cX1_handOn 7 = .ok (.iadd, 1) := by decide +kernel
theorem dX1_handOn_8 : decode cX1_handOn 8 = .ok (.iconst 0, 1) := by decide +kernel
theorem dX1_handOn_9 : decode cX1_handOn 9 = .ok (.iastore, 1) := by decide +kernel
theorem dX1_handOn_10 : decode cX1_handOn 10 = .ok (.aload_n 0, 1) := by decide +kernel
theorem dX1_handOn_11 : decode cX1_handOn 11 = .ok (.iload_n 1, 1) := by decide +kernel
theorem dX1_handOn_12 : decode cX1_handOn 12 = .ok (.invokevirtual 49, 3) := by decide +kernel
theorem dX1_handOn_15 : decode cX1_handOn 15 = .ok (.ifCond .ne 4, 3) := by decide +kernel
theorem dX1_handOn_18 : decode cX1_handOn 18 = .ok (.return_, 1) := by decide +kernel
theorem dX1_handOn_19 : decode cX1_handOn 19 = .ok (.iload_n 1, 1) := by decide +kernel
theorem dX1_handOn_20 : decode cX1_handOn 20 = .ok (.aload_n 0, 1) := by decide +kernel
theorem dX1_handOn_21 : decode cX1_handOn 21 = .ok (.getfield 9, 3) := by decide +kernel
theorem dX1_handOn_24 : decode cX1_handOn 24 = .ok (.iconst 1, 1) := by decide +kernel
theorem dX1_handOn_25 : decode cX1_handOn 25 = .ok (.isub, 1) := by decide +kernel
theorem dX1_handOn_26 : decode cX1_handOn 26 = .ok (.if_icmp .ne 29, 3) := by decide +kernel
theorem dX1_handOn_29 : decode cX1_handOn 29 = .ok (.aload_n 0, 1) := by decide +kernel
theorem dX1_handOn_30 : decode cX1_handOn 30 = .ok (.aload_n 0, 1) := by decide +kernel
theorem dX1_handOn_31 : decode cX1_handOn 31 = .ok (.iconst 0, 1) := by decide +kernel
theorem dX1_handOn_32 : decode cX1_handOn 32 = .ok (.iload_n 1, 1) := by decide +kernel
theorem dX1_handOn_33 : decode cX1_handOn 33 = .ok (.iadd, 1) := by decide +kernel
theorem dX1_handOn_34 : decode cX1_handOn 34 = .ok (.iconst 0, 1) := by decide +kernel
theorem dX1_handOn_35 : decode cX1_handOn 35 = .ok (.invokevirtual 56, 3) := by decide +kernel
theorem dX1_handOn_38 : decode cX1_handOn 38 = .ok (.putfield 28, 3) := by decide +kernel
theorem dX1_handOn_41 : decode cX1_handOn 41 = .ok (.aload_n 0, 1) := by decide +kernel
theorem dX1_handOn_42 : decode cX1_handOn 42 = .ok (.getfield 24, 3) := by decide +kernel
theorem dX1_handOn_45 : decode cX1_handOn 45 = .ok (.bipush 55, 2) := by decide +kernel
theorem dX1_handOn_47 : decode cX1_handOn 47 = .ok (.dup2, 1) := by decide +kernel
theorem dX1_handOn_48 : decode cX1_handOn 48 = .ok (.iaload, 1) := by decide +kernel
theorem dX1_handOn_49 : decode cX1_handOn 49 = .ok (.iconst 1, 1) := by decide +kernel
theorem dX1_handOn_50 : decode cX1_handOn 50 = .ok (.iadd, 1) := by decide +kernel
theorem dX1_handOn_51 : decode cX1_handOn 51 = .ok (.iastore, 1) := by decide +kernel
theorem dX1_handOn_52 : decode cX1_handOn 52 = .ok (.goto 51, 3) := by decide +kernel
theorem dX1_handOn_55 : decode cX1_handOn 55 = .ok (.aload_n 0, 1) := by decide +kernel
theorem dX1_handOn_56 : decode cX1_handOn 56 = .ok (.aload_n 0, 1) := by decide +kernel
theorem dX1_handOn_57 : decode cX1_handOn 57 = .ok (.iload_n 1, 1) := by decide +kernel
theorem dX1_handOn_58 : decode cX1_handOn 58 = .ok (.invokevirtual 85, 3) := by decide +kernel
theorem dX1_handOn_61 : decode cX1_handOn 61 = .ok (.invokevirtual 49, 3) := by decide +kernel
theorem dX1_handOn_64 : decode cX1_handOn 64 = .ok (.ifCond .eq 19, 3) := by decide +kernel
theorem dX1_handOn_67 : decode cX1_handOn 67 = .ok (.aload_n 0, 1) := by decide +kernel
theorem dX1_handOn_68 : decode cX1_handOn 68 = .ok (.getfield 24, 3) := by decide +kernel
theorem dX1_handOn_71 : decode cX1_handOn 71 = .ok (.bipush 48, 2) := by decide +kernel
theorem dX1_handOn_73 : decode cX1_handOn 73 = .ok (.dup2, 1) := by decide +kernel
theorem dX1_handOn_74 : decode cX1_handOn 74 = .ok (.iaload, 1) := by decide +kernel
theorem dX1_handOn_75 : decode cX1_handOn 75 = .ok (.iconst 1, 1) := by decide +kernel
theorem dX1_handOn_76 : decode cX1_handOn 76 = .ok (.iload_n 1, 1) := by decide +kernel
theorem dX1_handOn_77 : decode cX1_handOn 77 = .ok (.ishl, 1) := by decide +kernel
theorem dX1_handOn_78 : decode cX1_handOn 78 = .ok (.ior, 1) := by decide +kernel
theorem dX1_handOn_79 : decode cX1_handOn 79 = .ok (.iastore, 1) := by decide +kernel
theorem dX1_handOn_80 : decode cX1_handOn 80 = .ok (.goto 23, 3) := by decide +kernel
theorem dX1_handOn_83 : decode cX1_handOn 83 = .ok (.aload_n 0, 1) := by decide +kernel
theorem dX1_handOn_84 : decode cX1_handOn 84 = .ok (.getfield 24, 3) := by decide +kernel
theorem dX1_handOn_87 : decode cX1_handOn 87 = .ok (.iconst 0, 1) := by decide +kernel
theorem dX1_handOn_88 : decode cX1_handOn 88 = .ok (.aload_n 0, 1) := by decide +kernel
theorem dX1_handOn_89 : decode cX1_handOn 89 = .ok (.iload_n 1, 1) := by decide +kernel
theorem dX1_handOn_90 : decode cX1_handOn 90 = .ok (.invokevirtual 85, 3) := by decide +kernel
theorem dX1_handOn_93 : decode cX1_handOn 93 = .ok (.iadd, 1) := by decide +kernel
theorem dX1_handOn_94 : decode cX1_handOn 94 = .ok (.aload_n 0, 1) := by decide +kernel
theorem dX1_handOn_95 : decode cX1_handOn 95 = .ok (.iconst 0, 1) := by decide +kernel
theorem dX1_handOn_96 : decode cX1_handOn 96 = .ok (.iload_n 1, 1) := by decide +kernel
theorem dX1_handOn_97 : decode cX1_handOn 97 = .ok (.iadd, 1) := by decide +kernel
theorem dX1_handOn_98 : decode cX1_handOn 98 = .ok (.iconst 0, 1) := by decide +kernel
theorem dX1_handOn_99 : decode cX1_handOn 99 = .ok (.invokevirtual 56, 3) := by decide +kernel
theorem dX1_handOn_102 : decode cX1_handOn 102 = .ok (.iastore, 1) := by decide +kernel
theorem dX1_handOn_103 : decode cX1_handOn 103 = .ok (.return_, 1) := by decide +kernel
theorem dX1_tellIdle_0 : decode cX1_tellIdle 0 = .ok (.aload_n 0, 1) := by decide +kernel
theorem dX1_tellIdle_1 : decode cX1_tellIdle 1 = .ok (.invokevirtual 63, 3) := by decide +kernel
theorem dX1_tellIdle_4 : decode cX1_tellIdle 4 = .ok (.istore_n 1, 1) := by decide +kernel
theorem dX1_tellIdle_5 : decode cX1_tellIdle 5 = .ok (.iconst 0, 1) := by decide +kernel
theorem dX1_tellIdle_6 : decode cX1_tellIdle 6 = .ok (.istore_n 2, 1) := by decide +kernel
theorem dX1_tellIdle_7 : decode cX1_tellIdle 7 = .ok (.iload_n 2, 1) := by decide +kernel
theorem dX1_tellIdle_8 : decode cX1_tellIdle 8 = .ok (.aload_n 0, 1) := by decide +kernel
theorem dX1_tellIdle_9 : decode cX1_tellIdle 9 = .ok (.getfield 18, 3) := by decide +kernel
theorem dX1_tellIdle_12 : decode cX1_tellIdle 12 = .ok (.if_icmp .ge 91, 3) := by decide +kernel
theorem dX1_tellIdle_15 : decode cX1_tellIdle 15 = .ok (.iload_n 1, 1) := by decide +kernel
theorem dX1_tellIdle_16 : decode cX1_tellIdle 16 = .ok (.iconst 1, 1) := by decide +kernel
theorem dX1_tellIdle_17 : decode cX1_tellIdle 17 = .ok (.iload_n 2, 1) := by decide +kernel
theorem dX1_tellIdle_18 : decode cX1_tellIdle 18 = .ok (.ishl, 1) := by decide +kernel
theorem dX1_tellIdle_19 : decode cX1_tellIdle 19 = .ok (.aload_n 0, 1) := by decide +kernel
theorem dX1_tellIdle_20 : decode cX1_tellIdle 20 = .ok (.iload_n 2, 1) := by decide +kernel
theorem dX1_tellIdle_21 : decode cX1_tellIdle 21 = .ok (.invokevirtual 102, 3) := by decide +kernel
theorem dX1_tellIdle_24 : decode cX1_tellIdle 24 = .ok (.ior, 1) := by decide +kernel
theorem dX1_tellIdle_25 : decode cX1_tellIdle 25 = .ok (.iand, 1) := by decide +kernel
theorem dX1_tellIdle_26 : decode cX1_tellIdle 26 = .ok (.ifCond .eq 16, 3) := by decide +kernel
theorem dX1_tellIdle_29 : decode cX1_tellIdle 29 = .ok (.aload_n 0, 1) := by decide +kernel
theorem dX1_tellIdle_30 : decode cX1_tellIdle 30 = .ok (.getfield 24, 3) := by decide +kernel
theorem dX1_tellIdle_33 : decode cX1_tellIdle 33 = .ok (.bipush 24, 2) := by decide +kernel
theorem dX1_tellIdle_35 : decode cX1_tellIdle 35 = .ok (.iload_n 2, 1) := by decide +kernel
theorem dX1_tellIdle_36 : decode cX1_tellIdle 36 = .ok (.iadd, 1) := by decide +kernel
theorem dX1_tellIdle_37 : decode cX1_tellIdle 37 = .ok (.iconst 0, 1) := by decide +kernel
theorem dX1_tellIdle_38 : decode cX1_tellIdle 38 = .ok (.iastore, 1) := by decide +kernel
theorem dX1_tellIdle_39 : decode cX1_tellIdle 39 = .ok (.goto 58, 3) := by decide +kernel
theorem dX1_tellIdle_42 : decode cX1_tellIdle 42 = .ok (.aload_n 0, 1) := by decide +kernel
theorem dX1_tellIdle_43 : decode cX1_tellIdle 43 = .ok (.getfield 24, 3) := by decide +kernel
theorem dX1_tellIdle_46 : decode cX1_tellIdle 46 = .ok (.bipush 24, 2) := by decide +kernel
theorem dX1_tellIdle_48 : decode cX1_tellIdle 48 = .ok (.iload_n 2, 1) := by decide +kernel
theorem dX1_tellIdle_49 : decode cX1_tellIdle 49 = .ok (.iadd, 1) := by decide +kernel
theorem dX1_tellIdle_50 : decode cX1_tellIdle 50 = .ok (.dup2, 1) := by decide +kernel
theorem dX1_tellIdle_51 : decode cX1_tellIdle 51 = .ok (.iaload, 1) := by decide +kernel
theorem dX1_tellIdle_52 : decode cX1_tellIdle 52 = .ok (.iconst 1, 1) := by decide +kernel
theorem dX1_tellIdle_53 : decode cX1_tellIdle 53 = .ok (.iadd, 1) := by decide +kernel
theorem dX1_tellIdle_54 : decode cX1_tellIdle 54 = .ok (.iastore, 1) := by decide +kernel
theorem dX1_tellIdle_55 : decode cX1_tellIdle 55 = .ok (.aload_n 0, 1) := by decide +kernel
theorem dX1_tellIdle_56 : decode cX1_tellIdle 56 = .ok (.getfield 24, 3) := by decide +kernel
theorem dX1_tellIdle_59 : decode cX1_tellIdle 59 = .ok (.bipush 52, 2) := by decide +kernel
theorem dX1_tellIdle_61 : decode cX1_tellIdle 61 = .ok (.iaload, 1) := by decide +kernel
theorem dX1_tellIdle_62 : decode cX1_tellIdle 62 = .ok (.ifCond .le 35, 3) := by decide +kernel
theorem dX1_tellIdle_65 : decode cX1_tellIdle 65 = .ok (.aload_n 0, 1) := by decide +kernel
theorem dX1_tellIdle_66 : decode cX1_tellIdle 66 = .ok (.getfield 24, 3) := by decide +kernel
theorem dX1_tellIdle_69 : decode cX1_tellIdle 69 = .ok (.bipush 24, 2) := by decide +kernel
theorem dX1_tellIdle_71 : decode cX1_tellIdle 71 = .ok (.iload_n 2, 1) := by decide +kernel
theorem dX1_tellIdle_72 : decode cX1_tellIdle 72 = .ok (.iadd, 1) := by decide +kernel
theorem dX1_tellIdle_73 : decode cX1_tellIdle 73 = .ok (.iaload, 1) := by decide +kernel
theorem dX1_tellIdle_74 : decode cX1_tellIdle 74 = .ok (.aload_n 0, 1) := by decide +kernel
theorem dX1_tellIdle_75 : decode cX1_tellIdle 75 = .ok (.getfield 24, 3) := by decide +kernel
theorem dX1_tellIdle_78 : decode cX1_tellIdle 78 = .ok (.bipush 52, 2) := by decide +kernel
theorem dX1_tellIdle_80 : decode cX1_tellIdle 80 = .ok (.iaload, 1) := by decide +kernel
theorem dX1_tellIdle_81 : decode cX1_tellIdle 81 = .ok (.if_icmp .lt 16, 3) := by decide +kernel
theorem dX1_tellIdle_84 : decode cX1_tellIdle 84 = .ok (.aload_n 0, 1) := by decide +kernel
theorem dX1_tellIdle_85 : decode cX1_tellIdle 85 = .ok (.getfield 24, 3) := by decide +kernel
theorem dX1_tellIdle_88 : decode cX1_tellIdle 88 = .ok (.bipush 49, 2) := by decide +kernel
theorem dX1_tellIdle_90 : decode cX1_tellIdle 90 = .ok (.dup2, 1) := by decide +kernel
theorem dX1_tellIdle_91 : decode cX1_tellIdle 91 = .ok (.iaload, 1) := by decide +kernel
theorem dX1_tellIdle_92 : decode cX1_tellIdle 92 = .ok (.iconst 1, 1) := by decide +kernel
theorem dX1_tellIdle_93 : decode cX1_tellIdle 93 = .ok (.iload_n 2, 1) := by decide +kernel
theorem dX1_tellIdle_94 : decode cX1_tellIdle 94 = .ok (.ishl, 1) := by decide +kernel
theorem dX1_tellIdle_95 : decode cX1_tellIdle 95 = .ok (.ior, 1) := by decide +kernel
theorem dX1_tellIdle_96 : decode cX1_tellIdle 96 = .ok (.iastore, 1) := by decide +kernel
theorem dX1_tellIdle_97 : decode cX1_tellIdle 97 = .ok (.iinc 2 1, 3) := by decide +kernel
theorem dX1_tellIdle_100 : decode cX1_tellIdle 100 = .ok (.goto (-93), 3) := by decide +kernel
theorem dX1_tellIdle_103 : decode cX1_tellIdle 103 = .ok (.return_, 1) := by decide +kernel
theorem dX2_init_0 : decode cX2_init 0 = .ok (.aload_n 0, 1) := by decide +kernel
theorem dX2_init_1 : decode cX2_init 1 = .ok (.invokespecial 1, 3) := by decide +kernel
theorem dX2_init_4 : decode cX2_init 4 = .ok (.aload_n 0, 1) := by decide +kernel
theorem dX2_init_5 : decode cX2_init 5 = .ok (.bipush 6, 2) := by decide +kernel
theorem dX2_init_7 : decode cX2_init 7 = .ok (.newarray .int, 2) := by decide +kernel
theorem dX2_init_9 : decode cX2_init 9 = .ok (.putfield 9, 3) := by decide +kernel
theorem dX2_init_12 : decode cX2_init 12 = .ok (.aload_n 0, 1) := by decide +kernel
theorem dX2_init_13 : decode cX2_init 13 = .ok (.bipush 6, 2) := by decide +kernel
theorem dX2_init_15 : decode cX2_init 15 = .ok (.newarray .int, 2) := by decide +kernel
theorem dX2_init_17 : decode cX2_init 17 = .ok (.putfield 13, 3) := by decide +kernel
theorem dX2_init_20 : decode cX2_init 20 = .ok (.aload_n 0, 1) := by decide +kernel
theorem dX2_init_21 : decode cX2_init 21 = .ok (.bipush 6, 2) := by decide +kernel
theorem dX2_init_23 : decode cX2_init 23 = .ok (.newarray .int, 2) := by decide +kernel
theorem dX2_init_25 : decode cX2_init 25 = .ok (.putfield 16, 3) := by decide +kernel
theorem dX2_init_28 : decode cX2_init 28 = .ok (.aload_n 0, 1) := by decide +kernel
theorem dX2_init_29 : decode cX2_init 29 = .ok (.iconst 0, 1) := by decide +kernel
theorem dX2_init_30 : decode cX2_init 30 = .ok (.putfield 19, 3) := by decide +kernel
theorem dX2_init_33 : decode cX2_init 33 = .ok (.return_, 1) := by decide +kernel
theorem dX2_append_0 : decode cX2_append 0 = .ok (.aload_n 0, 1) := by decide +kernel
theorem dX2_append_1 : decode cX2_append 1 = .ok (.getfield 19, 3) := by decide +kernel
theorem dX2_append_4 : decode cX2_append 4 = .ok (.bipush 6, 2) := by decide +kernel
theorem dX2_append_6 : decode cX2_append 6 = .ok (.if_icmp .lt 5, 3) := by decide +kernel
theorem dX2_append_9 : decode cX2_append 9 = .ok (.iconst 0, 1) := by decide +kernel
theorem dX2_append_10 : decode cX2_append 10 = .ok (.ireturn, 1) := by decide +kernel
theorem dX2_append_11 : decode cX2_append 11 = .ok (.aload_n 0, 1) := by decide +kernel
theorem dX2_append_12 : decode cX2_append 12 = .ok (.getfield 9, 3) := by decide +kernel
theorem dX2_append_15 : decode cX2_append 15 = .ok (.aload_n 0, 1) := by decide +kernel
theorem dX2_append_16 : decode cX2_append 16 = .ok (.getfield 19, 3) := by decide +kernel
theorem dX2_append_19 : decode cX2_append 19 = .ok (.iload_n 1, 1) := by decide +kernel
theorem dX2_append_20 : decode cX2_append 20 = .ok (.iastore, 1) := by decide +kernel
theorem dX2_append_21 : decode cX2_append 21 = .ok (.aload_n 0, 1) := by decide +kernel
theorem dX2_append_22 : decode cX2_append 22 = .ok (.getfield 13, 3) := by decide +kernel
theorem dX2_append_25 : decode cX2_append 25 = .ok (.aload_n 0, 1) := by decide +kernel
theorem dX2_append_26 : decode cX2_append 26 = .ok (.getfield 19, 3) := by decide +kernel
theorem dX2_append_29 : decode cX2_append 29 = .ok (.iload_n 2, 1) := by decide +kernel
theorem dX2_append_30 : decode cX2_append 30 = .ok (.iastore, 1) := by decide +kernel
theorem dX2_append_31 : decode cX2_append 31 = .ok (.aload_n 0, 1) := by decide +kernel
theorem dX2_append_32 : decode cX2_append 32 = .ok (.getfield 16, 3) := by decide +kernel
theorem dX2_append_35 : decode cX2_append 35 = .ok (.aload_n 0, 1) := by decide +kernel
theorem dX2_append_36 : decode cX2_append 36 = .ok (.getfield 19, 3) := by decide +kernel
theorem dX2_append_39 : decode cX2_append 39 = .ok (.iload_n 3, 1) := by decide +kernel
theorem dX2_append_40 : decode cX2_append 40 = .ok (.iastore, 1) := by decide +kernel
theorem dX2_append_41 : decode cX2_append 41 = .ok (.aload_n 0, 1) := by decide +kernel
theorem dX2_append_42 : decode cX2_append 42 = .ok (.dup, 1) := by decide +kernel
theorem dX2_append_43 : decode cX2_append 43 = .ok (.getfield 19, 3) := by decide +kernel
theorem dX2_append_46 : decode cX2_append 46 = .ok (.iconst 1, 1) := by decide +kernel
theorem dX2_append_47 : decode cX2_append 47 = .ok (.iadd, 1) := by decide +kernel
theorem dX2_append_48 : decode cX2_append 48 = .ok (.putfield 19, 3) := by decide +kernel
theorem dX2_append_51 : decode cX2_append 51 = .ok (.iconst 1, 1) := by decide +kernel
theorem dX2_append_52 : decode cX2_append 52 = .ok (.ireturn, 1) := by decide +kernel
theorem dX2_allSo_0 : decode cX2_allSo 0 = .ok (.aload_n 0, 1) := by decide +kernel
theorem dX2_allSo_1 : decode cX2_allSo 1 = .ok (.invokevirtual 23, 3) := by decide +kernel
theorem dX2_allSo_4 : decode cX2_allSo 4 = .ok (.istore_n 2, 1) := by decide +kernel
theorem dX2_allSo_5 : decode cX2_allSo 5 = .ok (.iconst 0, 1) := by decide +kernel
theorem dX2_allSo_6 : decode cX2_allSo 6 = .ok (.istore_n 3, 1) := by decide +kernel
theorem dX2_allSo_7 : decode cX2_allSo 7 = .ok (.iload_n 3, 1) := by decide +kernel
theorem dX2_allSo_8 : decode cX2_allSo 8 = .ok (.iload_n 2, 1) := by decide +kernel
theorem dX2_allSo_9 : decode cX2_allSo 9 = .ok (.if_icmp .gt 30, 3) := by decide +kernel
theorem dX2_allSo_12 : decode cX2_allSo 12 = .ok (.aload_n 0, 1) := by decide +kernel
theorem dX2_allSo_13 : decode cX2_allSo 13 = .ok (.iload_n 3, 1) := by decide +kernel
theorem dX2_allSo_14 : decode cX2_allSo 14 = .ok (.aload_n 1, 1) := by decide +kernel
theorem dX2_allSo_15 : decode cX2_allSo 15 = .ok (.getfield 27, 3) := by decide +kernel
theorem dX2_allSo_18 : decode cX2_allSo 18 = .ok (.bipush 55, 2) := by decide +kernel
theorem dX2_allSo_20 : decode cX2_allSo 20 = .ok (.iaload, 1) := by decide +kernel
theorem dX2_allSo_21 : decode cX2_allSo 21 = .ok (.invokevirtual 32, 3) := by decide +kernel
theorem dX2_allSo_24 : decode cX2_allSo 24 = .ok (.ifCond .ne 5, 3) := by decide +kernel
theorem dX2_allSo_27 : decode cX2_allSo 27 = .ok (.iconst 0, 1) := by decide +kernel
theorem dX2_allSo_28 : decode cX2_allSo 28 = .ok (.ireturn, 1) := by decide +kernel
theorem dX2_allSo_29 : decode cX2_allSo 29 = .ok (.aload_n 1, 1) := by decide +kernel
theorem dX2_allSo_30 : decode cX2_allSo 30 = .ok (.invokevirtual 36, 3) := by decide +kernel
theorem dX2_allSo_33 : decode cX2_allSo 33 = .ok (.iinc 3 1, 3) := by decide +kernel
theorem dX2_allSo_36 : decode cX2_allSo 36 = .ok (.goto (-29), 3) := by decide +kernel
theorem dX2_allSo_39 : decode cX2_allSo 39 = .ok (.iconst 1, 1) := by decide +kernel
theorem dX2_allSo_40 : decode cX2_allSo 40 = .ok (.ireturn, 1) := by decide +kernel
theorem dX2_latest_0 : decode cX2_latest 0 = .ok (.iconst (-1), 1) := by decide +kernel
theorem dX2_latest_1 : decode cX2_latest 1 = .ok (.istore_n 1, 1) := by decide +kernel
theorem dX2_latest_2 : decode cX2_latest 2 = .ok (.iconst 0, 1) := by decide +kernel
theorem dX2_latest_3 : decode cX2_latest 3 = .ok (.istore_n 2, 1) := by decide +kernel
theorem dX2_latest_4 : decode cX2_latest 4 = .ok (.iload_n 2, 1) := by decide +kernel
theorem dX2_latest_5 : decode cX2_latest 5 = .ok (.aload_n 0, 1) := by decide +kernel
theorem dX2_latest_6 : decode cX2_latest 6 = .ok (.getfield 19, 3) := by decide +kernel
theorem dX2_latest_9 : decode cX2_latest 9 = .ok (.if_icmp .ge 20, 3) := by decide +kernel
theorem dX2_latest_12 : decode cX2_latest 12 = .ok (.iload_n 1, 1) := by decide +kernel
theorem dX2_latest_13 : decode cX2_latest 13 = .ok (.aload_n 0, 1) := by decide +kernel
theorem dX2_latest_14 : decode cX2_latest 14 = .ok (.getfield 9, 3) := by decide +kernel
theorem dX2_latest_17 : decode cX2_latest 17 = .ok (.iload_n 2, 1) := by decide +kernel
theorem dX2_latest_18 : decode cX2_latest 18 = .ok (.iaload, 1) := by decide +kernel
theorem dX2_latest_19 : decode cX2_latest 19 = .ok (.invokestatic 39, 3) := by decide +kernel
theorem dX2_latest_22 : decode cX2_latest 22 = .ok (.istore_n 1, 1) := by decide +kernel
theorem dX2_latest_23 : decode cX2_latest 23 = .ok (.iinc 2 1, 3) := by decide +kernel
theorem dX2_latest_26 : decode cX2_latest 26 = .ok (.goto (-22), 3) := by decide +kernel
theorem dX2_latest_29 : decode cX2_latest 29 = .ok (.iload_n 1, 1) := by decide +kernel
theorem dX2_latest_30 : decode cX2_latest 30 = .ok (.ireturn, 1) := by decide +kernel
theorem dX2_soBehind_0 : decode cX2_soBehind 0 = .ok (.iconst 0, 1) := by decide +kernel
theorem dX2_soBehind_1 : decode cX2_soBehind 1 = .ok (.istore_n 3, 1) := by decide +kernel
theorem dX2_soBehind_2 : decode cX2_soBehind 2 = .ok (.iload_n 3, 1) := by decide +kernel
theorem dX2_soBehind_3 : decode cX2_soBehind 3 = .ok (.aload_n 0, 1) := by decide +kernel
theorem dX2_soBehind_4 : decode cX2_soBehind 4 = .ok (.getfield 19, 3) := by decide +kernel
theorem dX2_soBehind_7 : decode cX2_soBehind 7 = .ok (.if_icmp .ge 45, 3) := by decide +kernel
theorem dX2_soBehind_10 : decode cX2_soBehind 10 = .ok (.aload_n 0, 1) := by decide +kernel
theorem dX2_soBehind_11 : decode cX2_soBehind 11 = .ok (.getfield 9, 3) := by decide +kernel
theorem dX2_soBehind_14 : decode cX2_soBehind 14 = .ok (.iload_n 3, 1) := by decide +kernel
theorem dX2_soBehind_15 : decode cX2_soBehind 15 = .ok (.iaload, 1) := by decide +kernel
theorem dX2_soBehind_16 : decode cX2_soBehind 16 = .ok (.iload_n 1, 1) := by decide +kernel
theorem dX2_soBehind_17 : decode cX2_soBehind 17 = .ok (.if_icmp .ne 29, 3) := by decide +kernel
theorem dX2_soBehind_20 : decode cX2_soBehind 20 = .ok (.aload_n 0, 1) := by decide +kernel
theorem dX2_soBehind_21 : decode cX2_soBehind 21 = .ok (.getfield 13, 3) := by decide +kernel
theorem dX2_soBehind_24 : decode cX2_soBehind 24 = .ok (.iload_n 3, 1) := by decide +kernel
theorem dX2_soBehind_25 : decode cX2_soBehind 25 = .ok (.iaload, 1) := by decide +kernel
theorem dX2_soBehind_26 : decode cX2_soBehind 26 = .ok (.iload_n 2, 1) := by decide +kernel
theorem dX2_soBehind_27 : decode cX2_soBehind 27 = .ok (.if_icmp .ne 7, 3) := by decide +kernel
theorem dX2_soBehind_30 : decode cX2_soBehind 30 = .ok (.iconst 1, 1) := by decide +kernel
theorem dX2_soBehind_31 : decode cX2_soBehind 31 = .ok (.goto 4, 3) := by decide +kernel
theorem dX2_soBehind_34 : decode cX2_soBehind 34 = .ok (.iconst 0, 1) := by decide +kernel
theorem dX2_soBehind_35 : decode cX2_soBehind 35 = .ok (.aload_n 0, 1) := by decide +kernel
theorem dX2_soBehind_36 : decode cX2_soBehind 36 = .ok (.getfield 16, 3) := by decide +kernel
theorem dX2_soBehind_39 : decode cX2_soBehind 39 = .ok (.iload_n 3, 1) := by decide +kernel
theorem dX2_soBehind_40 : decode cX2_soBehind 40 = .ok (.iaload, 1) := by decide +kernel
theorem dX2_soBehind_41 : decode cX2_soBehind 41 = .ok (.if_icmp .eq 5, 3) := by decide +kernel
theorem dX2_soBehind_44 : decode cX2_soBehind 44 = .ok (.iconst 0, 1) := by decide +kernel
theorem dX2_soBehind_45 : decode cX2_soBehind 45 = .ok (.ireturn, 1) := by decide +kernel
theorem dX2_soBehind_46 : decode cX2_soBehind 46 = .ok (.iinc 3 1, 3) := by decide +kernel
theorem dX2_soBehind_49 : decode cX2_soBehind 49 = .ok (.goto (-47), 3) := by decide +kernel
theorem dX2_soBehind_52 : decode cX2_soBehind 52 = .ok (.iconst 1, 1) := by decide +kernel
theorem dX2_soBehind_53 : decode cX2_soBehind 53 = .ok (.ireturn, 1) := by decide +kernel
theorem dX3_init_0 : decode cX3_init 0 = .ok (.aload_n 0, 1) := by decide +kernel
theorem dX3_init_1 : decode cX3_init 1 = .ok (.invokespecial 1, 3) := by decide +kernel
theorem dX3_init_4 : decode cX3_init 4 = .ok (.aload_n 0, 1) := by decide +kernel
theorem dX3_init_5 : decode cX3_init 5 = .ok (.iconst 0, 1) := by decide +kernel
theorem dX3_init_6 : decode cX3_init 6 = .ok (.iload_n 1, 1) := by decide +kernel
theorem dX3_init_7 : decode cX3_init 7 = .ok (.invokestatic 7, 3) := by decide +kernel
theorem dX3_init_10 : decode cX3_init 10 = .ok (.putfield 13, 3) := by decide +kernel
theorem dX3_init_13 : decode cX3_init 13 = .ok (.aload_n 0, 1) := by decide +kernel
theorem dX3_init_14 : decode cX3_init 14 = .ok (.aload_n 0, 1) := by decide +kernel
theorem dX3_init_15 : decode cX3_init 15 = .ok (.getfield 13, 3) := by decide +kernel
theorem dX3_init_18 : decode cX3_init 18 = .ok (.bipush 57, 2) := by decide +kernel
theorem dX3_init_20 : decode cX3_init 20 = .ok (.imul, 1) := by decide +kernel
theorem dX3_init_21 : decode cX3_init 21 = .ok (.newarray .int, 2) := by decide +kernel
theorem dX3_init_23 : decode cX3_init 23 = .ok (.putfield 21, 3) := by decide +kernel
theorem dX3_init_26 : decode cX3_init 26 = .ok (.return_, 1) := by decide +kernel
theorem dX3_put_0 : decode cX3_put 0 = .ok (.iload_n 1, 1) := by decide +kernel
theorem dX3_put_1 : decode cX3_put 1 = .ok (.ifCond .lt 29, 3) := by decide +kernel
theorem dX3_put_4 : decode cX3_put 4 = .ok (.iload_n 1, 1) := by decide +kernel
theorem dX3_put_5 : decode cX3_put 5 = .ok (.aload_n 0, 1) := by decide +kernel
theorem dX3_put_6 : decode cX3_put 6 = .ok (.getfield 13, 3) := by decide +kernel
theorem dX3_put_9 : decode cX3_put 9 = .ok (.if_icmp .ge 21, 3) := by decide +kernel
theorem dX3_put_12 : decode cX3_put 12 = .ok (.aload_n 2, 1) := by decide +kernel
theorem dX3_put_13 : decode cX3_put 13 = .ok (.getfield 25, 3) := by decide +kernel
theorem dX3_put_16 : decode cX3_put 16 = .ok (.iconst 0, 1) := by decide +kernel
theorem dX3_put_17 : decode cX3_put 17 = .ok (.aload_n 0, 1) := by decide +kernel
theorem dX3_put_18 : decode cX3_put 18 = .ok (.getfield 21, 3) := by decide +kernel
theorem dX3_put_21 : decode cX3_put 21 = .ok (.iload_n 1, 1) := by decide +kernel
theorem dX3_put_22 : decode cX3_put 22 = .ok (.bipush 57, 2) := by decide +kernel
theorem dX3_put_24 : decode cX3_put 24 = .ok (.imul, 1) := by decide +kernel
theorem dX3_put_25 : decode cX3_put 25 = .ok (.bipush 57, 2) := by decide +kernel
theorem dX3_put_27 : decode cX3_put 27 = .ok (.invokestatic 26, 3) := by decide +kernel
theorem dX3_put_30 : decode cX3_put 30 = .ok (.return_, 1) := by decide +kernel
theorem dX3_get_0 : decode cX3_get 0 = .ok (.iload_n 1, 1) := by decide +kernel
theorem dX3_get_1 : decode cX3_get 1 = .ok (.ifCond .lt 29, 3) := by decide +kernel
theorem dX3_get_4 : decode cX3_get 4 = .ok (.iload_n 1, 1) := by decide +kernel
theorem dX3_get_5 : decode cX3_get 5 = .ok (.aload_n 0, 1) := by decide +kernel
theorem dX3_get_6 : decode cX3_get 6 = .ok (.getfield 13, 3) := by decide +kernel
theorem dX3_get_9 : decode cX3_get 9 = .ok (.if_icmp .ge 21, 3) := by decide +kernel
theorem dX3_get_12 : decode cX3_get 12 = .ok (.aload_n 0, 1) := by decide +kernel
theorem dX3_get_13 : decode cX3_get 13 = .ok (.getfield 21, 3) := by decide +kernel
theorem dX3_get_16 : decode cX3_get 16 = .ok (.iload_n 1, 1) := by decide +kernel
theorem dX3_get_17 : decode cX3_get 17 = .ok (.bipush 57, 2) := by decide +kernel
theorem dX3_get_19 : decode cX3_get 19 = .ok (.imul, 1) := by decide +kernel
theorem dX3_get_20 : decode cX3_get 20 = .ok (.aload_n 2, 1) := by decide +kernel
theorem dX3_get_21 : decode cX3_get 21 = .ok (.getfield 25, 3) := by decide +kernel
theorem dX3_get_24 : decode cX3_get 24 = .ok (.iconst 0, 1) := by decide +kernel
theorem dX3_get_25 : decode cX3_get 25 = .ok (.bipush 57, 2) := by decide +kernel
theorem dX3_get_27 : decode cX3_get 27 = .ok (.invokestatic 26, 3) := by decide +kernel
theorem dX3_get_30 : decode cX3_get 30 = .ok (.return_, 1) := by decide +kernel
theorem dX4_init_0 : decode cX4_init 0 = .ok (.aload_n 0, 1) := by decide +kernel
theorem dX4_init_1 : decode cX4_init 1 = .ok (.invokespecial 3, 3) := by decide +kernel
theorem dX4_init_4 : decode cX4_init 4 = .ok (.aload_n 0, 1) := by decide +kernel
theorem dX4_init_5 : decode cX4_init 5 = .ok (.bipush 40, 2) := by decide +kernel
theorem dX4_init_7 : decode cX4_init 7 = .ok (.newarray .int, 2) := by decide +kernel
theorem dX4_init_9 : decode cX4_init 9 = .ok (.putfield 11, 3) := by decide +kernel
theorem dX4_init_12 : decode cX4_init 12 = .ok (.aload_n 0, 1) := by decide +kernel
theorem dX4_init_13 : decode cX4_init 13 = .ok (.iconst 0, 1) := by decide +kernel
theorem dX4_init_14 : decode cX4_init 14 = .ok (.putfield 15, 3) := by decide +kernel
theorem dX4_init_17 : decode cX4_init 17 = .ok (.return_, 1) := by decide +kernel
theorem dX4_append_0 : decode cX4_append 0 = .ok (.aload_n 0, 1) := by decide +kernel
theorem dX4_append_1 : decode cX4_append 1 = .ok (.getfield 15, 3) := by decide +kernel
theorem dX4_append_4 : decode cX4_append 4 = .ok (.bipush 40, 2) := by decide +kernel
theorem dX4_append_6 : decode cX4_append 6 = .ok (.if_icmp .lt 5, 3) := by decide +kernel
theorem dX4_append_9 : decode cX4_append 9 = .ok (.iconst 0, 1) := by decide +kernel
theorem dX4_append_10 : decode cX4_append 10 = .ok (.ireturn, 1) := by decide +kernel
theorem dX4_append_11 : decode cX4_append 11 = .ok (.aload_n 0, 1) := by decide +kernel
theorem dX4_append_12 : decode cX4_append 12 = .ok (.getfield 11, 3) := by decide +kernel
theorem dX4_append_15 : decode cX4_append 15 = .ok (.aload_n 0, 1) := by decide +kernel
theorem dX4_append_16 : decode cX4_append 16 = .ok (.getfield 15, 3) := by decide +kernel
theorem dX4_append_19 : decode cX4_append 19 = .ok (.iload_n 1, 1) := by decide +kernel
theorem dX4_append_20 : decode cX4_append 20 = .ok (.iastore, 1) := by decide +kernel
theorem dX4_append_21 : decode cX4_append 21 = .ok (.aload_n 0, 1) := by decide +kernel
theorem dX4_append_22 : decode cX4_append 22 = .ok (.dup, 1) := by decide +kernel
theorem dX4_append_23 : decode cX4_append 23 = .ok (.getfield 15, 3) := by decide +kernel
theorem dX4_append_26 : decode cX4_append 26 = .ok (.iconst 1, 1) := by decide +kernel
theorem dX4_append_27 : decode cX4_append 27 = .ok (.iadd, 1) := by decide +kernel
theorem dX4_append_28 : decode cX4_append 28 = .ok (.putfield 15, 3) := by decide +kernel
theorem dX4_append_31 : decode cX4_append 31 = .ok (.iconst 1, 1) := by decide +kernel
theorem dX4_append_32 : decode cX4_append 32 = .ok (.ireturn, 1) := by decide +kernel
theorem dX4_firstFault_0 : decode cX4_firstFault 0 = .ok (.iconst 0, 1) := by decide +kernel
theorem dX4_firstFault_1 : decode cX4_firstFault 1 = .ok (.istore_n 1, 1) := by decide +kernel
theorem dX4_firstFault_2 : decode cX4_firstFault 2 = .ok (.iconst 0, 1) := by decide +kernel
theorem dX4_firstFault_3 : decode cX4_firstFault 3 = .ok (.istore_n 2, 1) := by decide +kernel
theorem dX4_firstFault_4 : decode cX4_firstFault 4 = .ok (.iload_n 2, 1) := by decide +kernel
theorem dX4_firstFault_5 : decode cX4_firstFault 5 = .ok (.aload_n 0, 1) := by decide +kernel
theorem dX4_firstFault_6 : decode cX4_firstFault 6 = .ok (.getfield 15, 3) := by decide +kernel
theorem dX4_firstFault_9 : decode cX4_firstFault 9 = .ok (.if_icmp .ge 43, 3) := by decide +kernel
theorem dX4_firstFault_12 : decode cX4_firstFault 12 = .ok (.aload_n 0, 1) := by decide +kernel
theorem dX4_firstFault_13 : decode cX4_firstFault 13 = .ok (.iload_n 2, 1) := by decide +kernel
theorem dX4_firstFault_14 : decode cX4_firstFault 14 = .ok (.iload_n 1, 1) := by decide +kernel
theorem dX4_firstFault_15 : decode cX4_firstFault 15 = .ok (.invokevirtual 19, 3) := by decide +kernel
theorem dX4_firstFault_18 : decode cX4_firstFault 18 = .ok (.ifCond .ne 5, 3) := by decide +kernel
theorem dX4_firstFault_21 : decode cX4_firstFault 21 = .ok (.iload_n 2, 1) := by decide +kernel
theorem dX4_firstFault_22 : decode cX4_firstFault 22 = .ok (.ireturn, 1) := by decide +kernel
theorem dX4_firstFault_23 : decode cX4_firstFault 23 = .ok (.iload_n 2, 1) := by decide +kernel
theorem dX4_firstFault_24 : decode cX4_firstFault 24 = .ok (.bipush 6, 2) := by decide +kernel
theorem dX4_firstFault_26 : decode cX4_firstFault 26 = .ok (.if_icmp .lt 20, 3) := by decide +kernel
theorem dX4_firstFault_29 : decode cX4_firstFault 29 = .ok (.iload_n 2, 1) := by decide +kernel
theorem dX4_firstFault_30 : decode cX4_firstFault 30 = .ok (.iconst 3, 1) := by decide +kernel
theorem dX4_firstFault_31 : decode cX4_firstFault 31 = .ok (.irem, 1) := by decide +kernel
theorem dX4_firstFault_32 : decode cX4_firstFault 32 = .ok (.iconst 2, 1) := by decide +kernel
theorem dX4_firstFault_33 : decode cX4_firstFault 33 = .ok (.if_icmp .ne 13, 3) := by decide +kernel
theorem dX4_firstFault_36 : decode cX4_firstFault 36 = .ok (.iload_n 1, 1) := by decide +kernel
theorem dX4_firstFault_37 : decode cX4_firstFault 37 = .ok (.iconst 1, 1) := by decide +kernel
theorem dX4_firstFault_38 : decode cX4_firstFault 38 = .ok (.aload_n 0, 1) := by decide +kernel
theorem dX4_firstFault_39 : decode cX4_firstFault 39 = .ok (.iload_n 2, 1) := by decide +kernel
theorem dX4_firstFault_40 : decode cX4_firstFault 40 = .ok (.invokevirtual 23, 3) := by decide +kernel
theorem dX4_firstFault_43 : decode cX4_firstFault 43 = .ok (.ishl, 1) := by decide +kernel
theorem dX4_firstFault_44 : decode cX4_firstFault 44 = .ok (.ior, 1) := by decide +kernel
theorem dX4_firstFault_45 : decode cX4_firstFault 45 = .ok (.istore_n 1, 1) := by decide +kernel
theorem dX4_firstFault_46 : decode cX4_firstFault 46 = .ok (.iinc 2 1, 3) := by decide +kernel
theorem dX4_firstFault_49 : decode cX4_firstFault 49 = .ok (.goto (-45), 3) := by decide +kernel
theorem dX4_firstFault_52 : decode cX4_firstFault 52 = .ok (.aload_n 0, 1) := by decide +kernel
theorem dX4_firstFault_53 : decode cX4_firstFault 53 = .ok (.getfield 15, 3) := by decide +kernel
theorem dX4_firstFault_56 : decode cX4_firstFault 56 = .ok (.bipush 6, 2) := by decide +kernel
theorem dX4_firstFault_58 : decode cX4_firstFault 58 = .ok (.if_icmp .lt 17, 3) := by decide +kernel
theorem dX4_firstFault_61 : decode cX4_firstFault 61 = .ok (.aload_n 0, 1) := by decide +kernel
theorem dX4_firstFault_62 : decode cX4_firstFault 62 = .ok (.getfield 15, 3) := by decide +kernel
theorem dX4_firstFault_65 : decode cX4_firstFault 65 = .ok (.iconst 3, 1) := by decide +kernel
theorem dX4_firstFault_66 : decode cX4_firstFault 66 = .ok (.irem, 1) := by decide +kernel
theorem dX4_firstFault_67 : decode cX4_firstFault 67 = .ok (.ifCond .ne 8, 3) := by decide +kernel
theorem dX4_firstFault_70 : decode cX4_firstFault 70 = .ok (.bipush (-9), 2) := by decide +kernel
theorem dX4_firstFault_72 : decode cX4_firstFault 72 = .ok (.goto 7, 3) := by decide +kernel
theorem dX4_firstFault_75 : decode cX4_firstFault 75 = .ok (.aload_n 0, 1) := by decide +kernel
theorem dX4_firstFault_76 : decode cX4_firstFault 76 = .ok (.getfield 15, 3) := by decide +kernel
theorem dX4_firstFault_79 : decode cX4_firstFault 79 = .ok (.ireturn, 1) := by decide +kernel
theorem dX4_layOut_0 : decode cX4_layOut 0 = .ok (.aload_n 1, 1) := by decide +kernel
theorem dX4_layOut_1 : decode cX4_layOut 1 = .ok (.aload_n 0, 1) := by decide +kernel
theorem dX4_layOut_2 : decode cX4_layOut 2 = .ok (.iconst 1, 1) := by decide +kernel
theorem dX4_layOut_3 : decode cX4_layOut 3 = .ok (.invokevirtual 27, 3) := by decide +kernel
theorem dX4_layOut_6 : decode cX4_layOut 6 = .ok (.aload_n 0, 1) := by decide +kernel
theorem dX4_layOut_7 : decode cX4_layOut 7 = .ok (.iconst 2, 1) := by decide +kernel
theorem dX4_layOut_8 : decode cX4_layOut 8 = .ok (.invokevirtual 27, 3) := by decide +kernel
theorem dX4_layOut_11 : decode cX4_layOut 11 = .ok (.aload_n 0, 1) := by decide +kernel
theorem dX4_layOut_12 : decode cX4_layOut 12 = .ok (.iconst 3, 1) := by decide +kernel
theorem dX4_layOut_13 : decode cX4_layOut 13 = .ok (.invokevirtual 27, 3) := by decide +kernel
theorem dX4_layOut_16 : decode cX4_layOut 16 = .ok (.invokevirtual 30, 3) := by decide +kernel
theorem dX4_layOut_19 : decode cX4_layOut 19 = .ok (.aload_n 1, 1) := by decide +kernel
theorem dX4_layOut_20 : decode cX4_layOut 20 = .ok (.getfield 36, 3) := by decide +kernel
theorem dX4_layOut_23 : decode cX4_layOut 23 = .ok (.bipush 51, 2) := by decide +kernel
theorem dX4_layOut_25 : decode cX4_layOut 25 = .ok (.aload_n 0, 1) := by decide +kernel
theorem dX4_layOut_26 : decode cX4_layOut 26 = .ok (.iconst 4, 1) := by decide +kernel
theorem dX4_layOut_27 : decode cX4_layOut 27 = .ok (.invokevirtual 27, 3) := by decide +kernel
theorem dX4_layOut_30 : decode cX4_layOut 30 = .ok (.iastore, 1) := by decide +kernel
theorem dX4_layOut_31 : decode cX4_layOut 31 = .ok (.aload_n 1, 1) := by decide +kernel
theorem dX4_layOut_32 : decode cX4_layOut 32 = .ok (.getfield 36, 3) := by decide +kernel
theorem dX4_layOut_35 : decode cX4_layOut 35 = .ok (.bipush 52, 2) := by decide +kernel
theorem dX4_layOut_37 : decode cX4_layOut 37 = .ok (.aload_n 0, 1) := by decide +kernel
theorem dX4_layOut_38 : decode cX4_layOut 38 = .ok (.iconst 5, 1) := by decide +kernel
theorem dX4_layOut_39 : decode cX4_layOut 39 = .ok (.invokevirtual 27, 3) := by decide +kernel
theorem dX4_layOut_42 : decode cX4_layOut 42 = .ok (.iastore, 1) := by decide +kernel
theorem dX4_layOut_43 : decode cX4_layOut 43 = .ok (.bipush 8, 2) := by decide +kernel
theorem dX4_layOut_45 : decode cX4_layOut 45 = .ok (.istore_n 2, 1) := by decide +kernel
theorem dX4_layOut_46 : decode cX4_layOut 46 = .ok (.iload_n 2, 1) := by decide +kernel
theorem dX4_layOut_47 : decode cX4_layOut 47 = .ok (.aload_n 0, 1) := by decide +kernel
theorem dX4_layOut_48 : decode cX4_layOut 48 = .ok (.getfield 15, 3) := by decide +kernel
theorem dX4_layOut_51 : decode cX4_layOut 51 = .ok (.if_icmp .ge 29, 3) := by decide +kernel
theorem dX4_layOut_54 : decode cX4_layOut 54 = .ok (.aload_n 0, 1) := by decide +kernel
theorem dX4_layOut_55 : decode cX4_layOut 55 = .ok (.iload_n 2, 1) := by decide +kernel
theorem dX4_layOut_56 : decode cX4_layOut 56 = .ok (.invokevirtual 23, 3) := by decide +kernel
theorem dX4_layOut_59 : decode cX4_layOut 59 = .ok (.istore_n 3, 1) := by decide +kernel
theorem dX4_layOut_60 : decode cX4_layOut 60 = .ok (.aload_n 1, 1) := by decide +kernel
theorem dX4_layOut_61 : decode cX4_layOut 61 = .ok (.iload_n 3, 1) := by decide +kernel
theorem dX4_layOut_62 : decode cX4_layOut 62 = .ok (.invokevirtual 39, 3) := by decide +kernel
theorem dX4_layOut_65 : decode cX4_layOut 65 = .ok (.ifCond .eq 9, 3) := by decide +kernel
theorem dX4_layOut_68 : decode cX4_layOut 68 = .ok (.aload_n 1, 1) := by decide +kernel
theorem dX4_layOut_69 : decode cX4_layOut 69 = .ok (.iload_n 3, 1) := by decide +kernel
theorem dX4_layOut_70 : decode cX4_layOut 70 = .ok (.invokevirtual 43, 3) := by decide +kernel
theorem dX4_layOut_73 : decode cX4_layOut 73 = .ok (.pop, 1) := by decide +kernel
theorem dX4_layOut_74 : decode cX4_layOut 74 = .ok (.iinc 2 3, 3) := by decide +kernel
theorem dX4_layOut_77 : decode cX4_layOut 77 = .ok (.goto (-31), 3) := by decide +kernel
theorem dX4_layOut_80 : decode cX4_layOut 80 = .ok (.return_, 1) := by decide +kernel
theorem dX4_figure_0 : decode cX4_figure 0 = .ok (.aload_n 0, 1) := by decide +kernel
theorem dX4_figure_1 : decode cX4_figure 1 = .ok (.getfield 11, 3) := by decide +kernel
theorem dX4_figure_4 : decode cX4_figure 4 = .ok (.iload_n 1, 1) := by decide +kernel
theorem dX4_figure_5 : decode cX4_figure 5 = .ok (.iaload, 1) := by decide +kernel
theorem dX4_figure_6 : decode cX4_figure 6 = .ok (.bipush 48, 2) := by decide +kernel
theorem dX4_figure_8 : decode cX4_figure 8 = .ok (.isub, 1) := by decide +kernel
theorem dX4_figure_9 : decode cX4_figure 9 = .ok (.ireturn, 1) := by decide +kernel
theorem dX4_zoneEndingAt_0 : decode cX4_zoneEndingAt 0 = .ok (.aload_n 0, 1) := by decide +kernel
theorem dX4_zoneEndingAt_1 : decode cX4_zoneEndingAt 1 = .ok (.iload_n 1, 1) := by decide +kernel
theorem dX4_zoneEndingAt_2 : decode cX4_zoneEndingAt 2 = .ok (.iconst 1, 1) := by decide +kernel
theorem dX4_zoneEndingAt_3 : decode cX4_zoneEndingAt 3 = .ok (.isub, 1) := by decide +kernel
theorem dX4_zoneEndingAt_4 : decode cX4_zoneEndingAt 4 = .ok (.invokevirtual 27, 3) := by decide +kernel
theorem dX4_zoneEndingAt_7 : decode cX4_zoneEndingAt 7 = .ok (.bipush 10, 2) := by decide +kernel
theorem dX4_zoneEndingAt_9 : decode cX4_zoneEndingAt 9 = .ok (.imul, 1) := by decide +kernel
theorem dX4_zoneEndingAt_10 : decode cX4_zoneEndingAt 10 = .ok (.aload_n 0, 1) := by decide +kernel
theorem dX4_zoneEndingAt_11 : decode cX4_zoneEndingAt 11 = .ok (.iload_n 1, 1) := by decide +kernel
theorem dX4_zoneEndingAt_12 : decode cX4_zoneEndingAt 12 = .ok (.invokevirtual 27, 3) := by decide +kernel
theorem dX4_zoneEndingAt_15 : decode cX4_zoneEndingAt 15 = .ok (.iadd, 1) := by decide +kernel
theorem dX4_zoneEndingAt_16 : decode cX4_zoneEndingAt 16 = .ok (.ireturn, 1) := by decide +kernel
theorem dX4_fits_0 : decode cX4_fits 0 = .ok (.iload_n 1, 1) := by decide +kernel
theorem dX4_fits_1 : decode cX4_fits 1 = .ok (.tableswitch 104 0 5 #[39, 56, 65, 73, 87, 95], 39) := by decide +kernel
theorem dX4_fits_40 : decode cX4_fits 40 = .ok (.aload_n 0, 1) := by decide +kernel
theorem dX4_fits_41 : decode cX4_fits 41 = .ok (.getfield 11, 3) := by decide +kernel
theorem dX4_fits_44 : decode cX4_fits 44 = .ok (.iload_n 1, 1) := by decide +kernel
theorem dX4_fits_45 : decode cX4_fits 45 = .ok (.iaload, 1) := by decide +kernel
theorem dX4_fits_46 : decode cX4_fits 46 = .ok (.bipush 90, 2) := by decide +kernel
theorem dX4_fits_48 : decode cX4_fits 48 = .ok (.if_icmp .ne 7, 3) := by decide +kernel
theorem dX4_fits_51 : decode cX4_fits 51 = .ok (.iconst 1, 1) := by decide +kernel
theorem dX4_fits_52 : decode cX4_fits 52 = .ok (.goto 4, 3) := by decide +kernel
theorem dX4_fits_55 : decode cX4_fits 55 = .ok (.iconst 0, 1) := by decide +kernel
theorem dX4_fits_56 : decode cX4_fits 56 = .ok (.ireturn, 1) := by decide +kernel
theorem dX4_fits_57 : decode cX4_fits 57 = .ok (.aload_n 0, 1) := by decide +kernel
theorem dX4_fits_58 : decode cX4_fits 58 = .ok (.iload_n 1, 1) := by decide +kernel
theorem dX4_fits_59 : decode cX4_fits 59 = .ok (.iconst 2, 1) := by decide +kernel
theorem dX4_fits_60 : decode cX4_fits 60 = .ok (.bipush 8, 2) := by decide +kernel
theorem dX4_fits_62 : decode cX4_fits 62 = .ok (.invokevirtual 46, 3) := by decide +kernel
theorem dX4_fits_65 : decode cX4_fits 65 = .ok (.ireturn, 1) := by decide +kernel
theorem dX4_fits_66 : decode cX4_fits 66 = .ok (.aload_n 0, 1) := by decide +kernel
theorem dX4_fits_67 : decode cX4_fits 67 = .ok (.iload_n 1, 1) := by decide +kernel
theorem dX4_fits_68 : decode cX4_fits 68 = .ok (.iconst 0, 1) := by decide +kernel
theorem dX4_fits_69 : decode cX4_fits 69 = .ok (.iconst 4, 1) := by decide +kernel
theorem dX4_fits_70 : decode cX4_fits 70 = .ok (.invokevirtual 46, 3) := by decide +kernel
theorem dX4_fits_73 : decode cX4_fits 73 = .ok (.ireturn, 1) := by decide +kernel
theorem dX4_fits_74 : decode cX4_fits 74 = .ok (.aload_n 0, 1) := by decide +kernel
theorem dX4_fits_75 : decode cX4_fits 75 = .ok (.iload_n 1, 1) := by decide +kernel
theorem dX4_fits_76 : decode cX4_fits 76 = .ok (.iconst 1, 1) := by decide +kernel
theorem dX4_fits_77 : decode cX4_fits 77 = .ok (.aload_n 0, 1) := by decide +kernel
theorem dX4_fits_78 : decode cX4_fits 78 = .ok (.iconst 1, 1) := by decide +kernel
theorem dX4_fits_79 : decode cX4_fits 79 = .ok (.invokevirtual 27, 3) := by decide +kernel
theorem dX4_fits_82 : decode cX4_fits 82 = .ok (.iconst 1, 1) := by decide +kernel
theorem dX4_fits_83 : decode cX4_fits 83 = .ok (.isub, 1) := by decide +kernel
theorem dX4_fits_84 : decode cX4_fits 84 = .ok (.invokevirtual 46, 3) := by decide +kernel
theorem dX4_fits_87 : decode cX4_fits 87 = .ok (.ireturn, 1) := by decide +kernel
theorem dX4_fits_88 : decode cX4_fits 88 = .ok (.aload_n 0, 1) := by decide +kernel
theorem dX4_fits_89 : decode cX4_fits 89 = .ok (.iload_n 1, 1) := by decide +kernel
theorem dX4_fits_90 : decode cX4_fits 90 = .ok (.iconst 0, 1) := by decide +kernel
theorem dX4_fits_91 : decode cX4_fits 91 = .ok (.iconst 1, 1) := by decide +kernel
theorem dX4_fits_92 : decode cX4_fits 92 = .ok (.invokevirtual 46, 3) := by decide +kernel
theorem dX4_fits_95 : decode cX4_fits 95 = .ok (.ireturn, 1) := by decide +kernel
theorem dX4_fits_96 : decode cX4_fits 96 = .ok (.aload_n 0, 1) := by decide +kernel
theorem dX4_fits_97 : decode cX4_fits 97 = .ok (.iload_n 1, 1) := by decide +kernel
theorem dX4_fits_98 : decode cX4_fits 98 = .ok (.iconst 0, 1) := by decide +kernel
theorem dX4_fits_99 : decode cX4_fits 99 = .ok (.bipush 9, 2) := by decide +kernel
theorem dX4_fits_101 : decode cX4_fits 101 = .ok (.invokevirtual 46, 3) := by decide +kernel
theorem dX4_fits_104 : decode cX4_fits 104 = .ok (.ireturn, 1) := by decide +kernel
theorem dX4_fits_105 : decode cX4_fits 105 = .ok (.aload_n 0, 1) := by decide +kernel
theorem dX4_fits_106 : decode cX4_fits 106 = .ok (.iload_n 1, 1) := by decide +kernel
theorem dX4_fits_107 : decode cX4_fits 107 = .ok (.iload_n 2, 1) := by decide +kernel
theorem dX4_fits_108 : decode cX4_fits 108 = .ok (.iconst (-1), 1) := by decide +kernel
theorem dX4_fits_109 : decode cX4_fits 109 = .ok (.ixor, 1) := by decide +kernel
theorem dX4_fits_110 : decode cX4_fits 110 = .ok (.iconst 1, 1) := by decide +kernel
theorem dX4_fits_111 : decode cX4_fits 111 = .ok (.aload_n 0, 1) := by decide +kernel
theorem dX4_fits_112 : decode cX4_fits 112 = .ok (.iconst 1, 1) := by decide +kernel
theorem dX4_fits_113 : decode cX4_fits 113 = .ok (.invokevirtual 27, 3) := by decide +kernel
theorem dX4_fits_116 : decode cX4_fits 116 = .ok (.aload_n 0, 1) := by decide +kernel
theorem dX4_fits_117 : decode cX4_fits 117 = .ok (.iconst 2, 1) := by decide +kernel
theorem dX4_fits_118 : decode cX4_fits 118 = .ok (.invokevirtual 27, 3) := by decide +kernel
theorem dX4_fits_121 : decode cX4_fits 121 = .ok (.iadd, 1) := by decide +kernel
theorem dX4_fits_122 : decode cX4_fits 122 = .ok (.ishl, 1) := by decide +kernel
theorem dX4_fits_123 : decode cX4_fits 123 = .ok (.iconst 1, 1) := by decide +kernel
theorem dX4_fits_124 : decode cX4_fits 124 = .ok (.isub, 1) := by decide +kernel
theorem dX4_fits_125 : decode cX4_fits 125 = .ok (.iand, 1) := by decide +kernel
theorem dX4_fits_126 : decode cX4_fits 126 = .ok (.invokevirtual 50, 3) := by decide +kernel
theorem dX4_fits_129 : decode cX4_fits 129 = .ok (.ireturn, 1) := by decide +kernel
theorem dX4_isFigure_0 : decode cX4_isFigure 0 = .ok (.aload_n 0, 1) := by decide +kernel
theorem dX4_isFigure_1 : decode cX4_isFigure 1 = .ok (.iload_n 1, 1) := by decide +kernel
theorem dX4_isFigure_2 : decode cX4_isFigure 2 = .ok (.invokevirtual 27, 3) := by decide +kernel
theorem dX4_isFigure_5 : decode cX4_isFigure 5 = .ok (.iload_n 2, 1) := by decide +kernel
theorem dX4_isFigure_6 : decode cX4_isFigure 6 = .ok (.if_icmp .lt 16, 3) := by decide +kernel
theorem dX4_isFigure_9 : decode cX4_isFigure 9 = .ok (.aload_n 0, 1) := by decide +kernel
theorem dX4_isFigure_10 : decode cX4_isFigure 10 = .ok (.iload_n 1, 1) := by decide +kernel
theorem dX4_isFigure_11 : decode cX4_isFigure 11 = .ok (.invokevirtual 27, 3) := by decide +kernel
theorem dX4_isFigure_14 : decode cX4_isFigure 14 = .ok (.iload_n 3, 1) := by decide +kernel
theorem dX4_isFigure_15 : decode cX4_isFigure 15 = .ok (.if_icmp .gt 7, 3) := by decide +kernel
theorem dX4_isFigure_18 : decode cX4_isFigure 18 = .ok (.iconst 1, 1) := by decide +kernel
theorem dX4_isFigure_19 : decode cX4_isFigure 19 = .ok (.goto 4, 3) := by decide +kernel
theorem dX4_isFigure_22 : decode cX4_isFigure 22 = .ok (.iconst 0, 1) := by decide +kernel
theorem dX4_isFigure_23 : decode cX4_isFigure 23 = .ok (.ireturn, 1) := by decide +kernel
theorem dX4_fitsCarton_0 : decode cX4_fitsCarton 0 = .ok (.iload_n 1, 1) := by decide +kernel
theorem dX4_fitsCarton_1 : decode cX4_fitsCarton 1 = .ok (.iconst 3, 1) := by decide +kernel
theorem dX4_fitsCarton_2 : decode cX4_fitsCarton 2 = .ok (.irem, 1) := by decide +kernel
theorem dX4_fitsCarton_3 : decode cX4_fitsCarton 3 = .ok (.lookupswitch 79 #[(0, 25), (1, 46)], 25) := by decide +kernel
theorem dX4_fitsCarton_28 : decode cX4_fitsCarton 28 = .ok (.aload_n 0, 1) := by decide +kernel
theorem dX4_fitsCarton_29 : decode cX4_fitsCarton 29 = .ok (.getfield 11, 3) := by decide +kernel
theorem dX4_fitsCarton_32 : decode cX4_fitsCarton 32 = .ok (.iload_n 1, 1) := by decide +kernel
theorem dX4_fitsCarton_33 : decode cX4_fitsCarton 33 = .ok (.iaload, 1) := by decide +kernel
theorem dX4_fitsCarton_34 : decode cX4_fitsCarton 34 = .ok (.bipush 99, 2) := by decide +kernel
theorem dX4_fitsCarton_36 : decode cX4_fitsCarton 36 = .ok (.if_icmp .ne 11, 3) := by decide +kernel
theorem dX4_fitsCarton_39 : decode cX4_fitsCarton 39 = .ok (.iload_n 2, 1) := by decide +kernel
theorem dX4_fitsCarton_40 : decode cX4_fitsCarton 40 = .ok (.ifCond .eq 7, 3) := by decide +kernel
theorem dX4_fitsCarton_43 : decode cX4_fitsCarton 43 = .ok (.iconst 1, 1) := by decide +kernel
theorem dX4_fitsCarton_44 : decode cX4_fitsCarton 44 = .ok (.goto 4, 3) := by decide +kernel
theorem dX4_fitsCarton_47 : decode cX4_fitsCarton 47 = .ok (.iconst 0, 1) := by decide +kernel
theorem dX4_fitsCarton_48 : decode cX4_fitsCarton 48 = .ok (.ireturn, 1) := by decide +kernel
theorem dX4_fitsCarton_49 : decode cX4_fitsCarton 49 = .ok (.aload_n 0, 1) := by decide +kernel
theorem dX4_fitsCarton_50 : decode cX4_fitsCarton 50 = .ok (.iload_n 1, 1) := by decide +kernel
theorem dX4_fitsCarton_51 : decode cX4_fitsCarton 51 = .ok (.iconst 0, 1) := by decide +kernel
theorem dX4_fitsCarton_52 : decode cX4_fitsCarton 52 = .ok (.iconst 1, 1) := by decide +kernel
theorem dX4_fitsCarton_53 : decode cX4_fitsCarton 53 = .ok (.invokevirtual 46, 3) := by decide +kernel
theorem dX4_fitsCarton_56 : decode cX4_fitsCarton 56 = .ok (.ifCond .eq 24, 3) := by decide +kernel
theorem dX4_fitsCarton_59 : decode cX4_fitsCarton 59 = .ok (.iload_n 2, 1) := by decide +kernel
theorem dX4_fitsCarton_60 : decode cX4_fitsCarton 60 = .ok (.aload_n 0, 1) := by decide +kernel
theorem dX4_fitsCarton_61 : decode cX4_fitsCarton 61 = .ok (.iload_n 1, 1) := by decide +kernel
theorem dX4_fitsCarton_62 : decode cX4_fitsCarton 62 = .ok (.invokevirtual 27, 3) := by decide +kernel
theorem dX4_fitsCarton_65 : decode cX4_fitsCarton 65 = .ok (.bipush 10, 2) := by decide +kernel
theorem dX4_fitsCarton_67 : decode cX4_fitsCarton 67 = .ok (.imul, 1) := by decide +kernel
theorem dX4_fitsCarton_68 : decode cX4_fitsCarton 68 = .ok (.ishr, 1) := by decide +kernel
theorem dX4_fitsCarton_69 : decode cX4_fitsCarton 69 = .ok (.sipush 1023, 3) := by decide +kernel
theorem dX4_fitsCarton_72 : decode cX4_fitsCarton 72 = .ok (.iand, 1) := by decide +kernel
theorem dX4_fitsCarton_73 : decode cX4_fitsCarton 73 = .ok (.ifCond .eq 7, 3) := by decide +kernel
theorem dX4_fitsCarton_76 : decode cX4_fitsCarton 76 = .ok (.iconst 1, 1) := by decide +kernel
theorem dX4_fitsCarton_77 : decode cX4_fitsCarton 77 = .ok (.goto 4, 3) := by decide +kernel
theorem dX4_fitsCarton_80 : decode cX4_fitsCarton 80 = .ok (.iconst 0, 1) := by decide +kernel
theorem dX4_fitsCarton_81 : decode cX4_fitsCarton 81 = .ok (.ireturn, 1) := by decide +kernel
theorem dX4_fitsCarton_82 : decode cX4_fitsCarton 82 = .ok (.aload_n 0, 1) := by decide +kernel
theorem dX4_fitsCarton_83 : decode cX4_fitsCarton 83 = .ok (.iload_n 1, 1) := by decide +kernel
theorem dX4_fitsCarton_84 : decode cX4_fitsCarton 84 = .ok (.iconst 0, 1) := by decide +kernel
theorem dX4_fitsCarton_85 : decode cX4_fitsCarton 85 = .ok (.bipush 9, 2) := by decide +kernel
theorem dX4_fitsCarton_87 : decode cX4_fitsCarton 87 = .ok (.invokevirtual 46, 3) := by decide +kernel
theorem dX4_fitsCarton_90 : decode cX4_fitsCarton 90 = .ok (.ifCond .eq 19, 3) := by decide +kernel
theorem dX4_fitsCarton_93 : decode cX4_fitsCarton 93 = .ok (.iload_n 2, 1) := by decide +kernel
theorem dX4_fitsCarton_94 : decode cX4_fitsCarton 94 = .ok (.aload_n 0, 1) := by decide +kernel
theorem dX4_fitsCarton_95 : decode cX4_fitsCarton 95 = .ok (.iload_n 1, 1) := by decide +kernel
theorem dX4_fitsCarton_96 : decode cX4_fitsCarton 96 = .ok (.invokevirtual 23, 3) := by decide +kernel
theorem dX4_fitsCarton_99 : decode cX4_fitsCarton 99 = .ok (.invokestatic 53, 3) := by decide +kernel
theorem dX4_fitsCarton_102 : decode cX4_fitsCarton 102 = .ok (.ifCond .eq 7, 3) := by decide +kernel
theorem dX4_fitsCarton_105 : decode cX4_fitsCarton 105 = .ok (.iconst 1, 1) := by decide +kernel
theorem dX4_fitsCarton_106 : decode cX4_fitsCarton 106 = .ok (.goto 4, 3) := by decide +kernel
theorem dX4_fitsCarton_109 : decode cX4_fitsCarton 109 = .ok (.iconst 0, 1) := by decide +kernel
theorem dX4_fitsCarton_110 : decode cX4_fitsCarton 110 = .ok (.ireturn, 1) := by decide +kernel
theorem dX5_init_0 : decode cX5_init 0 = .ok (.aload_n 0, 1) := by decide +kernel
theorem dX5_init_1 : decode cX5_init 1 = .ok (.invokespecial 1, 3) := by decide +kernel
theorem dX5_init_4 : decode cX5_init 4 = .ok (.aload_n 0, 1) := by decide +kernel
theorem dX5_init_5 : decode cX5_init 5 = .ok (.new 7, 3) := by decide +kernel
theorem dX5_init_8 : decode cX5_init 8 = .ok (.dup, 1) := by decide +kernel
theorem dX5_init_9 : decode cX5_init 9 = .ok (.invokespecial 9, 3) := by decide +kernel
theorem dX5_init_12 : decode cX5_init 12 = .ok (.putfield 10, 3) := by decide +kernel
theorem dX5_init_15 : decode cX5_init 15 = .ok (.aload_n 0, 1) := by decide +kernel
theorem dX5_init_16 : decode cX5_init 16 = .ok (.new 16, 3) := by decide +kernel
theorem dX5_init_19 : decode cX5_init 19 = .ok (.dup, 1) := by decide +kernel
theorem dX5_init_20 : decode cX5_init 20 = .ok (.invokespecial 18, 3) := by decide +kernel
theorem dX5_init_23 : decode cX5_init 23 = .ok (.putfield 19, 3) := by decide +kernel
theorem dX5_init_26 : decode cX5_init 26 = .ok (.aload_n 0, 1) := by decide +kernel
theorem dX5_init_27 : decode cX5_init 27 = .ok (.new 16, 3) := by decide +kernel
theorem dX5_init_30 : decode cX5_init 30 = .ok (.dup, 1) := by decide +kernel
theorem dX5_init_31 : decode cX5_init 31 = .ok (.invokespecial 18, 3) := by decide +kernel
theorem dX5_init_34 : decode cX5_init 34 = .ok (.putfield 23, 3) := by decide +kernel
theorem dX5_init_37 : decode cX5_init 37 = .ok (.aload_n 0, 1) := by decide +kernel
theorem dX5_init_38 : decode cX5_init 38 = .ok (.new 26, 3) := by decide +kernel
theorem dX5_init_41 : decode cX5_init 41 = .ok (.dup, 1) := by decide +kernel
theorem dX5_init_42 : decode cX5_init 42 = .ok (.invokespecial 28, 3) := by decide +kernel
theorem dX5_init_45 : decode cX5_init 45 = .ok (.putfield 29, 3) := by decide +kernel
theorem dX5_init_48 : decode cX5_init 48 = .ok (.aload_n 0, 1) := by decide +kernel
theorem dX5_init_49 : decode cX5_init 49 = .ok (.new 33, 3) := by decide +kernel
theorem dX5_init_52 : decode cX5_init 52 = .ok (.dup, 1) := by decide +kernel
theorem dX5_init_53 : decode cX5_init 53 = .ok (.iconst 2, 1) := by decide +kernel
theorem dX5_init_54 : decode cX5_init 54 = .ok (.invokespecial 35, 3) := by decide +kernel
theorem dX5_init_57 : decode cX5_init 57 = .ok (.putfield 38, 3) := by decide +kernel
theorem dX5_init_60 : decode cX5_init 60 = .ok (.aload_n 0, 1) := by decide +kernel
theorem dX5_init_61 : decode cX5_init 61 = .ok (.iconst 0, 1) := by decide +kernel
theorem dX5_init_62 : decode cX5_init 62 = .ok (.putfield 42, 3) := by decide +kernel
theorem dX5_init_65 : decode cX5_init 65 = .ok (.aload_n 0, 1) := by decide +kernel
theorem dX5_init_66 : decode cX5_init 66 = .ok (.new 33, 3) := by decide +kernel
theorem dX5_init_69 : decode cX5_init 69 = .ok (.dup, 1) := by decide +kernel
theorem dX5_init_70 : decode cX5_init 70 = .ok (.bipush 9, 2) := by decide +kernel
theorem dX5_init_72 : decode cX5_init 72 = .ok (.invokespecial 35, 3) := by decide +kernel
theorem dX5_init_75 : decode cX5_init 75 = .ok (.putfield 46, 3) := by decide +kernel
theorem dX5_init_78 : decode cX5_init 78 = .ok (.aload_n 0, 1) := by decide +kernel
theorem dX5_init_79 : decode cX5_init 79 = .ok (.new 49, 3) := by decide +kernel
theorem dX5_init_82 : decode cX5_init 82 = .ok (.dup, 1) := by decide +kernel
theorem dX5_init_83 : decode cX5_init 83 = .ok (.invokespecial 51, 3) := by decide +kernel
theorem dX5_init_86 : decode cX5_init 86 = .ok (.putfield 52, 3) := by decide +kernel
theorem dX5_init_89 : decode cX5_init 89 = .ok (.aload_n 0, 1) := by decide +kernel
theorem dX5_init_90 : decode cX5_init 90 = .ok (.iconst 4, 1) := by decide +kernel
theorem dX5_init_91 : decode cX5_init 91 = .ok (.newarray .int, 2) := by decide +kernel
theorem dX5_init_93 : decode cX5_init 93 = .ok (.putfield 56, 3) := by decide +kernel
theorem dX5_init_96 : decode cX5_init 96 = .ok (.aload_n 0, 1) := by decide +kernel
theorem dX5_init_97 : decode cX5_init 97 = .ok (.bipush 6, 2) := by decide +kernel
theorem dX5_init_99 : decode cX5_init 99 = .ok (.newarray .int, 2) := by decide +kernel
theorem dX5_init_101 : decode cX5_init 101 = .ok (.putfield 60, 3) := by decide +kernel
theorem dX5_init_104 : decode cX5_init 104 = .ok (.aload_n 0, 1) := by decide +kernel
theorem dX5_init_105 : decode cX5_init 105 = .ok (.bipush 64, 2) := by decide +kernel
theorem dX5_init_107 : decode cX5_init 107 = .ok (.newarray .int, 2) := by decide +kernel
theorem dX5_init_109 : decode cX5_init 109 = .ok (.putfield 63, 3) := by decide +kernel
theorem dX5_init_112 : decode cX5_init 112 = .ok (.aload_n 0, 1) := by decide +kernel
theorem dX5_init_113 : decode cX5_init 113 = .ok (.lconst 0, 1) := by decide +kernel
theorem dX5_init_114 : decode cX5_init 114 = .ok (.putfield 66, 3) := by decide +kernel
theorem dX5_init_117 : decode cX5_init 117 = .ok (.return_, 1) := by decide +kernel
theorem dX5_write_0 : decode cX5_write 0 = .ok (.iload_n 1, 1) := by decide +kernel
theorem dX5_write_1 : decode cX5_write 1 = .ok (.ifCond .lt 10, 3) := by decide +kernel
theorem dX5_write_4 : decode cX5_write 4 = .ok (.iload_n 1, 1) := by decide +kernel
theorem dX5_write_5 : decode cX5_write 5 = .ok (.sipush 255, 3) := by decide +kernel
theorem dX5_write_8 : decode cX5_write 8 = .ok (.if_icmp .le 6, 3) := by decide +kernel
theorem dX5_write_11 : decode cX5_write 11 = .ok (.bipush (-2), 2) := by decide +kernel
theorem dX5_write_13 : decode cX5_write 13 = .ok (.ireturn, 1) := by decide +kernel
theorem dX5_write_14 : decode cX5_write 14 = .ok (.aload_n 0, 1) := by decide +kernel
theorem dX5_write_15 : decode cX5_write 15 = .ok (.getfield 10, 3) := by decide +kernel
theorem dX5_write_18 : decode cX5_write 18 = .ok (.iload_n 1, 1) := by decide +kernel
theorem dX5_write_19 : decode cX5_write 19 = .ok (.invokevirtual 70, 3) := by decide +kernel
theorem dX5_write_22 : decode cX5_write 22 = .ok (.ifCond .eq 13, 3) := by decide +kernel
theorem dX5_write_25 : decode cX5_write 25 = .ok (.aload_n 0, 1) := by decide +kernel
theorem dX5_write_26 : decode cX5_write 26 = .ok (.getfield 10, 3) := by decide +kernel
theorem dX5_write_29 : decode cX5_write 29 = .ok (.getfield 74, 3) := by decide +kernel
theorem dX5_write_32 : decode cX5_write 32 = .ok (.goto 5, 3) := by decide +kernel
theorem dX5_write_35 : decode cX5_write 35 = .ok (.bipush (-4), 2) := by decide +kernel
theorem dX5_write_37 : decode cX5_write 37 = .ok (.ireturn, 1) := by decide +kernel
theorem dX5_wipe_0 : decode cX5_wipe 0 = .ok (.aload_n 0, 1) := by decide +kernel
theorem dX5_wipe_1 : decode cX5_wipe 1 = .ok (.getfield 10, 3) := by decide +kernel
theorem dX5_wipe_4 : decode cX5_wipe 4 = .ok (.getfield 74, 3) := by decide +kernel
theorem dX5_wipe_7 : decode cX5_wipe 7 = .ok (.istore_n 1, 1) := by decide +kernel
theorem dX5_wipe_8 : decode cX5_wipe 8 = .ok (.aload_n 0, 1) := by decide +kernel
theorem dX5_wipe_9 : decode cX5_wipe 9 = .ok (.getfield 10, 3) := by decide +kernel
theorem dX5_wipe_12 : decode cX5_wipe 12 = .ok (.iconst 0, 1) := by decide +kernel
theorem dX5_wipe_13 : decode cX5_wipe 13 = .ok (.putfield 74, 3) := by decide +kernel
theorem dX5_wipe_16 : decode cX5_wipe 16 = .ok (.iload_n 1, 1) := by decide +kernel
theorem dX5_wipe_17 : decode cX5_wipe 17 = .ok (.ireturn, 1) := by decide +kernel
theorem dX5_fault_0 : decode cX5_fault 0 = .ok (.aload_n 0, 1) := by decide +kernel
theorem dX5_fault_1 : decode cX5_fault 1 = .ok (.getfield 10, 3) := by decide +kernel
theorem dX5_fault_4 : decode cX5_fault 4 = .ok (.invokevirtual 77, 3) := by decide +kernel
theorem dX5_fault_7 : decode cX5_fault 7 = .ok (.ireturn, 1) := by decide +kernel
theorem dX5_belt_0 : decode cX5_belt 0 = .ok (.aload_n 0, 1) := by decide +kernel
theorem dX5_belt_1 : decode cX5_belt 1 = .ok (.getfield 10, 3) := by decide +kernel
theorem dX5_belt_4 : decode cX5_belt 4 = .ok (.invokevirtual 77, 3) := by decide +kernel
theorem dX5_belt_7 : decode cX5_belt 7 = .ok (.bipush (-9), 2) := by decide +kernel
theorem dX5_belt_9 : decode cX5_belt 9 = .ok (.if_icmp .eq 6, 3) := by decide +kernel
theorem dX5_belt_12 : decode cX5_belt 12 = .ok (.bipush (-3), 2) := by decide +kernel
theorem dX5_belt_14 : decode cX5_belt 14 = .ok (.ireturn, 1) := by decide +kernel
theorem dX5_belt_15 : decode cX5_belt 15 = .ok (.aload_n 0, 1) := by decide +kernel
theorem dX5_belt_16 : decode cX5_belt 16 = .ok (.getfield 10, 3) := by decide +kernel
theorem dX5_belt_19 : decode cX5_belt 19 = .ok (.aload_n 0, 1) := by decide +kernel
theorem dX5_belt_20 : decode cX5_belt 20 = .ok (.getfield 19, 3) := by decide +kernel
theorem dX5_belt_23 : decode cX5_belt 23 = .ok (.invokevirtual 81, 3) := by decide +kernel
theorem dX5_belt_26 : decode cX5_belt 26 = .ok (.aload_n 0, 1) := by decide +kernel
theorem dX5_belt_27 : decode cX5_belt 27 = .ok (.getfield 29, 3) := by decide +kernel
theorem dX5_belt_30 : decode cX5_belt 30 = .ok (.invokevirtual 85, 3) := by decide +kernel
theorem dX5_belt_33 : decode cX5_belt 33 = .ok (.aload_n 0, 1) := by decide +kernel
theorem dX5_belt_34 : decode cX5_belt 34 = .ok (.iconst 0, 1) := by decide +kernel
theorem dX5_belt_35 : decode cX5_belt 35 = .ok (.putfield 42, 3) := by decide +kernel
theorem dX5_belt_38 : decode cX5_belt 38 = .ok (.aload_n 0, 1) := by decide +kernel
theorem dX5_belt_39 : decode cX5_belt 39 = .ok (.getfield 19, 3) := by decide +kernel
theorem dX5_belt_42 : decode cX5_belt 42 = .ok (.getfield 88, 3) := by decide +kernel
theorem dX5_belt_45 : decode cX5_belt 45 = .ok (.ireturn, 1) := by decide +kernel
theorem dX5_zone_0 : decode cX5_zone 0 = .ok (.aload_n 0, 1) := by decide +kernel
theorem dX5_zone_1 : decode cX5_zone 1 = .ok (.getfield 19, 3) := by decide +kernel
theorem dX5_zone_4 : decode cX5_zone 4 = .ok (.iload_n 1, 1) := by decide +kernel
theorem dX5_zone_5 : decode cX5_zone 5 = .ok (.invokevirtual 91, 3) := by decide +kernel
theorem dX5_zone_8 : decode cX5_zone 8 = .ok (.ifCond .ne 5, 3) := by decide +kernel
theorem dX5_zone_11 : decode cX5_zone 11 = .ok (.iconst (-1), 1) := by decide +kernel
theorem dX5_zone_12 : decode cX5_zone 12 = .ok (.ireturn, 1) := by decide +kernel
theorem dX5_zone_13 : decode cX5_zone 13 = .ok (.aload_n 0, 1) := by decide +kernel
theorem dX5_zone_14 : decode cX5_zone 14 = .ok (.getfield 19, 3) := by decide +kernel
theorem dX5_zone_17 : decode cX5_zone 17 = .ok (.iload_n 1, 1) := by decide +kernel
theorem dX5_zone_18 : decode cX5_zone 18 = .ok (.iload_n 2, 1) := by decide +kernel
theorem dX5_zone_19 : decode cX5_zone 19 = .ok (.invokestatic 94, 3) := by decide +kernel
theorem dX5_zone_22 : decode cX5_zone 22 = .ok (.ireturn, 1) := by decide +kernel
theorem dX5_feed_0 : decode cX5_feed 0 = .ok (.aload_n 0, 1) := by decide +kernel
theorem dX5_feed_1 : decode cX5_feed 1 = .ok (.getfield 19, 3) := by decide +kernel
theorem dX5_feed_4 : decode cX5_feed 4 = .ok (.iload_n 1, 1) := by decide +kernel
theorem dX5_feed_5 : decode cX5_feed 5 = .ok (.invokevirtual 98, 3) := by decide +kernel
theorem dX5_feed_8 : decode cX5_feed 8 = .ok (.ifCond .ne 5, 3) := by decide +kernel
theorem dX5_feed_11 : decode cX5_feed 11 = .ok (.iconst (-1), 1) := by decide +kernel
theorem dX5_feed_12 : decode cX5_feed 12 = .ok (.ireturn, 1) := by decide +kernel
theorem dX5_feed_13 : decode cX5_feed 13 = .ok (.aload_n 0, 1) := by decide +kernel
theorem dX5_feed_14 : decode cX5_feed 14 = .ok (.getfield 19, 3) := by decide +kernel
theorem dX5_feed_17 : decode cX5_feed 17 = .ok (.aload_n 0, 1) := by decide +kernel
theorem dX5_feed_18 : decode cX5_feed 18 = .ok (.getfield 19, 3) := by decide +kernel
theorem dX5_feed_21 : decode cX5_feed 21 = .ok (.iload_n 1, 1) := by decide +kernel
theorem dX5_feed_22 : decode cX5_feed 22 = .ok (.invokevirtual 101, 3) := by decide +kernel
theorem dX5_feed_25 : decode cX5_feed 25 = .ok (.invokevirtual 105, 3) := by decide +kernel
theorem dX5_feed_28 : decode cX5_feed 28 = .ok (.ifCond .eq 6, 3) := by decide +kernel
theorem dX5_feed_31 : decode cX5_feed 31 = .ok (.bipush (-3), 2) := by decide +kernel
theorem dX5_feed_33 : decode cX5_feed 33 = .ok (.ireturn, 1) := by decide +kernel
theorem dX5_feed_34 : decode cX5_feed 34 = .ok (.aload_n 0, 1) := by decide +kernel
theorem dX5_feed_35 : decode cX5_feed 35 = .ok (.getfield 19, 3) := by decide +kernel
theorem dX5_feed_38 : decode cX5_feed 38 = .ok (.iload_n 1, 1) := by decide +kernel
theorem dX5_feed_39 : decode cX5_feed 39 = .ok (.invokevirtual 108, 3) := by decide +kernel
theorem dX5_feed_42 : decode cX5_feed 42 = .ok (.ifCond .ne 6, 3) := by decide +kernel
theorem dX5_feed_45 : decode cX5_feed 45 = .ok (.bipush (-4), 2) := by decide +kernel
theorem dX5_feed_47 : decode cX5_feed 47 = .ok (.ireturn, 1) := by decide +kernel
theorem dX5_feed_48 : decode cX5_feed 48 = .ok (.aload_n 0, 1) := by decide +kernel
theorem dX5_feed_49 : decode cX5_feed 49 = .ok (.getfield 29, 3) := by decide +kernel
theorem dX5_feed_52 : decode cX5_feed 52 = .ok (.aload_n 0, 1) := by decide +kernel
theorem dX5_feed_53 : decode cX5_feed 53 = .ok (.getfield 19, 3) := by decide +kernel
theorem dX5_feed_56 : decode cX5_feed 56 = .ok (.invokevirtual 111, 3) := by decide +kernel
theorem dX5_feed_59 : decode cX5_feed 59 = .ok (.aload_n 0, 1) := by decide +kernel
theorem dX5_feed_60 : decode cX5_feed 60 = .ok (.getfield 19, 3) := by decide +kernel
theorem dX5_feed_63 : decode cX5_feed 63 = .ok (.aload_n 0, 1) := by decide +kernel
theorem dX5_feed_64 : decode cX5_feed 64 = .ok (.getfield 19, 3) := by decide +kernel
theorem dX5_feed_67 : decode cX5_feed 67 = .ok (.iload_n 1, 1) := by decide +kernel
theorem dX5_feed_68 : decode cX5_feed 68 = .ok (.invokevirtual 101, 3) := by decide +kernel
theorem dX5_feed_71 : decode cX5_feed 71 = .ok (.invokevirtual 114, 3) := by decide +kernel
theorem dX5_feed_74 : decode cX5_feed 74 = .ok (.ireturn, 1) := by decide +kernel
theorem dX5_lift_0 : decode cX5_lift 0 = .ok (.aload_n 0, 1) := by decide +kernel
theorem dX5_lift_1 : decode cX5_lift 1 = .ok (.getfield 19, 3) := by decide +kernel
theorem dX5_lift_4 : decode cX5_lift 4 = .ok (.iload_n 1, 1) := by decide +kernel
theorem dX5_lift_5 : decode cX5_lift 5 = .ok (.invokevirtual 91, 3) := by decide +kernel
theorem dX5_lift_8 : decode cX5_lift 8 = .ok (.ifCond .ne 5, 3) := by decide +kernel
theorem dX5_lift_11 : decode cX5_lift 11 = .ok (.iconst (-1), 1) := by decide +kernel
theorem dX5_lift_12 : decode cX5_lift 12 = .ok (.ireturn, 1) := by decide +kernel
theorem dX5_lift_13 : decode cX5_lift 13 = .ok (.aload_n 0, 1) := by decide +kernel
theorem dX5_lift_14 : decode cX5_lift 14 = .ok (.getfield 19, 3) := by decide +kernel
theorem dX5_lift_17 : decode cX5_lift 17 = .ok (.iload_n 1, 1) := by decide +kernel
theorem dX5_lift_18 : decode cX5_lift 18 = .ok (.invokevirtual 105, 3) := by decide +kernel
theorem dX5_lift_21 : decode cX5_lift 21 = .ok (.ifCond .ne 6, 3) := by decide +kernel
theorem dX5_lift_24 : decode cX5_lift 24 = .ok (.bipush (-3), 2) := by decide +kernel
theorem dX5_lift_26 : decode cX5_lift 26 = .ok (.ireturn, 1) := by decide +kernel
theorem dX5_lift_27 : decode cX5_lift 27 = .ok (.aload_n 0, 1) := by decide +kernel
theorem dX5_lift_28 : decode cX5_lift 28 = .ok (.getfield 29, 3) := by decide +kernel
theorem dX5_lift_31 : decode cX5_lift 31 = .ok (.aload_n 0, 1) := by decide +kernel
theorem dX5_lift_32 : decode cX5_lift 32 = .ok (.getfield 19, 3) := by decide +kernel
theorem dX5_lift_35 : decode cX5_lift 35 = .ok (.invokevirtual 111, 3) := by decide +kernel
theorem dX5_lift_38 : decode cX5_lift 38 = .ok (.aload_n 0, 1) := by decide +kernel
theorem dX5_lift_39 : decode cX5_lift 39 = .ok (.getfield 19, 3) := by decide +kernel
theorem dX5_lift_42 : decode cX5_lift 42 = .ok (.iload_n 1, 1) := by decide +kernel
theorem dX5_lift_43 : decode cX5_lift 43 = .ok (.invokevirtual 117, 3) := by decide +kernel
theorem dX5_lift_46 : decode cX5_lift 46 = .ok (.ireturn, 1) := by decide +kernel
theorem dX5_turn_0 : decode cX5_turn 0 = .ok (.aload_n 0, 1) := by decide +kernel
theorem dX5_turn_1 : decode cX5_turn 1 = .ok (.getfield 29, 3) := by decide +kernel
theorem dX5_turn_4 : decode cX5_turn 4 = .ok (.aload_n 0, 1) := by decide +kernel
theorem dX5_turn_5 : decode cX5_turn 5 = .ok (.getfield 19, 3) := by decide +kernel
theorem dX5_turn_8 : decode cX5_turn 8 = .ok (.invokevirtual 111, 3) := by decide +kernel
theorem dX5_turn_11 : decode cX5_turn 11 = .ok (.aload_n 0, 1) := by decide +kernel
theorem dX5_turn_12 : decode cX5_turn 12 = .ok (.getfield 19, 3) := by decide +kernel
theorem dX5_turn_15 : decode cX5_turn 15 = .ok (.invokevirtual 120, 3) := by decide +kernel
theorem dX5_turn_18 : decode cX5_turn 18 = .ok (.ireturn, 1) := by decide +kernel
theorem dX5_eye_0 : decode cX5_eye 0 = .ok (.aload_n 0, 1) := by decide +kernel
theorem dX5_eye_1 : decode cX5_eye 1 = .ok (.getfield 19, 3) := by decide +kernel
theorem dX5_eye_4 : decode cX5_eye 4 = .ok (.iload_n 1, 1) := by decide +kernel
theorem dX5_eye_5 : decode cX5_eye 5 = .ok (.invokevirtual 91, 3) := by decide +kernel
theorem dX5_eye_8 : decode cX5_eye 8 = .ok (.ifCond .ne 5, 3) := by decide +kernel
theorem dX5_eye_11 : decode cX5_eye 11 = .ok (.iconst (-1), 1) := by decide +kernel
theorem dX5_eye_12 : decode cX5_eye 12 = .ok (.ireturn, 1) := by decide +kernel
theorem dX5_eye_13 : decode cX5_eye 13 = .ok (.iload_n 2, 1) := by decide +kernel
theorem dX5_eye_14 : decode cX5_eye 14 = .ok (.invokestatic 123, 3) := by decide +kernel
theorem dX5_eye_17 : decode cX5_eye 17 = .ok (.ifCond .ne 6, 3) := by decide +kernel
theorem dX5_eye_20 : decode cX5_eye 20 = .ok (.bipush (-2), 2) := by decide +kernel
theorem dX5_eye_22 : decode cX5_eye 22 = .ok (.ireturn, 1) := by decide +kernel
theorem dX5_eye_23 : decode cX5_eye 23 = .ok (.aload_n 0, 1) := by decide +kernel
theorem dX5_eye_24 : decode cX5_eye 24 = .ok (.getfield 29, 3) := by decide +kernel
theorem dX5_eye_27 : decode cX5_eye 27 = .ok (.aload_n 0, 1) := by decide +kernel
theorem dX5_eye_28 : decode cX5_eye 28 = .ok (.getfield 19, 3) := by decide +kernel
theorem dX5_eye_31 : decode cX5_eye 31 = .ok (.invokevirtual 111, 3) := by decide +kernel
theorem dX5_eye_34 : decode cX5_eye 34 = .ok (.aload_n 0, 1) := by decide +kernel
theorem dX5_eye_35 : decode cX5_eye 35 = .ok (.getfield 19, 3) := by decide +kernel
theorem dX5_eye_38 : decode cX5_eye 38 = .ok (.bipush 12, 2) := by decide +kernel
theorem dX5_eye_40 : decode cX5_eye 40 = .ok (.iload_n 1, 1) := by decide +kernel
theorem dX5_eye_41 : decode cX5_eye 41 = .ok (.iadd, 1) := by decide +kernel
theorem dX5_eye_42 : decode cX5_eye 42 = .ok (.iload_n 2, 1) := by decide +kernel
theorem dX5_eye_43 : decode cX5_eye 43 = .ok (.invokevirtual 126, 3) := by decide +kernel
theorem dX5_eye_46 : decode cX5_eye 46 = .ok (.ireturn, 1) := by decide +kernel
theorem dX5_make_0 : decode cX5_make 0 = .ok (.iload_n 1, 1) := by decide +kernel
theorem dX5_make_1 : decode cX5_make 1 = .ok (.ifCond .lt 26, 3) := by decide +kernel
theorem dX5_make_4 : decode cX5_make 4 = .ok (.iload_n 1, 1) := by decide +kernel
theorem dX5_make_5 : decode cX5_make 5 = .ok (.iconst 1, 1) := by decide +kernel
theorem dX5_make_6 : decode cX5_make 6 = .ok (.if_icmp .gt 21, 3) := by decide +kernel
theorem dX5_make_9 : decode cX5_make 9 = .ok (.iload_n 2, 1) := by decide +kernel
theorem dX5_make_10 : decode cX5_make 10 = .ok (.ifCond .lt 17, 3) := by decide +kernel
theorem dX5_make_13 : decode cX5_make 13 = .ok (.iload_n 2, 1) := by decide +kernel
theorem dX5_make_14 : decode cX5_make 14 = .ok (.iload_n 1, 1) := by decide +kernel
theorem dX5_make_15 : decode cX5_make 15 = .ok (.ifCond .ne 7, 3) := by decide +kernel
theorem dX5_make_18 : decode cX5_make 18 = .ok (.iconst 1, 1) := by decide +kernel
theorem dX5_make_19 : decode cX5_make 19 = .ok (.goto 5, 3) := by decide +kernel
theorem dX5_make_22 : decode cX5_make 22 = .ok (.bipush 9, 2) := by decide +kernel
theorem dX5_make_24 : decode cX5_make 24 = .ok (.if_icmp .le 6, 3) := by decide +kernel
theorem dX5_make_27 : decode cX5_make 27 = .ok (.bipush (-2), 2) := by decide +kernel
theorem dX5_make_29 : decode cX5_make 29 = .ok (.ireturn, 1) := by decide +kernel
theorem dX5_make_30 : decode cX5_make 30 = .ok (.aload_n 0, 1) := by decide +kernel
theorem dX5_make_31 : decode cX5_make 31 = .ok (.getfield 29, 3) := by decide +kernel
theorem dX5_make_34 : decode cX5_make 34 = .ok (.aload_n 0, 1) := by decide +kernel
theorem dX5_make_35 : decode cX5_make 35 = .ok (.getfield 19, 3) := by decide +kernel
theorem dX5_make_38 : decode cX5_make 38 = .ok (.invokevirtual 111, 3) := by decide +kernel
theorem dX5_make_41 : decode cX5_make 41 = .ok (.aload_n 0, 1) := by decide +kernel
theorem dX5_make_42 : decode cX5_make 42 = .ok (.getfield 19, 3) := by decide +kernel
theorem dX5_make_45 : decode cX5_make 45 = .ok (.iload_n 1, 1) := by decide +kernel
theorem dX5_make_46 : decode cX5_make 46 = .ok (.ifCond .ne 8, 3) := by decide +kernel
theorem dX5_make_49 : decode cX5_make 49 = .ok (.bipush 51, 2) := by decide +kernel
theorem dX5_make_51 : decode cX5_make 51 = .ok (.goto 5, 3) := by decide +kernel
theorem dX5_make_54 : decode cX5_make 54 = .ok (.bipush 52, 2) := by decide +kernel
theorem dX5_make_56 : decode cX5_make 56 = .ok (.iload_n 2, 1) := by decide +kernel
theorem dX5_make_57 : decode cX5_make 57 = .ok (.invokevirtual 126, 3) := by decide +kernel
end
section
theorem dX5_make_60 : decode cX5_make 60 = .ok (.ireturn, 1) := by decide +kernel
theorem dX5_clear_0 : decode cX5_clear 0 = .ok (.aload_n 0, 1) := by decide +kernel
theorem dX5_clear_1 : decode cX5_clear 1 = .ok (.getfield 19, 3) := by decide +kernel
theorem dX5_clear_4 : decode cX5_clear 4 = .ok (.iload_n 1, 1) := by decide +kernel
theorem dX5_clear_5 : decode cX5_clear 5 = .ok (.invokevirtual 91, 3) := by decide +kernel
theorem dX5_clear_8 : decode cX5_clear 8 = .ok (.ifCond .ne 5, 3) := by decide +kernel
theorem dX5_clear_11 : decode cX5_clear 11 = .ok (.iconst (-1), 1) := by decide +kernel
theorem dX5_clear_12 : decode cX5_clear 12 = .ok (.ireturn, 1) := by decide +kernel
theorem dX5_clear_13 : decode cX5_clear 13 = .ok (.aload_n 0, 1) := by decide +kernel
theorem dX5_clear_14 : decode cX5_clear 14 = .ok (.getfield 19, 3) := by decide +kernel
theorem dX5_clear_17 : decode cX5_clear 17 = .ok (.iload_n 1, 1) := by decide +kernel
theorem dX5_clear_18 : decode cX5_clear 18 = .ok (.invokevirtual 130, 3) := by decide +kernel
theorem dX5_clear_21 : decode cX5_clear 21 = .ok (.ifCond .ne 6, 3) := by decide +kernel
theorem dX5_clear_24 : decode cX5_clear 24 = .ok (.bipush (-3), 2) := by decide +kernel
theorem dX5_clear_26 : decode cX5_clear 26 = .ok (.ireturn, 1) := by decide +kernel
theorem dX5_clear_27 : decode cX5_clear 27 = .ok (.aload_n 0, 1) := by decide +kernel
theorem dX5_clear_28 : decode cX5_clear 28 = .ok (.getfield 29, 3) := by decide +kernel
theorem dX5_clear_31 : decode cX5_clear 31 = .ok (.aload_n 0, 1) := by decide +kernel
theorem dX5_clear_32 : decode cX5_clear 32 = .ok (.getfield 19, 3) := by decide +kernel
theorem dX5_clear_35 : decode cX5_clear 35 = .ok (.invokevirtual 111, 3) := by decide +kernel
theorem dX5_clear_38 : decode cX5_clear 38 = .ok (.aload_n 0, 1) := by decide +kernel
theorem dX5_clear_39 : decode cX5_clear 39 = .ok (.getfield 19, 3) := by decide +kernel
theorem dX5_clear_42 : decode cX5_clear 42 = .ok (.iload_n 1, 1) := by decide +kernel
theorem dX5_clear_43 : decode cX5_clear 43 = .ok (.invokevirtual 133, 3) := by decide +kernel
theorem dX5_clear_46 : decode cX5_clear 46 = .ok (.aload_n 0, 1) := by decide +kernel
theorem dX5_clear_47 : decode cX5_clear 47 = .ok (.getfield 19, 3) := by decide +kernel
theorem dX5_clear_50 : decode cX5_clear 50 = .ok (.getfield 136, 3) := by decide +kernel
theorem dX5_clear_53 : decode cX5_clear 53 = .ok (.bipush 48, 2) := by decide +kernel
theorem dX5_clear_55 : decode cX5_clear 55 = .ok (.iaload, 1) := by decide +kernel
theorem dX5_clear_56 : decode cX5_clear 56 = .ok (.invokestatic 139, 3) := by decide +kernel
theorem dX5_clear_59 : decode cX5_clear 59 = .ok (.ireturn, 1) := by decide +kernel
theorem dX5_step_0 : decode cX5_step 0 = .ok (.iload_n 1, 1) := by decide +kernel
theorem dX5_step_1 : decode cX5_step 1 = .ok (.iconst 1, 1) := by decide +kernel
theorem dX5_step_2 : decode cX5_step 2 = .ok (.if_icmp .lt 9, 3) := by decide +kernel
theorem dX5_step_5 : decode cX5_step 5 = .ok (.iload_n 1, 1) := by decide +kernel
theorem dX5_step_6 : decode cX5_step 6 = .ok (.bipush 99, 2) := by decide +kernel
theorem dX5_step_8 : decode cX5_step 8 = .ok (.if_icmp .le 6, 3) := by decide +kernel
theorem dX5_step_11 : decode cX5_step 11 = .ok (.bipush (-2), 2) := by decide +kernel
theorem dX5_step_13 : decode cX5_step 13 = .ok (.ireturn, 1) := by decide +kernel
theorem dX5_step_14 : decode cX5_step 14 = .ok (.aload_n 0, 1) := by decide +kernel
theorem dX5_step_15 : decode cX5_step 15 = .ok (.getfield 29, 3) := by decide +kernel
theorem dX5_step_18 : decode cX5_step 18 = .ok (.aload_n 0, 1) := by decide +kernel
theorem dX5_step_19 : decode cX5_step 19 = .ok (.getfield 19, 3) := by decide +kernel
theorem dX5_step_22 : decode cX5_step 22 = .ok (.invokevirtual 111, 3) := by decide +kernel
theorem dX5_step_25 : decode cX5_step 25 = .ok (.aload_n 0, 1) := by decide +kernel
theorem dX5_step_26 : decode cX5_step 26 = .ok (.getfield 19, 3) := by decide +kernel
theorem dX5_step_29 : decode cX5_step 29 = .ok (.getfield 136, 3) := by decide +kernel
theorem dX5_step_32 : decode cX5_step 32 = .ok (.bipush 55, 2) := by decide +kernel
theorem dX5_step_34 : decode cX5_step 34 = .ok (.iaload, 1) := by decide +kernel
theorem dX5_step_35 : decode cX5_step 35 = .ok (.istore_n 2, 1) := by decide +kernel
theorem dX5_step_36 : decode cX5_step 36 = .ok (.aload_n 0, 1) := by decide +kernel
theorem dX5_step_37 : decode cX5_step 37 = .ok (.getfield 19, 3) := by decide +kernel
theorem dX5_step_40 : decode cX5_step 40 = .ok (.iload_n 1, 1) := by decide +kernel
theorem dX5_step_41 : decode cX5_step 41 = .ok (.invokevirtual 144, 3) := by decide +kernel
theorem dX5_step_44 : decode cX5_step 44 = .ok (.aload_n 0, 1) := by decide +kernel
theorem dX5_step_45 : decode cX5_step 45 = .ok (.getfield 19, 3) := by decide +kernel
theorem dX5_step_48 : decode cX5_step 48 = .ok (.getfield 136, 3) := by decide +kernel
theorem dX5_step_51 : decode cX5_step 51 = .ok (.bipush 55, 2) := by decide +kernel
theorem dX5_step_53 : decode cX5_step 53 = .ok (.iaload, 1) := by decide +kernel
theorem dX5_step_54 : decode cX5_step 54 = .ok (.iload_n 2, 1) := by decide +kernel
theorem dX5_step_55 : decode cX5_step 55 = .ok (.isub, 1) := by decide +kernel
theorem dX5_step_56 : decode cX5_step 56 = .ok (.ireturn, 1) := by decide +kernel
theorem dX5_undo_0 : decode cX5_undo 0 = .ok (.aload_n 0, 1) := by decide +kernel
theorem dX5_undo_1 : decode cX5_undo 1 = .ok (.getfield 29, 3) := by decide +kernel
theorem dX5_undo_4 : decode cX5_undo 4 = .ok (.aload_n 0, 1) := by decide +kernel
theorem dX5_undo_5 : decode cX5_undo 5 = .ok (.getfield 19, 3) := by decide +kernel
theorem dX5_undo_8 : decode cX5_undo 8 = .ok (.invokevirtual 147, 3) := by decide +kernel
theorem dX5_undo_11 : decode cX5_undo 11 = .ok (.ifCond .eq 13, 3) := by decide +kernel
theorem dX5_undo_14 : decode cX5_undo 14 = .ok (.aload_n 0, 1) := by decide +kernel
theorem dX5_undo_15 : decode cX5_undo 15 = .ok (.getfield 29, 3) := by decide +kernel
theorem dX5_undo_18 : decode cX5_undo 18 = .ok (.getfield 151, 3) := by decide +kernel
theorem dX5_undo_21 : decode cX5_undo 21 = .ok (.goto 5, 3) := by decide +kernel
theorem dX5_undo_24 : decode cX5_undo 24 = .ok (.bipush (-3), 2) := by decide +kernel
theorem dX5_undo_26 : decode cX5_undo 26 = .ok (.ireturn, 1) := by decide +kernel
theorem dX5_ahead_0 : decode cX5_ahead 0 = .ok (.aload_n 0, 1) := by decide +kernel
theorem dX5_ahead_1 : decode cX5_ahead 1 = .ok (.getfield 19, 3) := by decide +kernel
theorem dX5_ahead_4 : decode cX5_ahead 4 = .ok (.iload_n 2, 1) := by decide +kernel
theorem dX5_ahead_5 : decode cX5_ahead 5 = .ok (.invokevirtual 91, 3) := by decide +kernel
theorem dX5_ahead_8 : decode cX5_ahead 8 = .ok (.ifCond .ne 5, 3) := by decide +kernel
theorem dX5_ahead_11 : decode cX5_ahead 11 = .ok (.iconst (-1), 1) := by decide +kernel
theorem dX5_ahead_12 : decode cX5_ahead 12 = .ok (.ireturn, 1) := by decide +kernel
theorem dX5_ahead_13 : decode cX5_ahead 13 = .ok (.iload_n 1, 1) := by decide +kernel
theorem dX5_ahead_14 : decode cX5_ahead 14 = .ok (.ifCond .lt 19, 3) := by decide +kernel
theorem dX5_ahead_17 : decode cX5_ahead 17 = .ok (.iload_n 1, 1) := by decide +kernel
theorem dX5_ahead_18 : decode cX5_ahead 18 = .ok (.bipush 99, 2) := by decide +kernel
theorem dX5_ahead_20 : decode cX5_ahead 20 = .ok (.if_icmp .gt 13, 3) := by decide +kernel
theorem dX5_ahead_23 : decode cX5_ahead 23 = .ok (.iload_n 3, 1) := by decide +kernel
theorem dX5_ahead_24 : decode cX5_ahead 24 = .ok (.ifCond .lt 9, 3) := by decide +kernel
theorem dX5_ahead_27 : decode cX5_ahead 27 = .ok (.iload_n 3, 1) := by decide +kernel
theorem dX5_ahead_28 : decode cX5_ahead 28 = .ok (.bipush 7, 2) := by decide +kernel
theorem dX5_ahead_30 : decode cX5_ahead 30 = .ok (.if_icmp .lt 6, 3) := by decide +kernel
theorem dX5_ahead_33 : decode cX5_ahead 33 = .ok (.bipush (-2), 2) := by decide +kernel
theorem dX5_ahead_35 : decode cX5_ahead 35 = .ok (.ireturn, 1) := by decide +kernel
theorem dX5_ahead_36 : decode cX5_ahead 36 = .ok (.aload_n 0, 1) := by decide +kernel
theorem dX5_ahead_37 : decode cX5_ahead 37 = .ok (.getfield 23, 3) := by decide +kernel
theorem dX5_ahead_40 : decode cX5_ahead 40 = .ok (.aload_n 0, 1) := by decide +kernel
theorem dX5_ahead_41 : decode cX5_ahead 41 = .ok (.getfield 19, 3) := by decide +kernel
theorem dX5_ahead_44 : decode cX5_ahead 44 = .ok (.invokevirtual 154, 3) := by decide +kernel
theorem dX5_ahead_47 : decode cX5_ahead 47 = .ok (.aload_n 0, 1) := by decide +kernel
theorem dX5_ahead_48 : decode cX5_ahead 48 = .ok (.getfield 23, 3) := by decide +kernel
theorem dX5_ahead_51 : decode cX5_ahead 51 = .ok (.iload_n 1, 1) := by decide +kernel
theorem dX5_ahead_52 : decode cX5_ahead 52 = .ok (.invokevirtual 144, 3) := by decide +kernel
theorem dX5_ahead_55 : decode cX5_ahead 55 = .ok (.aload_n 0, 1) := by decide +kernel
theorem dX5_ahead_56 : decode cX5_ahead 56 = .ok (.getfield 23, 3) := by decide +kernel
theorem dX5_ahead_59 : decode cX5_ahead 59 = .ok (.iload_n 2, 1) := by decide +kernel
theorem dX5_ahead_60 : decode cX5_ahead 60 = .ok (.iload_n 3, 1) := by decide +kernel
theorem dX5_ahead_61 : decode cX5_ahead 61 = .ok (.invokestatic 94, 3) := by decide +kernel
theorem dX5_ahead_64 : decode cX5_ahead 64 = .ok (.ireturn, 1) := by decide +kernel
theorem dX5_ask_0 : decode cX5_ask 0 = .ok (.iload_n 1, 1) := by decide +kernel
theorem dX5_ask_1 : decode cX5_ask 1 = .ok (.tableswitch 90 0 2 #[27, 43, 48], 27) := by decide +kernel
theorem dX5_ask_28 : decode cX5_ask 28 = .ok (.aload_n 0, 1) := by decide +kernel
theorem dX5_ask_29 : decode cX5_ask 29 = .ok (.getfield 23, 3) := by decide +kernel
theorem dX5_ask_32 : decode cX5_ask 32 = .ok (.aload_n 0, 1) := by decide +kernel
theorem dX5_ask_33 : decode cX5_ask 33 = .ok (.getfield 19, 3) := by decide +kernel
theorem dX5_ask_36 : decode cX5_ask 36 = .ok (.invokevirtual 154, 3) := by decide +kernel
theorem dX5_ask_39 : decode cX5_ask 39 = .ok (.aload_n 0, 1) := by decide +kernel
theorem dX5_ask_40 : decode cX5_ask 40 = .ok (.invokevirtual 157, 3) := by decide +kernel
theorem dX5_ask_43 : decode cX5_ask 43 = .ok (.ireturn, 1) := by decide +kernel
theorem dX5_ask_44 : decode cX5_ask 44 = .ok (.aload_n 0, 1) := by decide +kernel
theorem dX5_ask_45 : decode cX5_ask 45 = .ok (.invokevirtual 160, 3) := by decide +kernel
theorem dX5_ask_48 : decode cX5_ask 48 = .ok (.ireturn, 1) := by decide +kernel
theorem dX5_ask_49 : decode cX5_ask 49 = .ok (.aload_n 0, 1) := by decide +kernel
theorem dX5_ask_50 : decode cX5_ask 50 = .ok (.getfield 23, 3) := by decide +kernel
theorem dX5_ask_53 : decode cX5_ask 53 = .ok (.aload_n 0, 1) := by decide +kernel
theorem dX5_ask_54 : decode cX5_ask 54 = .ok (.getfield 19, 3) := by decide +kernel
theorem dX5_ask_57 : decode cX5_ask 57 = .ok (.invokevirtual 154, 3) := by decide +kernel
theorem dX5_ask_60 : decode cX5_ask 60 = .ok (.aload_n 0, 1) := by decide +kernel
theorem dX5_ask_61 : decode cX5_ask 61 = .ok (.getfield 23, 3) := by decide +kernel
theorem dX5_ask_64 : decode cX5_ask 64 = .ok (.bipush 60, 2) := by decide +kernel
theorem dX5_ask_66 : decode cX5_ask 66 = .ok (.invokevirtual 144, 3) := by decide +kernel
theorem dX5_ask_69 : decode cX5_ask 69 = .ok (.aload_n 0, 1) := by decide +kernel
theorem dX5_ask_70 : decode cX5_ask 70 = .ok (.getfield 23, 3) := by decide +kernel
theorem dX5_ask_73 : decode cX5_ask 73 = .ok (.getfield 136, 3) := by decide +kernel
theorem dX5_ask_76 : decode cX5_ask 76 = .ok (.bipush 55, 2) := by decide +kernel
theorem dX5_ask_78 : decode cX5_ask 78 = .ok (.iaload, 1) := by decide +kernel
theorem dX5_ask_79 : decode cX5_ask 79 = .ok (.aload_n 0, 1) := by decide +kernel
theorem dX5_ask_80 : decode cX5_ask 80 = .ok (.getfield 19, 3) := by decide +kernel
theorem dX5_ask_83 : decode cX5_ask 83 = .ok (.getfield 136, 3) := by decide +kernel
theorem dX5_ask_86 : decode cX5_ask 86 = .ok (.bipush 55, 2) := by decide +kernel
theorem dX5_ask_88 : decode cX5_ask 88 = .ok (.iaload, 1) := by decide +kernel
theorem dX5_ask_89 : decode cX5_ask 89 = .ok (.isub, 1) := by decide +kernel
theorem dX5_ask_90 : decode cX5_ask 90 = .ok (.ireturn, 1) := by decide +kernel
theorem dX5_ask_91 : decode cX5_ask 91 = .ok (.bipush (-2), 2) := by decide +kernel
theorem dX5_ask_93 : decode cX5_ask 93 = .ok (.ireturn, 1) := by decide +kernel
theorem dX5_row_0 : decode cX5_row 0 = .ok (.iload_n 1, 1) := by decide +kernel
theorem dX5_row_1 : decode cX5_row 1 = .ok (.ifCond .lt 9, 3) := by decide +kernel
theorem dX5_row_4 : decode cX5_row 4 = .ok (.iload_n 1, 1) := by decide +kernel
theorem dX5_row_5 : decode cX5_row 5 = .ok (.bipush 60, 2) := by decide +kernel
theorem dX5_row_7 : decode cX5_row 7 = .ok (.if_icmp .lt 6, 3) := by decide +kernel
theorem dX5_row_10 : decode cX5_row 10 = .ok (.bipush (-9), 2) := by decide +kernel
theorem dX5_row_12 : decode cX5_row 12 = .ok (.ireturn, 1) := by decide +kernel
theorem dX5_row_13 : decode cX5_row 13 = .ok (.aload_n 0, 1) := by decide +kernel
theorem dX5_row_14 : decode cX5_row 14 = .ok (.getfield 19, 3) := by decide +kernel
theorem dX5_row_17 : decode cX5_row 17 = .ok (.getfield 136, 3) := by decide +kernel
theorem dX5_row_20 : decode cX5_row 20 = .ok (.bipush 55, 2) := by decide +kernel
theorem dX5_row_22 : decode cX5_row 22 = .ok (.iaload, 1) := by decide +kernel
theorem dX5_row_23 : decode cX5_row 23 = .ok (.iload_n 1, 1) := by decide +kernel
theorem dX5_row_24 : decode cX5_row 24 = .ok (.iadd, 1) := by decide +kernel
theorem dX5_row_25 : decode cX5_row 25 = .ok (.iconst 1, 1) := by decide +kernel
theorem dX5_row_26 : decode cX5_row 26 = .ok (.iadd, 1) := by decide +kernel
theorem dX5_row_27 : decode cX5_row 27 = .ok (.istore_n 2, 1) := by decide +kernel
theorem dX5_row_28 : decode cX5_row 28 = .ok (.aload_n 0, 1) := by decide +kernel
theorem dX5_row_29 : decode cX5_row 29 = .ok (.getfield 23, 3) := by decide +kernel
theorem dX5_row_32 : decode cX5_row 32 = .ok (.aload_n 0, 1) := by decide +kernel
theorem dX5_row_33 : decode cX5_row 33 = .ok (.getfield 19, 3) := by decide +kernel
theorem dX5_row_36 : decode cX5_row 36 = .ok (.invokevirtual 154, 3) := by decide +kernel
theorem dX5_row_39 : decode cX5_row 39 = .ok (.iconst 0, 1) := by decide +kernel
theorem dX5_row_40 : decode cX5_row 40 = .ok (.istore_n 3, 1) := by decide +kernel
theorem dX5_row_41 : decode cX5_row 41 = .ok (.iload_n 3, 1) := by decide +kernel
theorem dX5_row_42 : decode cX5_row 42 = .ok (.bipush 60, 2) := by decide +kernel
theorem dX5_row_44 : decode cX5_row 44 = .ok (.if_icmp .ge 38, 3) := by decide +kernel
theorem dX5_row_47 : decode cX5_row 47 = .ok (.aload_n 0, 1) := by decide +kernel
theorem dX5_row_48 : decode cX5_row 48 = .ok (.getfield 23, 3) := by decide +kernel
theorem dX5_row_51 : decode cX5_row 51 = .ok (.invokevirtual 163, 3) := by decide +kernel
theorem dX5_row_54 : decode cX5_row 54 = .ok (.aload_n 0, 1) := by decide +kernel
theorem dX5_row_55 : decode cX5_row 55 = .ok (.getfield 23, 3) := by decide +kernel
theorem dX5_row_58 : decode cX5_row 58 = .ok (.getfield 136, 3) := by decide +kernel
theorem dX5_row_61 : decode cX5_row 61 = .ok (.bipush 55, 2) := by decide +kernel
theorem dX5_row_63 : decode cX5_row 63 = .ok (.iaload, 1) := by decide +kernel
theorem dX5_row_64 : decode cX5_row 64 = .ok (.iload_n 2, 1) := by decide +kernel
theorem dX5_row_65 : decode cX5_row 65 = .ok (.if_icmp .ne 11, 3) := by decide +kernel
theorem dX5_row_68 : decode cX5_row 68 = .ok (.aload_n 0, 1) := by decide +kernel
theorem dX5_row_69 : decode cX5_row 69 = .ok (.getfield 23, 3) := by decide +kernel
theorem dX5_row_72 : decode cX5_row 72 = .ok (.getfield 166, 3) := by decide +kernel
theorem dX5_row_75 : decode cX5_row 75 = .ok (.ireturn, 1) := by decide +kernel
theorem dX5_row_76 : decode cX5_row 76 = .ok (.iinc 3 1, 3) := by decide +kernel
theorem dX5_row_79 : decode cX5_row 79 = .ok (.goto (-38), 3) := by decide +kernel
theorem dX5_row_82 : decode cX5_row 82 = .ok (.bipush (-9), 2) := by decide +kernel
theorem dX5_row_84 : decode cX5_row 84 = .ok (.ireturn, 1) := by decide +kernel
theorem dX5_judge_0 : decode cX5_judge 0 = .ok (.iload_n 1, 1) := by decide +kernel
theorem dX5_judge_1 : decode cX5_judge 1 = .ok (.iconst 1, 1) := by decide +kernel
theorem dX5_judge_2 : decode cX5_judge 2 = .ok (.if_icmp .lt 24, 3) := by decide +kernel
theorem dX5_judge_5 : decode cX5_judge 5 = .ok (.iload_n 1, 1) := by decide +kernel
theorem dX5_judge_6 : decode cX5_judge 6 = .ok (.iconst 4, 1) := by decide +kernel
theorem dX5_judge_7 : decode cX5_judge 7 = .ok (.if_icmp .gt 19, 3) := by decide +kernel
theorem dX5_judge_10 : decode cX5_judge 10 = .ok (.lload_n 2, 1) := by decide +kernel
theorem dX5_judge_11 : decode cX5_judge 11 = .ok (.lconst 0, 1) := by decide +kernel
theorem dX5_judge_12 : decode cX5_judge 12 = .ok (.lcmp, 1) := by decide +kernel
theorem dX5_judge_13 : decode cX5_judge 13 = .ok (.ifCond .lt 13, 3) := by decide +kernel
theorem dX5_judge_16 : decode cX5_judge 16 = .ok (.lload_n 2, 1) := by decide +kernel
theorem dX5_judge_17 : decode cX5_judge 17 = .ok (.getstatic 169, 3) := by decide +kernel
theorem dX5_judge_20 : decode cX5_judge 20 = .ok (.iload_n 1, 1) := by decide +kernel
theorem dX5_judge_21 : decode cX5_judge 21 = .ok (.laload, 1) := by decide +kernel
theorem dX5_judge_22 : decode cX5_judge 22 = .ok (.lcmp, 1) := by decide +kernel
theorem dX5_judge_23 : decode cX5_judge 23 = .ok (.ifCond .lt 6, 3) := by decide +kernel
theorem dX5_judge_26 : decode cX5_judge 26 = .ok (.bipush (-2), 2) := by decide +kernel
theorem dX5_judge_28 : decode cX5_judge 28 = .ok (.ireturn, 1) := by decide +kernel
theorem dX5_judge_29 : decode cX5_judge 29 = .ok (.lload_n 2, 1) := by decide +kernel
theorem dX5_judge_30 : decode cX5_judge 30 = .ok (.lstore 4, 2) := by decide +kernel
theorem dX5_judge_32 : decode cX5_judge 32 = .ok (.iload_n 1, 1) := by decide +kernel
theorem dX5_judge_33 : decode cX5_judge 33 = .ok (.iconst 1, 1) := by decide +kernel
theorem dX5_judge_34 : decode cX5_judge 34 = .ok (.isub, 1) := by decide +kernel
theorem dX5_judge_35 : decode cX5_judge 35 = .ok (.istore 6, 2) := by decide +kernel
theorem dX5_judge_37 : decode cX5_judge 37 = .ok (.iload 6, 2) := by decide +kernel
theorem dX5_judge_39 : decode cX5_judge 39 = .ok (.ifCond .lt 31, 3) := by decide +kernel
theorem dX5_judge_42 : decode cX5_judge 42 = .ok (.aload_n 0, 1) := by decide +kernel
theorem dX5_judge_43 : decode cX5_judge 43 = .ok (.getfield 56, 3) := by decide +kernel
theorem dX5_judge_46 : decode cX5_judge 46 = .ok (.iload 6, 2) := by decide +kernel
theorem dX5_judge_48 : decode cX5_judge 48 = .ok (.lload 4, 2) := by decide +kernel
theorem dX5_judge_50 : decode cX5_judge 50 = .ok (.ldc2_w 173, 3) := by decide +kernel
theorem dX5_judge_53 : decode cX5_judge 53 = .ok (.lrem, 1) := by decide +kernel
theorem dX5_judge_54 : decode cX5_judge 54 = .ok (.l2i, 1) := by decide +kernel
theorem dX5_judge_55 : decode cX5_judge 55 = .ok (.iastore, 1) := by decide +kernel
theorem dX5_judge_56 : decode cX5_judge 56 = .ok (.lload 4, 2) := by decide +kernel
theorem dX5_judge_58 : decode cX5_judge 58 = .ok (.ldc2_w 173, 3) := by decide +kernel
theorem dX5_judge_61 : decode cX5_judge 61 = .ok (.ldiv, 1) := by decide +kernel
theorem dX5_judge_62 : decode cX5_judge 62 = .ok (.lstore 4, 2) := by decide +kernel
theorem dX5_judge_64 : decode cX5_judge 64 = .ok (.iinc 6 (-1), 3) := by decide +kernel
theorem dX5_judge_67 : decode cX5_judge 67 = .ok (.goto (-30), 3) := by decide +kernel
theorem dX5_judge_70 : decode cX5_judge 70 = .ok (.aload_n 0, 1) := by decide +kernel
theorem dX5_judge_71 : decode cX5_judge 71 = .ok (.getfield 23, 3) := by decide +kernel
theorem dX5_judge_74 : decode cX5_judge 74 = .ok (.aload_n 0, 1) := by decide +kernel
theorem dX5_judge_75 : decode cX5_judge 75 = .ok (.getfield 19, 3) := by decide +kernel
theorem dX5_judge_78 : decode cX5_judge 78 = .ok (.invokevirtual 154, 3) := by decide +kernel
theorem dX5_judge_81 : decode cX5_judge 81 = .ok (.iconst 0, 1) := by decide +kernel
theorem dX5_judge_82 : decode cX5_judge 82 = .ok (.istore 6, 2) := by decide +kernel
theorem dX5_judge_84 : decode cX5_judge 84 = .ok (.iload 6, 2) := by decide +kernel
theorem dX5_judge_86 : decode cX5_judge 86 = .ok (.iload_n 1, 1) := by decide +kernel
theorem dX5_judge_87 : decode cX5_judge 87 = .ok (.if_icmp .ge 29, 3) := by decide +kernel
theorem dX5_judge_90 : decode cX5_judge 90 = .ok (.aload_n 0, 1) := by decide +kernel
theorem dX5_judge_91 : decode cX5_judge 91 = .ok (.getfield 23, 3) := by decide +kernel
theorem dX5_judge_94 : decode cX5_judge 94 = .ok (.aload_n 0, 1) := by decide +kernel
theorem dX5_judge_95 : decode cX5_judge 95 = .ok (.getfield 56, 3) := by decide +kernel
theorem dX5_judge_98 : decode cX5_judge 98 = .ok (.iload 6, 2) := by decide +kernel
theorem dX5_judge_100 : decode cX5_judge 100 = .ok (.iaload, 1) := by decide +kernel
theorem dX5_judge_101 : decode cX5_judge 101 = .ok (.invokestatic 175, 3) := by decide +kernel
theorem dX5_judge_104 : decode cX5_judge 104 = .ok (.ifCond .ne 6, 3) := by decide +kernel
theorem dX5_judge_107 : decode cX5_judge 107 = .ok (.iload 6, 2) := by decide +kernel
theorem dX5_judge_109 : decode cX5_judge 109 = .ok (.ireturn, 1) := by decide +kernel
theorem dX5_judge_110 : decode cX5_judge 110 = .ok (.iinc 6 1, 3) := by decide +kernel
theorem dX5_judge_113 : decode cX5_judge 113 = .ok (.goto (-29), 3) := by decide +kernel
theorem dX5_judge_116 : decode cX5_judge 116 = .ok (.bipush (-9), 2) := by decide +kernel
theorem dX5_judge_118 : decode cX5_judge 118 = .ok (.ireturn, 1) := by decide +kernel
theorem dX5_see_0 : decode cX5_see 0 = .ok (.iload_n 1, 1) := by decide +kernel
theorem dX5_see_1 : decode cX5_see 1 = .ok (.ifCond .lt 28, 3) := by decide +kernel
theorem dX5_see_4 : decode cX5_see 4 = .ok (.iload_n 1, 1) := by decide +kernel
theorem dX5_see_5 : decode cX5_see 5 = .ok (.bipush 30, 2) := by decide +kernel
theorem dX5_see_7 : decode cX5_see 7 = .ok (.if_icmp .gt 22, 3) := by decide +kernel
theorem dX5_see_10 : decode cX5_see 10 = .ok (.iload_n 2, 1) := by decide +kernel
theorem dX5_see_11 : decode cX5_see 11 = .ok (.ifCond .lt 18, 3) := by decide +kernel
theorem dX5_see_14 : decode cX5_see 14 = .ok (.iload_n 2, 1) := by decide +kernel
theorem dX5_see_15 : decode cX5_see 15 = .ok (.bipush 99, 2) := by decide +kernel
theorem dX5_see_17 : decode cX5_see 17 = .ok (.if_icmp .gt 12, 3) := by decide +kernel
theorem dX5_see_20 : decode cX5_see 20 = .ok (.iload_n 3, 1) := by decide +kernel
theorem dX5_see_21 : decode cX5_see 21 = .ok (.ifCond .lt 8, 3) := by decide +kernel
theorem dX5_see_24 : decode cX5_see 24 = .ok (.iload_n 3, 1) := by decide +kernel
theorem dX5_see_25 : decode cX5_see 25 = .ok (.iconst 1, 1) := by decide +kernel
theorem dX5_see_26 : decode cX5_see 26 = .ok (.if_icmp .le 6, 3) := by decide +kernel
theorem dX5_see_29 : decode cX5_see 29 = .ok (.bipush (-2), 2) := by decide +kernel
theorem dX5_see_31 : decode cX5_see 31 = .ok (.ireturn, 1) := by decide +kernel
theorem dX5_see_32 : decode cX5_see 32 = .ok (.aload_n 0, 1) := by decide +kernel
theorem dX5_see_33 : decode cX5_see 33 = .ok (.getfield 52, 3) := by decide +kernel
theorem dX5_see_36 : decode cX5_see 36 = .ok (.iload_n 1, 1) := by decide +kernel
theorem dX5_see_37 : decode cX5_see 37 = .ok (.iload_n 2, 1) := by decide +kernel
theorem dX5_see_38 : decode cX5_see 38 = .ok (.iload_n 3, 1) := by decide +kernel
theorem dX5_see_39 : decode cX5_see 39 = .ok (.invokevirtual 179, 3) := by decide +kernel
theorem dX5_see_42 : decode cX5_see 42 = .ok (.ifCond .eq 13, 3) := by decide +kernel
theorem dX5_see_45 : decode cX5_see 45 = .ok (.aload_n 0, 1) := by decide +kernel
theorem dX5_see_46 : decode cX5_see 46 = .ok (.getfield 52, 3) := by decide +kernel
theorem dX5_see_49 : decode cX5_see 49 = .ok (.getfield 182, 3) := by decide +kernel
theorem dX5_see_52 : decode cX5_see 52 = .ok (.goto 5, 3) := by decide +kernel
theorem dX5_see_55 : decode cX5_see 55 = .ok (.bipush (-4), 2) := by decide +kernel
theorem dX5_see_57 : decode cX5_see 57 = .ok (.ireturn, 1) := by decide +kernel
theorem dX5_unsee_0 : decode cX5_unsee 0 = .ok (.aload_n 0, 1) := by decide +kernel
theorem dX5_unsee_1 : decode cX5_unsee 1 = .ok (.getfield 52, 3) := by decide +kernel
theorem dX5_unsee_4 : decode cX5_unsee 4 = .ok (.getfield 182, 3) := by decide +kernel
theorem dX5_unsee_7 : decode cX5_unsee 7 = .ok (.istore_n 1, 1) := by decide +kernel
theorem dX5_unsee_8 : decode cX5_unsee 8 = .ok (.aload_n 0, 1) := by decide +kernel
theorem dX5_unsee_9 : decode cX5_unsee 9 = .ok (.getfield 52, 3) := by decide +kernel
theorem dX5_unsee_12 : decode cX5_unsee 12 = .ok (.iconst 0, 1) := by decide +kernel
theorem dX5_unsee_13 : decode cX5_unsee 13 = .ok (.putfield 182, 3) := by decide +kernel
theorem dX5_unsee_16 : decode cX5_unsee 16 = .ok (.iload_n 1, 1) := by decide +kernel
theorem dX5_unsee_17 : decode cX5_unsee 17 = .ok (.ireturn, 1) := by decide +kernel
theorem dX5_which_0 : decode cX5_which 0 = .ok (.iconst 0, 1) := by decide +kernel
theorem dX5_which_1 : decode cX5_which 1 = .ok (.istore_n 1, 1) := by decide +kernel
theorem dX5_which_2 : decode cX5_which 2 = .ok (.iconst 0, 1) := by decide +kernel
theorem dX5_which_3 : decode cX5_which 3 = .ok (.istore_n 2, 1) := by decide +kernel
theorem dX5_which_4 : decode cX5_which 4 = .ok (.iload_n 2, 1) := by decide +kernel
theorem dX5_which_5 : decode cX5_which 5 = .ok (.aload_n 0, 1) := by decide +kernel
theorem dX5_which_6 : decode cX5_which 6 = .ok (.getfield 19, 3) := by decide +kernel
theorem dX5_which_9 : decode cX5_which 9 = .ok (.getfield 88, 3) := by decide +kernel
theorem dX5_which_12 : decode cX5_which 12 = .ok (.if_icmp .ge 68, 3) := by decide +kernel
theorem dX5_which_15 : decode cX5_which 15 = .ok (.aload_n 0, 1) := by decide +kernel
theorem dX5_which_16 : decode cX5_which 16 = .ok (.getfield 19, 3) := by decide +kernel
theorem dX5_which_19 : decode cX5_which 19 = .ok (.getfield 136, 3) := by decide +kernel
theorem dX5_which_22 : decode cX5_which 22 = .ok (.bipush 12, 2) := by decide +kernel
theorem dX5_which_24 : decode cX5_which 24 = .ok (.iload_n 2, 1) := by decide +kernel
theorem dX5_which_25 : decode cX5_which 25 = .ok (.iadd, 1) := by decide +kernel
theorem dX5_which_26 : decode cX5_which 26 = .ok (.iaload, 1) := by decide +kernel
theorem dX5_which_27 : decode cX5_which 27 = .ok (.ifCond .ne 47, 3) := by decide +kernel
theorem dX5_which_30 : decode cX5_which 30 = .ok (.aload_n 0, 1) := by decide +kernel
theorem dX5_which_31 : decode cX5_which 31 = .ok (.getfield 23, 3) := by decide +kernel
theorem dX5_which_34 : decode cX5_which 34 = .ok (.aload_n 0, 1) := by decide +kernel
theorem dX5_which_35 : decode cX5_which 35 = .ok (.getfield 19, 3) := by decide +kernel
theorem dX5_which_38 : decode cX5_which 38 = .ok (.invokevirtual 154, 3) := by decide +kernel
theorem dX5_which_41 : decode cX5_which 41 = .ok (.aload_n 0, 1) := by decide +kernel
theorem dX5_which_42 : decode cX5_which 42 = .ok (.getfield 23, 3) := by decide +kernel
theorem dX5_which_45 : decode cX5_which 45 = .ok (.getfield 136, 3) := by decide +kernel
theorem dX5_which_48 : decode cX5_which 48 = .ok (.bipush 12, 2) := by decide +kernel
theorem dX5_which_50 : decode cX5_which 50 = .ok (.iload_n 2, 1) := by decide +kernel
theorem dX5_which_51 : decode cX5_which 51 = .ok (.iadd, 1) := by decide +kernel
theorem dX5_which_52 : decode cX5_which 52 = .ok (.iconst 1, 1) := by decide +kernel
theorem dX5_which_53 : decode cX5_which 53 = .ok (.iastore, 1) := by decide +kernel
theorem dX5_which_54 : decode cX5_which 54 = .ok (.aload_n 0, 1) := by decide +kernel
theorem dX5_which_55 : decode cX5_which 55 = .ok (.getfield 52, 3) := by decide +kernel
theorem dX5_which_58 : decode cX5_which 58 = .ok (.aload_n 0, 1) := by decide +kernel
theorem dX5_which_59 : decode cX5_which 59 = .ok (.getfield 23, 3) := by decide +kernel
theorem dX5_which_62 : decode cX5_which 62 = .ok (.invokevirtual 183, 3) := by decide +kernel
theorem dX5_which_65 : decode cX5_which 65 = .ok (.ifCond .eq 9, 3) := by decide +kernel
theorem dX5_which_68 : decode cX5_which 68 = .ok (.iload_n 1, 1) := by decide +kernel
theorem dX5_which_69 : decode cX5_which 69 = .ok (.iconst 1, 1) := by decide +kernel
theorem dX5_which_70 : decode cX5_which 70 = .ok (.iload_n 2, 1) := by decide +kernel
theorem dX5_which_71 : decode cX5_which 71 = .ok (.ishl, 1) := by decide +kernel
theorem dX5_which_72 : decode cX5_which 72 = .ok (.ior, 1) := by decide +kernel
theorem dX5_which_73 : decode cX5_which 73 = .ok (.istore_n 1, 1) := by decide +kernel
theorem dX5_which_74 : decode cX5_which 74 = .ok (.iinc 2 1, 3) := by decide +kernel
theorem dX5_which_77 : decode cX5_which 77 = .ok (.goto (-73), 3) := by decide +kernel
theorem dX5_which_80 : decode cX5_which 80 = .ok (.iload_n 1, 1) := by decide +kernel
theorem dX5_which_81 : decode cX5_which 81 = .ok (.ireturn, 1) := by decide +kernel
theorem dX5_share_0 : decode cX5_share 0 = .ok (.aload_n 0, 1) := by decide +kernel
theorem dX5_share_1 : decode cX5_share 1 = .ok (.getfield 19, 3) := by decide +kernel
theorem dX5_share_4 : decode cX5_share 4 = .ok (.iload_n 1, 1) := by decide +kernel
theorem dX5_share_5 : decode cX5_share 5 = .ok (.invokevirtual 91, 3) := by decide +kernel
theorem dX5_share_8 : decode cX5_share 8 = .ok (.ifCond .ne 5, 3) := by decide +kernel
theorem dX5_share_11 : decode cX5_share 11 = .ok (.iconst (-1), 1) := by decide +kernel
theorem dX5_share_12 : decode cX5_share 12 = .ok (.ireturn, 1) := by decide +kernel
theorem dX5_share_13 : decode cX5_share 13 = .ok (.aload_n 0, 1) := by decide +kernel
theorem dX5_share_14 : decode cX5_share 14 = .ok (.getfield 19, 3) := by decide +kernel
theorem dX5_share_17 : decode cX5_share 17 = .ok (.invokevirtual 186, 3) := by decide +kernel
theorem dX5_share_20 : decode cX5_share 20 = .ok (.istore_n 3, 1) := by decide +kernel
theorem dX5_share_21 : decode cX5_share 21 = .ok (.aload_n 0, 1) := by decide +kernel
theorem dX5_share_22 : decode cX5_share 22 = .ok (.getfield 19, 3) := by decide +kernel
theorem dX5_share_25 : decode cX5_share 25 = .ok (.getfield 136, 3) := by decide +kernel
theorem dX5_share_28 : decode cX5_share 28 = .ok (.bipush 12, 2) := by decide +kernel
theorem dX5_share_30 : decode cX5_share 30 = .ok (.iload_n 1, 1) := by decide +kernel
theorem dX5_share_31 : decode cX5_share 31 = .ok (.iadd, 1) := by decide +kernel
theorem dX5_share_32 : decode cX5_share 32 = .ok (.iaload, 1) := by decide +kernel
theorem dX5_share_33 : decode cX5_share 33 = .ok (.ifCond .eq 9, 3) := by decide +kernel
theorem dX5_share_36 : decode cX5_share 36 = .ok (.iload_n 3, 1) := by decide +kernel
theorem dX5_share_37 : decode cX5_share 37 = .ok (.bipush 6, 2) := by decide +kernel
theorem dX5_share_39 : decode cX5_share 39 = .ok (.if_icmp .le 6, 3) := by decide +kernel
theorem dX5_share_42 : decode cX5_share 42 = .ok (.bipush (-3), 2) := by decide +kernel
theorem dX5_share_44 : decode cX5_share 44 = .ok (.ireturn, 1) := by decide +kernel
theorem dX5_share_45 : decode cX5_share 45 = .ok (.aload_n 0, 1) := by decide +kernel
theorem dX5_share_46 : decode cX5_share 46 = .ok (.iload_n 1, 1) := by decide +kernel
theorem dX5_share_47 : decode cX5_share 47 = .ok (.invokevirtual 189, 3) := by decide +kernel
theorem dX5_share_50 : decode cX5_share 50 = .ok (.istore 4, 2) := by decide +kernel
theorem dX5_share_52 : decode cX5_share 52 = .ok (.iconst 0, 1) := by decide +kernel
theorem dX5_share_53 : decode cX5_share 53 = .ok (.istore 5, 2) := by decide +kernel
theorem dX5_share_55 : decode cX5_share 55 = .ok (.iload 5, 2) := by decide +kernel
theorem dX5_share_57 : decode cX5_share 57 = .ok (.iconst 1, 1) := by decide +kernel
theorem dX5_share_58 : decode cX5_share 58 = .ok (.iload_n 3, 1) := by decide +kernel
theorem dX5_share_59 : decode cX5_share 59 = .ok (.ishl, 1) := by decide +kernel
theorem dX5_share_60 : decode cX5_share 60 = .ok (.if_icmp .ge 23, 3) := by decide +kernel
theorem dX5_share_63 : decode cX5_share 63 = .ok (.aload_n 0, 1) := by decide +kernel
theorem dX5_share_64 : decode cX5_share 64 = .ok (.getfield 63, 3) := by decide +kernel
theorem dX5_share_67 : decode cX5_share 67 = .ok (.iload 5, 2) := by decide +kernel
theorem dX5_share_69 : decode cX5_share 69 = .ok (.aload_n 0, 1) := by decide +kernel
theorem dX5_share_70 : decode cX5_share 70 = .ok (.iload 5, 2) := by decide +kernel
theorem dX5_share_72 : decode cX5_share 72 = .ok (.iload_n 3, 1) := by decide +kernel
theorem dX5_share_73 : decode cX5_share 73 = .ok (.invokevirtual 192, 3) := by decide +kernel
theorem dX5_share_76 : decode cX5_share 76 = .ok (.iastore, 1) := by decide +kernel
theorem dX5_share_77 : decode cX5_share 77 = .ok (.iinc 5 1, 3) := by decide +kernel
theorem dX5_share_80 : decode cX5_share 80 = .ok (.goto (-25), 3) := by decide +kernel
theorem dX5_share_83 : decode cX5_share 83 = .ok (.aload_n 0, 1) := by decide +kernel
theorem dX5_share_84 : decode cX5_share 84 = .ok (.iload 4, 2) := by decide +kernel
theorem dX5_share_86 : decode cX5_share 86 = .ok (.iload_n 3, 1) := by decide +kernel
theorem dX5_share_87 : decode cX5_share 87 = .ok (.invokevirtual 195, 3) := by decide +kernel
theorem dX5_share_90 : decode cX5_share 90 = .ok (.getstatic 198, 3) := by decide +kernel
theorem dX5_share_93 : decode cX5_share 93 = .ok (.iload_n 3, 1) := by decide +kernel
theorem dX5_share_94 : decode cX5_share 94 = .ok (.iaload, 1) := by decide +kernel
theorem dX5_share_95 : decode cX5_share 95 = .ok (.iload_n 2, 1) := by decide +kernel
theorem dX5_share_96 : decode cX5_share 96 = .ok (.invokestatic 201, 3) := by decide +kernel
theorem dX5_share_99 : decode cX5_share 99 = .ok (.ireturn, 1) := by decide +kernel
theorem dX5_shut_0 : decode cX5_shut 0 = .ok (.iload_n 1, 1) := by decide +kernel
theorem dX5_shut_1 : decode cX5_shut 1 = .ok (.iconst 1, 1) := by decide +kernel
theorem dX5_shut_2 : decode cX5_shut 2 = .ok (.if_icmp .lt 19, 3) := by decide +kernel
theorem dX5_shut_5 : decode cX5_shut 5 = .ok (.iload_n 1, 1) := by decide +kernel
theorem dX5_shut_6 : decode cX5_shut 6 = .ok (.bipush 8, 2) := by decide +kernel
theorem dX5_shut_8 : decode cX5_shut 8 = .ok (.if_icmp .gt 13, 3) := by decide +kernel
theorem dX5_shut_11 : decode cX5_shut 11 = .ok (.iload_n 2, 1) := by decide +kernel
theorem dX5_shut_12 : decode cX5_shut 12 = .ok (.ifCond .lt 9, 3) := by decide +kernel
theorem dX5_shut_15 : decode cX5_shut 15 = .ok (.iload_n 2, 1) := by decide +kernel
theorem dX5_shut_16 : decode cX5_shut 16 = .ok (.bipush 10, 2) := by decide +kernel
theorem dX5_shut_18 : decode cX5_shut 18 = .ok (.if_icmp .le 6, 3) := by decide +kernel
theorem dX5_shut_21 : decode cX5_shut 21 = .ok (.bipush (-2), 2) := by decide +kernel
theorem dX5_shut_23 : decode cX5_shut 23 = .ok (.ireturn, 1) := by decide +kernel
theorem dX5_shut_24 : decode cX5_shut 24 = .ok (.aload_n 0, 1) := by decide +kernel
theorem dX5_shut_25 : decode cX5_shut 25 = .ok (.getfield 23, 3) := by decide +kernel
theorem dX5_shut_28 : decode cX5_shut 28 = .ok (.aload_n 0, 1) := by decide +kernel
theorem dX5_shut_29 : decode cX5_shut 29 = .ok (.getfield 19, 3) := by decide +kernel
theorem dX5_shut_32 : decode cX5_shut 32 = .ok (.invokevirtual 154, 3) := by decide +kernel
theorem dX5_shut_35 : decode cX5_shut 35 = .ok (.aload_n 0, 1) := by decide +kernel
theorem dX5_shut_36 : decode cX5_shut 36 = .ok (.getfield 23, 3) := by decide +kernel
theorem dX5_shut_39 : decode cX5_shut 39 = .ok (.aload_n 0, 1) := by decide +kernel
theorem dX5_shut_40 : decode cX5_shut 40 = .ok (.getfield 46, 3) := by decide +kernel
theorem dX5_shut_43 : decode cX5_shut 43 = .ok (.iload_n 1, 1) := by decide +kernel
theorem dX5_shut_44 : decode cX5_shut 44 = .ok (.iload_n 2, 1) := by decide +kernel
theorem dX5_shut_45 : decode cX5_shut 45 = .ok (.invokestatic 205, 3) := by decide +kernel
theorem dX5_shut_48 : decode cX5_shut 48 = .ok (.iload_n 1, 1) := by decide +kernel
theorem dX5_shut_49 : decode cX5_shut 49 = .ok (.invokestatic 209, 3) := by decide +kernel
theorem dX5_shut_52 : decode cX5_shut 52 = .ok (.iload_n 3, 1) := by decide +kernel
theorem dX5_shut_53 : decode cX5_shut 53 = .ok (.invokestatic 201, 3) := by decide +kernel
theorem dX5_shut_56 : decode cX5_shut 56 = .ok (.ireturn, 1) := by decide +kernel
theorem dX5_seed_0 : decode cX5_seed 0 = .ok (.aload_n 0, 1) := by decide +kernel
theorem dX5_seed_1 : decode cX5_seed 1 = .ok (.getfield 66, 3) := by decide +kernel
theorem dX5_seed_4 : decode cX5_seed 4 = .ok (.lstore_n 3, 1) := by decide +kernel
theorem dX5_seed_5 : decode cX5_seed 5 = .ok (.aload_n 0, 1) := by decide +kernel
theorem dX5_seed_6 : decode cX5_seed 6 = .ok (.lload_n 1, 1) := by decide +kernel
theorem dX5_seed_7 : decode cX5_seed 7 = .ok (.putfield 66, 3) := by decide +kernel
theorem dX5_seed_10 : decode cX5_seed 10 = .ok (.lload_n 3, 1) := by decide +kernel
theorem dX5_seed_11 : decode cX5_seed 11 = .ok (.lreturn, 1) := by decide +kernel
theorem dX5_drawn_0 : decode cX5_drawn 0 = .ok (.iload_n 1, 1) := by decide +kernel
theorem dX5_drawn_1 : decode cX5_drawn 1 = .ok (.iconst 1, 1) := by decide +kernel
theorem dX5_drawn_2 : decode cX5_drawn 2 = .ok (.if_icmp .lt 9, 3) := by decide +kernel
theorem dX5_drawn_5 : decode cX5_drawn 5 = .ok (.iload_n 1, 1) := by decide +kernel
theorem dX5_drawn_6 : decode cX5_drawn 6 = .ok (.bipush 40, 2) := by decide +kernel
theorem dX5_drawn_8 : decode cX5_drawn 8 = .ok (.if_icmp .le 6, 3) := by decide +kernel
theorem dX5_drawn_11 : decode cX5_drawn 11 = .ok (.bipush (-2), 2) := by decide +kernel
theorem dX5_drawn_13 : decode cX5_drawn 13 = .ok (.ireturn, 1) := by decide +kernel
theorem dX5_drawn_14 : decode cX5_drawn 14 = .ok (.aload_n 0, 1) := by decide +kernel
theorem dX5_drawn_15 : decode cX5_drawn 15 = .ok (.getfield 23, 3) := by decide +kernel
theorem dX5_drawn_18 : decode cX5_drawn 18 = .ok (.aload_n 0, 1) := by decide +kernel
theorem dX5_drawn_19 : decode cX5_drawn 19 = .ok (.getfield 19, 3) := by decide +kernel
theorem dX5_drawn_22 : decode cX5_drawn 22 = .ok (.invokevirtual 154, 3) := by decide +kernel
theorem dX5_drawn_25 : decode cX5_drawn 25 = .ok (.iconst 0, 1) := by decide +kernel
theorem dX5_drawn_26 : decode cX5_drawn 26 = .ok (.istore_n 2, 1) := by decide +kernel
theorem dX5_drawn_27 : decode cX5_drawn 27 = .ok (.iload_n 2, 1) := by decide +kernel
theorem dX5_drawn_28 : decode cX5_drawn 28 = .ok (.iload_n 1, 1) := by decide +kernel
theorem dX5_drawn_29 : decode cX5_drawn 29 = .ok (.if_icmp .ge 70, 3) := by decide +kernel
theorem dX5_drawn_32 : decode cX5_drawn 32 = .ok (.aload_n 0, 1) := by decide +kernel
theorem dX5_drawn_33 : decode cX5_drawn 33 = .ok (.aload_n 0, 1) := by decide +kernel
theorem dX5_drawn_34 : decode cX5_drawn 34 = .ok (.getfield 66, 3) := by decide +kernel
theorem dX5_drawn_37 : decode cX5_drawn 37 = .ok (.ldc2_w 212, 3) := by decide +kernel
theorem dX5_drawn_40 : decode cX5_drawn 40 = .ok (.lmul, 1) := by decide +kernel
theorem dX5_drawn_41 : decode cX5_drawn 41 = .ok (.ldc2_w 214, 3) := by decide +kernel
theorem dX5_drawn_44 : decode cX5_drawn 44 = .ok (.ladd, 1) := by decide +kernel
theorem dX5_drawn_45 : decode cX5_drawn 45 = .ok (.putfield 66, 3) := by decide +kernel
theorem dX5_drawn_48 : decode cX5_drawn 48 = .ok (.aload_n 0, 1) := by decide +kernel
theorem dX5_drawn_49 : decode cX5_drawn 49 = .ok (.getfield 66, 3) := by decide +kernel
theorem dX5_drawn_52 : decode cX5_drawn 52 = .ok (.bipush 33, 2) := by decide +kernel
theorem dX5_drawn_54 : decode cX5_drawn 54 = .ok (.lushr, 1) := by decide +kernel
theorem dX5_drawn_55 : decode cX5_drawn 55 = .ok (.l2i, 1) := by decide +kernel
theorem dX5_drawn_56 : decode cX5_drawn 56 = .ok (.iconst 3, 1) := by decide +kernel
theorem dX5_drawn_57 : decode cX5_drawn 57 = .ok (.irem, 1) := by decide +kernel
theorem dX5_drawn_58 : decode cX5_drawn 58 = .ok (.istore_n 3, 1) := by decide +kernel
theorem dX5_drawn_59 : decode cX5_drawn 59 = .ok (.aload_n 0, 1) := by decide +kernel
theorem dX5_drawn_60 : decode cX5_drawn 60 = .ok (.getfield 23, 3) := by decide +kernel
theorem dX5_drawn_63 : decode cX5_drawn 63 = .ok (.iload_n 3, 1) := by decide +kernel
theorem dX5_drawn_64 : decode cX5_drawn 64 = .ok (.invokevirtual 108, 3) := by decide +kernel
theorem dX5_drawn_67 : decode cX5_drawn 67 = .ok (.ifCond .eq 19, 3) := by decide +kernel
theorem dX5_drawn_70 : decode cX5_drawn 70 = .ok (.aload_n 0, 1) := by decide +kernel
theorem dX5_drawn_71 : decode cX5_drawn 71 = .ok (.getfield 23, 3) := by decide +kernel
theorem dX5_drawn_74 : decode cX5_drawn 74 = .ok (.aload_n 0, 1) := by decide +kernel
theorem dX5_drawn_75 : decode cX5_drawn 75 = .ok (.getfield 23, 3) := by decide +kernel
theorem dX5_drawn_78 : decode cX5_drawn 78 = .ok (.iload_n 3, 1) := by decide +kernel
theorem dX5_drawn_79 : decode cX5_drawn 79 = .ok (.invokevirtual 101, 3) := by decide +kernel
theorem dX5_drawn_82 : decode cX5_drawn 82 = .ok (.invokevirtual 114, 3) := by decide +kernel
theorem dX5_drawn_85 : decode cX5_drawn 85 = .ok (.pop, 1) := by decide +kernel
theorem dX5_drawn_86 : decode cX5_drawn 86 = .ok (.aload_n 0, 1) := by decide +kernel
theorem dX5_drawn_87 : decode cX5_drawn 87 = .ok (.getfield 23, 3) := by decide +kernel
theorem dX5_drawn_90 : decode cX5_drawn 90 = .ok (.invokevirtual 163, 3) := by decide +kernel
theorem dX5_drawn_93 : decode cX5_drawn 93 = .ok (.iinc 2 1, 3) := by decide +kernel
theorem dX5_drawn_96 : decode cX5_drawn 96 = .ok (.goto (-69), 3) := by decide +kernel
theorem dX5_drawn_99 : decode cX5_drawn 99 = .ok (.aload_n 0, 1) := by decide +kernel
theorem dX5_drawn_100 : decode cX5_drawn 100 = .ok (.getfield 23, 3) := by decide +kernel
theorem dX5_drawn_103 : decode cX5_drawn 103 = .ok (.getfield 136, 3) := by decide +kernel
theorem dX5_drawn_106 : decode cX5_drawn 106 = .ok (.bipush 55, 2) := by decide +kernel
theorem dX5_drawn_108 : decode cX5_drawn 108 = .ok (.iaload, 1) := by decide +kernel
theorem dX5_drawn_109 : decode cX5_drawn 109 = .ok (.aload_n 0, 1) := by decide +kernel
theorem dX5_drawn_110 : decode cX5_drawn 110 = .ok (.getfield 19, 3) := by decide +kernel
theorem dX5_drawn_113 : decode cX5_drawn 113 = .ok (.getfield 136, 3) := by decide +kernel
theorem dX5_drawn_116 : decode cX5_drawn 116 = .ok (.bipush 55, 2) := by decide +kernel
theorem dX5_drawn_118 : decode cX5_drawn 118 = .ok (.iaload, 1) := by decide +kernel
theorem dX5_drawn_119 : decode cX5_drawn 119 = .ok (.isub, 1) := by decide +kernel
theorem dX5_drawn_120 : decode cX5_drawn 120 = .ok (.ireturn, 1) := by decide +kernel
theorem dX5_keep_0 : decode cX5_keep 0 = .ok (.iload_n 1, 1) := by decide +kernel
theorem dX5_keep_1 : decode cX5_keep 1 = .ok (.ifCond .lt 8, 3) := by decide +kernel
theorem dX5_keep_4 : decode cX5_keep 4 = .ok (.iload_n 1, 1) := by decide +kernel
theorem dX5_keep_5 : decode cX5_keep 5 = .ok (.iconst 2, 1) := by decide +kernel
theorem dX5_keep_6 : decode cX5_keep 6 = .ok (.if_icmp .lt 5, 3) := by decide +kernel
theorem dX5_keep_9 : decode cX5_keep 9 = .ok (.iconst (-1), 1) := by decide +kernel
theorem dX5_keep_10 : decode cX5_keep 10 = .ok (.ireturn, 1) := by decide +kernel
theorem dX5_keep_11 : decode cX5_keep 11 = .ok (.aload_n 0, 1) := by decide +kernel
theorem dX5_keep_12 : decode cX5_keep 12 = .ok (.getfield 38, 3) := by decide +kernel
theorem dX5_keep_15 : decode cX5_keep 15 = .ok (.iload_n 1, 1) := by decide +kernel
theorem dX5_keep_16 : decode cX5_keep 16 = .ok (.aload_n 0, 1) := by decide +kernel
theorem dX5_keep_17 : decode cX5_keep 17 = .ok (.getfield 19, 3) := by decide +kernel
theorem dX5_keep_20 : decode cX5_keep 20 = .ok (.invokevirtual 216, 3) := by decide +kernel
theorem dX5_keep_23 : decode cX5_keep 23 = .ok (.aload_n 0, 1) := by decide +kernel
theorem dX5_keep_24 : decode cX5_keep 24 = .ok (.dup, 1) := by decide +kernel
theorem dX5_keep_25 : decode cX5_keep 25 = .ok (.getfield 42, 3) := by decide +kernel
theorem dX5_keep_28 : decode cX5_keep 28 = .ok (.iconst 1, 1) := by decide +kernel
theorem dX5_keep_29 : decode cX5_keep 29 = .ok (.iload_n 1, 1) := by decide +kernel
theorem dX5_keep_30 : decode cX5_keep 30 = .ok (.ishl, 1) := by decide +kernel
theorem dX5_keep_31 : decode cX5_keep 31 = .ok (.ior, 1) := by decide +kernel
theorem dX5_keep_32 : decode cX5_keep 32 = .ok (.putfield 42, 3) := by decide +kernel
theorem dX5_keep_35 : decode cX5_keep 35 = .ok (.aload_n 0, 1) := by decide +kernel
theorem dX5_keep_36 : decode cX5_keep 36 = .ok (.getfield 19, 3) := by decide +kernel
theorem dX5_keep_39 : decode cX5_keep 39 = .ok (.getfield 136, 3) := by decide +kernel
theorem dX5_keep_42 : decode cX5_keep 42 = .ok (.bipush 56, 2) := by decide +kernel
theorem dX5_keep_44 : decode cX5_keep 44 = .ok (.iaload, 1) := by decide +kernel
theorem dX5_keep_45 : decode cX5_keep 45 = .ok (.ireturn, 1) := by decide +kernel
theorem dX5_again_0 : decode cX5_again 0 = .ok (.iload_n 1, 1) := by decide +kernel
theorem dX5_again_1 : decode cX5_again 1 = .ok (.ifCond .lt 8, 3) := by decide +kernel
theorem dX5_again_4 : decode cX5_again 4 = .ok (.iload_n 1, 1) := by decide +kernel
theorem dX5_again_5 : decode cX5_again 5 = .ok (.iconst 2, 1) := by decide +kernel
theorem dX5_again_6 : decode cX5_again 6 = .ok (.if_icmp .lt 5, 3) := by decide +kernel
theorem dX5_again_9 : decode cX5_again 9 = .ok (.iconst (-1), 1) := by decide +kernel
theorem dX5_again_10 : decode cX5_again 10 = .ok (.ireturn, 1) := by decide +kernel
theorem dX5_again_11 : decode cX5_again 11 = .ok (.aload_n 0, 1) := by decide +kernel
theorem dX5_again_12 : decode cX5_again 12 = .ok (.getfield 42, 3) := by decide +kernel
theorem dX5_again_15 : decode cX5_again 15 = .ok (.iload_n 1, 1) := by decide +kernel
theorem dX5_again_16 : decode cX5_again 16 = .ok (.invokestatic 220, 3) := by decide +kernel
theorem dX5_again_19 : decode cX5_again 19 = .ok (.ifCond .ne 6, 3) := by decide +kernel
theorem dX5_again_22 : decode cX5_again 22 = .ok (.bipush (-3), 2) := by decide +kernel
theorem dX5_again_24 : decode cX5_again 24 = .ok (.ireturn, 1) := by decide +kernel
theorem dX5_again_25 : decode cX5_again 25 = .ok (.aload_n 0, 1) := by decide +kernel
theorem dX5_again_26 : decode cX5_again 26 = .ok (.getfield 38, 3) := by decide +kernel
theorem dX5_again_29 : decode cX5_again 29 = .ok (.iload_n 1, 1) := by decide +kernel
theorem dX5_again_30 : decode cX5_again 30 = .ok (.aload_n 0, 1) := by decide +kernel
theorem dX5_again_31 : decode cX5_again 31 = .ok (.getfield 19, 3) := by decide +kernel
theorem dX5_again_34 : decode cX5_again 34 = .ok (.invokevirtual 224, 3) := by decide +kernel
theorem dX5_again_37 : decode cX5_again 37 = .ok (.aload_n 0, 1) := by decide +kernel
theorem dX5_again_38 : decode cX5_again 38 = .ok (.getfield 29, 3) := by decide +kernel
theorem dX5_again_41 : decode cX5_again 41 = .ok (.invokevirtual 85, 3) := by decide +kernel
theorem dX5_again_44 : decode cX5_again 44 = .ok (.aload_n 0, 1) := by decide +kernel
theorem dX5_again_45 : decode cX5_again 45 = .ok (.getfield 19, 3) := by decide +kernel
theorem dX5_again_48 : decode cX5_again 48 = .ok (.getfield 136, 3) := by decide +kernel
theorem dX5_again_51 : decode cX5_again 51 = .ok (.bipush 56, 2) := by decide +kernel
theorem dX5_again_53 : decode cX5_again 53 = .ok (.iaload, 1) := by decide +kernel
theorem dX5_again_54 : decode cX5_again 54 = .ok (.ireturn, 1) := by decide +kernel
theorem dX5_count_0 : decode cX5_count 0 = .ok (.iload_n 1, 1) := by decide +kernel
theorem dX5_count_1 : decode cX5_count 1 = .ok (.tableswitch 219 0 14 #[75, 83, 91, 99, 107, 118, 129, 140, 151, 162, 173, 181, 192, 203, 211], 75) := by decide +kernel
theorem dX5_count_76 : decode cX5_count 76 = .ok (.aload_n 0, 1) := by decide +kernel
theorem dX5_count_77 : decode cX5_count 77 = .ok (.getfield 10, 3) := by decide +kernel
theorem dX5_count_80 : decode cX5_count 80 = .ok (.getfield 74, 3) := by decide +kernel
theorem dX5_count_83 : decode cX5_count 83 = .ok (.ireturn, 1) := by decide +kernel
theorem dX5_count_84 : decode cX5_count 84 = .ok (.aload_n 0, 1) := by decide +kernel
theorem dX5_count_85 : decode cX5_count 85 = .ok (.getfield 19, 3) := by decide +kernel
theorem dX5_count_88 : decode cX5_count 88 = .ok (.getfield 227, 3) := by decide +kernel
theorem dX5_count_91 : decode cX5_count 91 = .ok (.ireturn, 1) := by decide +kernel
theorem dX5_count_92 : decode cX5_count 92 = .ok (.aload_n 0, 1) := by decide +kernel
theorem dX5_count_93 : decode cX5_count 93 = .ok (.getfield 19, 3) := by decide +kernel
theorem dX5_count_96 : decode cX5_count 96 = .ok (.getfield 230, 3) := by decide +kernel
theorem dX5_count_99 : decode cX5_count 99 = .ok (.ireturn, 1) := by decide +kernel
theorem dX5_count_100 : decode cX5_count 100 = .ok (.aload_n 0, 1) := by decide +kernel
theorem dX5_count_101 : decode cX5_count 101 = .ok (.getfield 19, 3) := by decide +kernel
theorem dX5_count_104 : decode cX5_count 104 = .ok (.getfield 233, 3) := by decide +kernel
theorem dX5_count_107 : decode cX5_count 107 = .ok (.ireturn, 1) := by decide +kernel
theorem dX5_count_108 : decode cX5_count 108 = .ok (.aload_n 0, 1) := by decide +kernel
theorem dX5_count_109 : decode cX5_count 109 = .ok (.getfield 19, 3) := by decide +kernel
theorem dX5_count_112 : decode cX5_count 112 = .ok (.getfield 136, 3) := by decide +kernel
theorem dX5_count_115 : decode cX5_count 115 = .ok (.bipush 51, 2) := by decide +kernel
theorem dX5_count_117 : decode cX5_count 117 = .ok (.iaload, 1) := by decide +kernel
theorem dX5_count_118 : decode cX5_count 118 = .ok (.ireturn, 1) := by decide +kernel
theorem dX5_count_119 : decode cX5_count 119 = .ok (.aload_n 0, 1) := by decide +kernel
theorem dX5_count_120 : decode cX5_count 120 = .ok (.getfield 19, 3) := by decide +kernel
theorem dX5_count_123 : decode cX5_count 123 = .ok (.getfield 136, 3) := by decide +kernel
theorem dX5_count_126 : decode cX5_count 126 = .ok (.bipush 52, 2) := by decide +kernel
theorem dX5_count_128 : decode cX5_count 128 = .ok (.iaload, 1) := by decide +kernel
theorem dX5_count_129 : decode cX5_count 129 = .ok (.ireturn, 1) := by decide +kernel
theorem dX5_count_130 : decode cX5_count 130 = .ok (.aload_n 0, 1) := by decide +kernel
theorem dX5_count_131 : decode cX5_count 131 = .ok (.getfield 19, 3) := by decide +kernel
theorem dX5_count_134 : decode cX5_count 134 = .ok (.getfield 136, 3) := by decide +kernel
theorem dX5_count_137 : decode cX5_count 137 = .ok (.bipush 50, 2) := by decide +kernel
theorem dX5_count_139 : decode cX5_count 139 = .ok (.iaload, 1) := by decide +kernel
theorem dX5_count_140 : decode cX5_count 140 = .ok (.ireturn, 1) := by decide +kernel
theorem dX5_count_141 : decode cX5_count 141 = .ok (.aload_n 0, 1) := by decide +kernel
theorem dX5_count_142 : decode cX5_count 142 = .ok (.getfield 19, 3) := by decide +kernel
theorem dX5_count_145 : decode cX5_count 145 = .ok (.getfield 136, 3) := by decide +kernel
theorem dX5_count_148 : decode cX5_count 148 = .ok (.bipush 56, 2) := by decide +kernel
theorem dX5_count_150 : decode cX5_count 150 = .ok (.iaload, 1) := by decide +kernel
theorem dX5_count_151 : decode cX5_count 151 = .ok (.ireturn, 1) := by decide +kernel
theorem dX5_count_152 : decode cX5_count 152 = .ok (.aload_n 0, 1) := by decide +kernel
theorem dX5_count_153 : decode cX5_count 153 = .ok (.getfield 19, 3) := by decide +kernel
theorem dX5_count_156 : decode cX5_count 156 = .ok (.getfield 136, 3) := by decide +kernel
theorem dX5_count_159 : decode cX5_count 159 = .ok (.bipush 54, 2) := by decide +kernel
theorem dX5_count_161 : decode cX5_count 161 = .ok (.iaload, 1) := by decide +kernel
theorem dX5_count_162 : decode cX5_count 162 = .ok (.ireturn, 1) := by decide +kernel
theorem dX5_count_163 : decode cX5_count 163 = .ok (.aload_n 0, 1) := by decide +kernel
theorem dX5_count_164 : decode cX5_count 164 = .ok (.getfield 19, 3) := by decide +kernel
theorem dX5_count_167 : decode cX5_count 167 = .ok (.getfield 136, 3) := by decide +kernel
theorem dX5_count_170 : decode cX5_count 170 = .ok (.bipush 55, 2) := by decide +kernel
theorem dX5_count_172 : decode cX5_count 172 = .ok (.iaload, 1) := by decide +kernel
theorem dX5_count_173 : decode cX5_count 173 = .ok (.ireturn, 1) := by decide +kernel
theorem dX5_count_174 : decode cX5_count 174 = .ok (.aload_n 0, 1) := by decide +kernel
theorem dX5_count_175 : decode cX5_count 175 = .ok (.getfield 19, 3) := by decide +kernel
theorem dX5_count_178 : decode cX5_count 178 = .ok (.invokevirtual 236, 3) := by decide +kernel
theorem dX5_count_181 : decode cX5_count 181 = .ok (.ireturn, 1) := by decide +kernel
theorem dX5_count_182 : decode cX5_count 182 = .ok (.aload_n 0, 1) := by decide +kernel
theorem dX5_count_183 : decode cX5_count 183 = .ok (.getfield 19, 3) := by decide +kernel
theorem dX5_count_186 : decode cX5_count 186 = .ok (.getfield 136, 3) := by decide +kernel
theorem dX5_count_189 : decode cX5_count 189 = .ok (.bipush 48, 2) := by decide +kernel
theorem dX5_count_191 : decode cX5_count 191 = .ok (.iaload, 1) := by decide +kernel
theorem dX5_count_192 : decode cX5_count 192 = .ok (.ireturn, 1) := by decide +kernel
theorem dX5_count_193 : decode cX5_count 193 = .ok (.aload_n 0, 1) := by decide +kernel
theorem dX5_count_194 : decode cX5_count 194 = .ok (.getfield 19, 3) := by decide +kernel
theorem dX5_count_197 : decode cX5_count 197 = .ok (.getfield 136, 3) := by decide +kernel
theorem dX5_count_200 : decode cX5_count 200 = .ok (.bipush 49, 2) := by decide +kernel
theorem dX5_count_202 : decode cX5_count 202 = .ok (.iaload, 1) := by decide +kernel
theorem dX5_count_203 : decode cX5_count 203 = .ok (.ireturn, 1) := by decide +kernel
theorem dX5_count_204 : decode cX5_count 204 = .ok (.aload_n 0, 1) := by decide +kernel
theorem dX5_count_205 : decode cX5_count 205 = .ok (.getfield 29, 3) := by decide +kernel
theorem dX5_count_208 : decode cX5_count 208 = .ok (.getfield 151, 3) := by decide +kernel
theorem dX5_count_211 : decode cX5_count 211 = .ok (.ireturn, 1) := by decide +kernel
theorem dX5_count_212 : decode cX5_count 212 = .ok (.aload_n 0, 1) := by decide +kernel
theorem dX5_count_213 : decode cX5_count 213 = .ok (.getfield 52, 3) := by decide +kernel
theorem dX5_count_216 : decode cX5_count 216 = .ok (.getfield 182, 3) := by decide +kernel
theorem dX5_count_219 : decode cX5_count 219 = .ok (.ireturn, 1) := by decide +kernel
theorem dX5_count_220 : decode cX5_count 220 = .ok (.bipush (-2), 2) := by decide +kernel
theorem dX5_count_222 : decode cX5_count 222 = .ok (.ireturn, 1) := by decide +kernel
theorem dX5_factOf_0 : decode cX5_factOf 0 = .ok (.iload_n 2, 1) := by decide +kernel
theorem dX5_factOf_1 : decode cX5_factOf 1 = .ok (.tableswitch 146 0 6 #[43, 65, 75, 92, 106, 126, 136], 43) := by decide +kernel
theorem dX5_factOf_44 : decode cX5_factOf 44 = .ok (.aload_n 0, 1) := by decide +kernel
theorem dX5_factOf_45 : decode cX5_factOf 45 = .ok (.iload_n 1, 1) := by decide +kernel
theorem dX5_factOf_46 : decode cX5_factOf 46 = .ok (.invokevirtual 105, 3) := by decide +kernel
theorem dX5_factOf_49 : decode cX5_factOf 49 = .ok (.ifCond .eq 14, 3) := by decide +kernel
theorem dX5_factOf_52 : decode cX5_factOf 52 = .ok (.aload_n 0, 1) := by decide +kernel
theorem dX5_factOf_53 : decode cX5_factOf 53 = .ok (.getfield 136, 3) := by decide +kernel
theorem dX5_factOf_56 : decode cX5_factOf 56 = .ok (.iconst 0, 1) := by decide +kernel
theorem dX5_factOf_57 : decode cX5_factOf 57 = .ok (.iload_n 1, 1) := by decide +kernel
theorem dX5_factOf_58 : decode cX5_factOf 58 = .ok (.iadd, 1) := by decide +kernel
theorem dX5_factOf_59 : decode cX5_factOf 59 = .ok (.iaload, 1) := by decide +kernel
theorem dX5_factOf_60 : decode cX5_factOf 60 = .ok (.goto 5, 3) := by decide +kernel
theorem dX5_factOf_63 : decode cX5_factOf 63 = .ok (.bipush (-9), 2) := by decide +kernel
theorem dX5_factOf_65 : decode cX5_factOf 65 = .ok (.ireturn, 1) := by decide +kernel
theorem dX5_factOf_66 : decode cX5_factOf 66 = .ok (.aload_n 0, 1) := by decide +kernel
theorem dX5_factOf_67 : decode cX5_factOf 67 = .ok (.getfield 136, 3) := by decide +kernel
theorem dX5_factOf_70 : decode cX5_factOf 70 = .ok (.bipush 12, 2) := by decide +kernel
theorem dX5_factOf_72 : decode cX5_factOf 72 = .ok (.iload_n 1, 1) := by decide +kernel
theorem dX5_factOf_73 : decode cX5_factOf 73 = .ok (.iadd, 1) := by decide +kernel
theorem dX5_factOf_74 : decode cX5_factOf 74 = .ok (.iaload, 1) := by decide +kernel
theorem dX5_factOf_75 : decode cX5_factOf 75 = .ok (.ireturn, 1) := by decide +kernel
theorem dX5_factOf_76 : decode cX5_factOf 76 = .ok (.aload_n 0, 1) := by decide +kernel
theorem dX5_factOf_77 : decode cX5_factOf 77 = .ok (.invokevirtual 239, 3) := by decide +kernel
theorem dX5_factOf_80 : decode cX5_factOf 80 = .ok (.iload_n 1, 1) := by decide +kernel
theorem dX5_factOf_81 : decode cX5_factOf 81 = .ok (.invokestatic 220, 3) := by decide +kernel
theorem dX5_factOf_84 : decode cX5_factOf 84 = .ok (.ifCond .eq 7, 3) := by decide +kernel
theorem dX5_factOf_87 : decode cX5_factOf 87 = .ok (.iconst 1, 1) := by decide +kernel
theorem dX5_factOf_88 : decode cX5_factOf 88 = .ok (.goto 4, 3) := by decide +kernel
theorem dX5_factOf_91 : decode cX5_factOf 91 = .ok (.iconst 0, 1) := by decide +kernel
theorem dX5_factOf_92 : decode cX5_factOf 92 = .ok (.ireturn, 1) := by decide +kernel
theorem dX5_factOf_93 : decode cX5_factOf 93 = .ok (.aload_n 0, 1) := by decide +kernel
theorem dX5_factOf_94 : decode cX5_factOf 94 = .ok (.iload_n 1, 1) := by decide +kernel
theorem dX5_factOf_95 : decode cX5_factOf 95 = .ok (.invokevirtual 130, 3) := by decide +kernel
theorem dX5_factOf_98 : decode cX5_factOf 98 = .ok (.ifCond .eq 7, 3) := by decide +kernel
theorem dX5_factOf_101 : decode cX5_factOf 101 = .ok (.iconst 1, 1) := by decide +kernel
theorem dX5_factOf_102 : decode cX5_factOf 102 = .ok (.goto 4, 3) := by decide +kernel
theorem dX5_factOf_105 : decode cX5_factOf 105 = .ok (.iconst 0, 1) := by decide +kernel
theorem dX5_factOf_106 : decode cX5_factOf 106 = .ok (.ireturn, 1) := by decide +kernel
theorem dX5_factOf_107 : decode cX5_factOf 107 = .ok (.aload_n 0, 1) := by decide +kernel
theorem dX5_factOf_108 : decode cX5_factOf 108 = .ok (.getfield 136, 3) := by decide +kernel
theorem dX5_factOf_111 : decode cX5_factOf 111 = .ok (.bipush 49, 2) := by decide +kernel
theorem dX5_factOf_113 : decode cX5_factOf 113 = .ok (.iaload, 1) := by decide +kernel
theorem dX5_factOf_114 : decode cX5_factOf 114 = .ok (.iload_n 1, 1) := by decide +kernel
theorem dX5_factOf_115 : decode cX5_factOf 115 = .ok (.invokestatic 220, 3) := by decide +kernel
theorem dX5_factOf_118 : decode cX5_factOf 118 = .ok (.ifCond .eq 7, 3) := by decide +kernel
theorem dX5_factOf_121 : decode cX5_factOf 121 = .ok (.iconst 1, 1) := by decide +kernel
theorem dX5_factOf_122 : decode cX5_factOf 122 = .ok (.goto 4, 3) := by decide +kernel
theorem dX5_factOf_125 : decode cX5_factOf 125 = .ok (.iconst 0, 1) := by decide +kernel
theorem dX5_factOf_126 : decode cX5_factOf 126 = .ok (.ireturn, 1) := by decide +kernel
theorem dX5_factOf_127 : decode cX5_factOf 127 = .ok (.aload_n 0, 1) := by decide +kernel
theorem dX5_factOf_128 : decode cX5_factOf 128 = .ok (.getfield 136, 3) := by decide +kernel
theorem dX5_factOf_131 : decode cX5_factOf 131 = .ok (.bipush 24, 2) := by decide +kernel
theorem dX5_factOf_133 : decode cX5_factOf 133 = .ok (.iload_n 1, 1) := by decide +kernel
theorem dX5_factOf_134 : decode cX5_factOf 134 = .ok (.iadd, 1) := by decide +kernel
theorem dX5_factOf_135 : decode cX5_factOf 135 = .ok (.iaload, 1) := by decide +kernel
theorem dX5_factOf_136 : decode cX5_factOf 136 = .ok (.ireturn, 1) := by decide +kernel
theorem dX5_factOf_137 : decode cX5_factOf 137 = .ok (.aload_n 0, 1) := by decide +kernel
theorem dX5_factOf_138 : decode cX5_factOf 138 = .ok (.getfield 136, 3) := by decide +kernel
theorem dX5_factOf_141 : decode cX5_factOf 141 = .ok (.bipush 36, 2) := by decide +kernel
theorem dX5_factOf_143 : decode cX5_factOf 143 = .ok (.iload_n 1, 1) := by decide +kernel
theorem dX5_factOf_144 : decode cX5_factOf 144 = .ok (.iadd, 1) := by decide +kernel
theorem dX5_factOf_145 : decode cX5_factOf 145 = .ok (.iaload, 1) := by decide +kernel
theorem dX5_factOf_146 : decode cX5_factOf 146 = .ok (.ireturn, 1) := by decide +kernel
theorem dX5_factOf_147 : decode cX5_factOf 147 = .ok (.bipush (-2), 2) := by decide +kernel
theorem dX5_factOf_149 : decode cX5_factOf 149 = .ok (.ireturn, 1) := by decide +kernel
theorem dX5_stepsTillEmpty_0 : decode cX5_stepsTillEmpty 0 = .ok (.iconst 0, 1) := by decide +kernel
theorem dX5_stepsTillEmpty_1 : decode cX5_stepsTillEmpty 1 = .ok (.istore_n 1, 1) := by decide +kernel
theorem dX5_stepsTillEmpty_2 : decode cX5_stepsTillEmpty 2 = .ok (.iload_n 1, 1) := by decide +kernel
theorem dX5_stepsTillEmpty_3 : decode cX5_stepsTillEmpty 3 = .ok (.bipush 60, 2) := by decide +kernel
theorem dX5_stepsTillEmpty_5 : decode cX5_stepsTillEmpty 5 = .ok (.if_icmp .ge 28, 3) := by decide +kernel
theorem dX5_stepsTillEmpty_8 : decode cX5_stepsTillEmpty 8 = .ok (.aload_n 0, 1) := by decide +kernel
theorem dX5_stepsTillEmpty_9 : decode cX5_stepsTillEmpty 9 = .ok (.getfield 23, 3) := by decide +kernel
theorem dX5_stepsTillEmpty_12 : decode cX5_stepsTillEmpty 12 = .ok (.invokevirtual 236, 3) := by decide +kernel
theorem dX5_stepsTillEmpty_15 : decode cX5_stepsTillEmpty 15 = .ok (.ifCond .ne 5, 3) := by decide +kernel
theorem dX5_stepsTillEmpty_18 : decode cX5_stepsTillEmpty 18 = .ok (.iload_n 1, 1) := by decide +kernel
theorem dX5_stepsTillEmpty_19 : decode cX5_stepsTillEmpty 19 = .ok (.ireturn, 1) := by decide +kernel
theorem dX5_stepsTillEmpty_20 : decode cX5_stepsTillEmpty 20 = .ok (.aload_n 0, 1) := by decide +kernel
theorem dX5_stepsTillEmpty_21 : decode cX5_stepsTillEmpty 21 = .ok (.getfield 23, 3) := by decide +kernel
theorem dX5_stepsTillEmpty_24 : decode cX5_stepsTillEmpty 24 = .ok (.invokevirtual 163, 3) := by decide +kernel
theorem dX5_stepsTillEmpty_27 : decode cX5_stepsTillEmpty 27 = .ok (.iinc 1 1, 3) := by decide +kernel
theorem dX5_stepsTillEmpty_30 : decode cX5_stepsTillEmpty 30 = .ok (.goto (-28), 3) := by decide +kernel
theorem dX5_stepsTillEmpty_33 : decode cX5_stepsTillEmpty 33 = .ok (.aload_n 0, 1) := by decide +kernel
theorem dX5_stepsTillEmpty_34 : decode cX5_stepsTillEmpty 34 = .ok (.getfield 23, 3) := by decide +kernel
theorem dX5_stepsTillEmpty_37 : decode cX5_stepsTillEmpty 37 = .ok (.invokevirtual 236, 3) := by decide +kernel
theorem dX5_stepsTillEmpty_40 : decode cX5_stepsTillEmpty 40 = .ok (.ifCond .ne 8, 3) := by decide +kernel
theorem dX5_stepsTillEmpty_43 : decode cX5_stepsTillEmpty 43 = .ok (.bipush 60, 2) := by decide +kernel
theorem dX5_stepsTillEmpty_45 : decode cX5_stepsTillEmpty 45 = .ok (.goto 5, 3) := by decide +kernel
theorem dX5_stepsTillEmpty_48 : decode cX5_stepsTillEmpty 48 = .ok (.bipush (-9), 2) := by decide +kernel
theorem dX5_stepsTillEmpty_50 : decode cX5_stepsTillEmpty 50 = .ok (.ireturn, 1) := by decide +kernel
theorem dX5_bestRest_0 : decode cX5_bestRest 0 = .ok (.iconst 0, 1) := by decide +kernel
theorem dX5_bestRest_1 : decode cX5_bestRest 1 = .ok (.istore_n 1, 1) := by decide +kernel
theorem dX5_bestRest_2 : decode cX5_bestRest 2 = .ok (.bipush 61, 2) := by decide +kernel
theorem dX5_bestRest_4 : decode cX5_bestRest 4 = .ok (.istore_n 2, 1) := by decide +kernel
theorem dX5_bestRest_5 : decode cX5_bestRest 5 = .ok (.iconst 0, 1) := by decide +kernel
theorem dX5_bestRest_6 : decode cX5_bestRest 6 = .ok (.istore_n 3, 1) := by decide +kernel
theorem dX5_bestRest_7 : decode cX5_bestRest 7 = .ok (.iload_n 3, 1) := by decide +kernel
theorem dX5_bestRest_8 : decode cX5_bestRest 8 = .ok (.bipush 9, 2) := by decide +kernel
theorem dX5_bestRest_10 : decode cX5_bestRest 10 = .ok (.if_icmp .gt 55, 3) := by decide +kernel
theorem dX5_bestRest_13 : decode cX5_bestRest 13 = .ok (.aload_n 0, 1) := by decide +kernel
theorem dX5_bestRest_14 : decode cX5_bestRest 14 = .ok (.getfield 23, 3) := by decide +kernel
theorem dX5_bestRest_17 : decode cX5_bestRest 17 = .ok (.aload_n 0, 1) := by decide +kernel
theorem dX5_bestRest_18 : decode cX5_bestRest 18 = .ok (.getfield 19, 3) := by decide +kernel
theorem dX5_bestRest_21 : decode cX5_bestRest 21 = .ok (.invokevirtual 154, 3) := by decide +kernel
theorem dX5_bestRest_24 : decode cX5_bestRest 24 = .ok (.aload_n 0, 1) := by decide +kernel
theorem dX5_bestRest_25 : decode cX5_bestRest 25 = .ok (.getfield 23, 3) := by decide +kernel
theorem dX5_bestRest_28 : decode cX5_bestRest 28 = .ok (.getfield 136, 3) := by decide +kernel
theorem dX5_bestRest_31 : decode cX5_bestRest 31 = .ok (.bipush 52, 2) := by decide +kernel
theorem dX5_bestRest_33 : decode cX5_bestRest 33 = .ok (.iload_n 3, 1) := by decide +kernel
theorem dX5_bestRest_34 : decode cX5_bestRest 34 = .ok (.iastore, 1) := by decide +kernel
theorem dX5_bestRest_35 : decode cX5_bestRest 35 = .ok (.aload_n 0, 1) := by decide +kernel
theorem dX5_bestRest_36 : decode cX5_bestRest 36 = .ok (.invokevirtual 157, 3) := by decide +kernel
theorem dX5_bestRest_39 : decode cX5_bestRest 39 = .ok (.istore 4, 2) := by decide +kernel
theorem dX5_bestRest_41 : decode cX5_bestRest 41 = .ok (.iload 4, 2) := by decide +kernel
theorem dX5_bestRest_43 : decode cX5_bestRest 43 = .ok (.bipush (-9), 2) := by decide +kernel
theorem dX5_bestRest_45 : decode cX5_bestRest 45 = .ok (.if_icmp .eq 14, 3) := by decide +kernel
theorem dX5_bestRest_48 : decode cX5_bestRest 48 = .ok (.iload 4, 2) := by decide +kernel
theorem dX5_bestRest_50 : decode cX5_bestRest 50 = .ok (.iload_n 2, 1) := by decide +kernel
theorem dX5_bestRest_51 : decode cX5_bestRest 51 = .ok (.if_icmp .ge 8, 3) := by decide +kernel
theorem dX5_bestRest_54 : decode cX5_bestRest 54 = .ok (.iload 4, 2) := by decide +kernel
theorem dX5_bestRest_56 : decode cX5_bestRest 56 = .ok (.istore_n 2, 1) := by decide +kernel
theorem dX5_bestRest_57 : decode cX5_bestRest 57 = .ok (.iload_n 3, 1) := by decide +kernel
theorem dX5_bestRest_58 : decode cX5_bestRest 58 = .ok (.istore_n 1, 1) := by decide +kernel
theorem dX5_bestRest_59 : decode cX5_bestRest 59 = .ok (.iinc 3 1, 3) := by decide +kernel
theorem dX5_bestRest_62 : decode cX5_bestRest 62 = .ok (.goto (-55), 3) := by decide +kernel
theorem dX5_bestRest_65 : decode cX5_bestRest 65 = .ok (.iload_n 1, 1) := by decide +kernel
theorem dX5_bestRest_66 : decode cX5_bestRest 66 = .ok (.ireturn, 1) := by decide +kernel
theorem dX5_holds_0 : decode cX5_holds 0 = .ok (.iload_n 1, 1) := by decide +kernel
theorem dX5_holds_1 : decode cX5_holds 1 = .ok (.bipush 100, 2) := by decide +kernel
theorem dX5_holds_3 : decode cX5_holds 3 = .ok (.idiv, 1) := by decide +kernel
theorem dX5_holds_4 : decode cX5_holds 4 = .ok (.istore_n 2, 1) := by decide +kernel
theorem dX5_holds_5 : decode cX5_holds 5 = .ok (.iload_n 1, 1) := by decide +kernel
theorem dX5_holds_6 : decode cX5_holds 6 = .ok (.bipush 10, 2) := by decide +kernel
theorem dX5_holds_8 : decode cX5_holds 8 = .ok (.idiv, 1) := by decide +kernel
theorem dX5_holds_9 : decode cX5_holds 9 = .ok (.bipush 10, 2) := by decide +kernel
theorem dX5_holds_11 : decode cX5_holds 11 = .ok (.irem, 1) := by decide +kernel
theorem dX5_holds_12 : decode cX5_holds 12 = .ok (.istore_n 3, 1) := by decide +kernel
theorem dX5_holds_13 : decode cX5_holds 13 = .ok (.iload_n 1, 1) := by decide +kernel
theorem dX5_holds_14 : decode cX5_holds 14 = .ok (.bipush 10, 2) := by decide +kernel
theorem dX5_holds_16 : decode cX5_holds 16 = .ok (.irem, 1) := by decide +kernel
theorem dX5_holds_17 : decode cX5_holds 17 = .ok (.istore 4, 2) := by decide +kernel
theorem dX5_holds_19 : decode cX5_holds 19 = .ok (.iload_n 2, 1) := by decide +kernel
theorem dX5_holds_20 : decode cX5_holds 20 = .ok (.tableswitch 218 1 8 #[48, 69, 88, 107, 126, 134, 166, 186], 48) := by decide +kernel
theorem dX5_holds_68 : decode cX5_holds 68 = .ok (.aload_n 0, 1) := by decide +kernel
theorem dX5_holds_69 : decode cX5_holds 69 = .ok (.iload_n 1, 1) := by decide +kernel
theorem dX5_holds_70 : decode cX5_holds 70 = .ok (.bipush 100, 2) := by decide +kernel
theorem dX5_holds_72 : decode cX5_holds 72 = .ok (.irem, 1) := by decide +kernel
theorem dX5_holds_73 : decode cX5_holds 73 = .ok (.invokevirtual 144, 3) := by decide +kernel
theorem dX5_holds_76 : decode cX5_holds 76 = .ok (.iload_n 1, 1) := by decide +kernel
theorem dX5_holds_77 : decode cX5_holds 77 = .ok (.bipush 100, 2) := by decide +kernel
theorem dX5_holds_79 : decode cX5_holds 79 = .ok (.irem, 1) := by decide +kernel
theorem dX5_holds_80 : decode cX5_holds 80 = .ok (.ifCond .le 7, 3) := by decide +kernel
theorem dX5_holds_83 : decode cX5_holds 83 = .ok (.iconst 1, 1) := by decide +kernel
theorem dX5_holds_84 : decode cX5_holds 84 = .ok (.goto 4, 3) := by decide +kernel
theorem dX5_holds_87 : decode cX5_holds 87 = .ok (.iconst 0, 1) := by decide +kernel
theorem dX5_holds_88 : decode cX5_holds 88 = .ok (.ireturn, 1) := by decide +kernel
theorem dX5_holds_89 : decode cX5_holds 89 = .ok (.iload_n 3, 1) := by decide +kernel
theorem dX5_holds_90 : decode cX5_holds 90 = .ok (.ifCond .ne 16, 3) := by decide +kernel
theorem dX5_holds_93 : decode cX5_holds 93 = .ok (.aload_n 0, 1) := by decide +kernel
theorem dX5_holds_94 : decode cX5_holds 94 = .ok (.iload 4, 2) := by decide +kernel
theorem dX5_holds_96 : decode cX5_holds 96 = .ok (.invokestatic 242, 3) := by decide +kernel
theorem dX5_holds_99 : decode cX5_holds 99 = .ok (.ifCond .eq 7, 3) := by decide +kernel
theorem dX5_holds_102 : decode cX5_holds 102 = .ok (.iconst 1, 1) := by decide +kernel
theorem dX5_holds_103 : decode cX5_holds 103 = .ok (.goto 4, 3) := by decide +kernel
theorem dX5_holds_106 : decode cX5_holds 106 = .ok (.iconst 0, 1) := by decide +kernel
theorem dX5_holds_107 : decode cX5_holds 107 = .ok (.ireturn, 1) := by decide +kernel
theorem dX5_holds_108 : decode cX5_holds 108 = .ok (.iload_n 3, 1) := by decide +kernel
theorem dX5_holds_109 : decode cX5_holds 109 = .ok (.ifCond .ne 16, 3) := by decide +kernel
theorem dX5_holds_112 : decode cX5_holds 112 = .ok (.aload_n 0, 1) := by decide +kernel
theorem dX5_holds_113 : decode cX5_holds 113 = .ok (.iload 4, 2) := by decide +kernel
theorem dX5_holds_115 : decode cX5_holds 115 = .ok (.invokestatic 245, 3) := by decide +kernel
theorem dX5_holds_118 : decode cX5_holds 118 = .ok (.ifCond .eq 7, 3) := by decide +kernel
theorem dX5_holds_121 : decode cX5_holds 121 = .ok (.iconst 1, 1) := by decide +kernel
theorem dX5_holds_122 : decode cX5_holds 122 = .ok (.goto 4, 3) := by decide +kernel
theorem dX5_holds_125 : decode cX5_holds 125 = .ok (.iconst 0, 1) := by decide +kernel
theorem dX5_holds_126 : decode cX5_holds 126 = .ok (.ireturn, 1) := by decide +kernel
theorem dX5_holds_127 : decode cX5_holds 127 = .ok (.iload_n 3, 1) := by decide +kernel
theorem dX5_holds_128 : decode cX5_holds 128 = .ok (.ifCond .ne 16, 3) := by decide +kernel
theorem dX5_holds_131 : decode cX5_holds 131 = .ok (.aload_n 0, 1) := by decide +kernel
theorem dX5_holds_132 : decode cX5_holds 132 = .ok (.iload 4, 2) := by decide +kernel
theorem dX5_holds_134 : decode cX5_holds 134 = .ok (.invokestatic 248, 3) := by decide +kernel
theorem dX5_holds_137 : decode cX5_holds 137 = .ok (.ifCond .eq 7, 3) := by decide +kernel
theorem dX5_holds_140 : decode cX5_holds 140 = .ok (.iconst 1, 1) := by decide +kernel
theorem dX5_holds_141 : decode cX5_holds 141 = .ok (.goto 4, 3) := by decide +kernel
theorem dX5_holds_144 : decode cX5_holds 144 = .ok (.iconst 0, 1) := by decide +kernel
theorem dX5_holds_145 : decode cX5_holds 145 = .ok (.ireturn, 1) := by decide +kernel
theorem dX5_holds_146 : decode cX5_holds 146 = .ok (.aload_n 0, 1) := by decide +kernel
theorem dX5_holds_147 : decode cX5_holds 147 = .ok (.iload_n 3, 1) := by decide +kernel
theorem dX5_holds_148 : decode cX5_holds 148 = .ok (.iload 4, 2) := by decide +kernel
theorem dX5_holds_150 : decode cX5_holds 150 = .ok (.invokestatic 251, 3) := by decide +kernel
theorem dX5_holds_153 : decode cX5_holds 153 = .ok (.ireturn, 1) := by decide +kernel
theorem dX5_holds_154 : decode cX5_holds 154 = .ok (.aload_n 0, 1) := by decide +kernel
theorem dX5_holds_155 : decode cX5_holds 155 = .ok (.iload_n 3, 1) := by decide +kernel
theorem dX5_holds_156 : decode cX5_holds 156 = .ok (.invokevirtual 91, 3) := by decide +kernel
theorem dX5_holds_159 : decode cX5_holds 159 = .ok (.ifCond .eq 25, 3) := by decide +kernel
theorem dX5_holds_162 : decode cX5_holds 162 = .ok (.iload 4, 2) := by decide +kernel
theorem dX5_holds_164 : decode cX5_holds 164 = .ok (.aload_n 0, 1) := by decide +kernel
theorem dX5_holds_165 : decode cX5_holds 165 = .ok (.iload_n 3, 1) := by decide +kernel
theorem dX5_holds_166 : decode cX5_holds 166 = .ok (.invokevirtual 105, 3) := by decide +kernel
theorem dX5_holds_169 : decode cX5_holds 169 = .ok (.ifCond .eq 7, 3) := by decide +kernel
theorem dX5_holds_172 : decode cX5_holds 172 = .ok (.iconst 1, 1) := by decide +kernel
theorem dX5_holds_173 : decode cX5_holds 173 = .ok (.goto 4, 3) := by decide +kernel
theorem dX5_holds_176 : decode cX5_holds 176 = .ok (.iconst 0, 1) := by decide +kernel
theorem dX5_holds_177 : decode cX5_holds 177 = .ok (.if_icmp .ne 7, 3) := by decide +kernel
theorem dX5_holds_180 : decode cX5_holds 180 = .ok (.iconst 1, 1) := by decide +kernel
theorem dX5_holds_181 : decode cX5_holds 181 = .ok (.goto 4, 3) := by decide +kernel
theorem dX5_holds_184 : decode cX5_holds 184 = .ok (.iconst 0, 1) := by decide +kernel
theorem dX5_holds_185 : decode cX5_holds 185 = .ok (.ireturn, 1) := by decide +kernel
theorem dX5_holds_186 : decode cX5_holds 186 = .ok (.aload_n 0, 1) := by decide +kernel
theorem dX5_holds_187 : decode cX5_holds 187 = .ok (.getfield 136, 3) := by decide +kernel
theorem dX5_holds_190 : decode cX5_holds 190 = .ok (.bipush 55, 2) := by decide +kernel
theorem dX5_holds_192 : decode cX5_holds 192 = .ok (.iaload, 1) := by decide +kernel
theorem dX5_holds_193 : decode cX5_holds 193 = .ok (.iload_n 1, 1) := by decide +kernel
theorem dX5_holds_194 : decode cX5_holds 194 = .ok (.bipush 100, 2) := by decide +kernel
theorem dX5_holds_196 : decode cX5_holds 196 = .ok (.irem, 1) := by decide +kernel
theorem dX5_holds_197 : decode cX5_holds 197 = .ok (.if_icmp .ne 7, 3) := by decide +kernel
theorem dX5_holds_200 : decode cX5_holds 200 = .ok (.iconst 1, 1) := by decide +kernel
theorem dX5_holds_201 : decode cX5_holds 201 = .ok (.goto 4, 3) := by decide +kernel
theorem dX5_holds_204 : decode cX5_holds 204 = .ok (.iconst 0, 1) := by decide +kernel
theorem dX5_holds_205 : decode cX5_holds 205 = .ok (.ireturn, 1) := by decide +kernel
theorem dX5_holds_206 : decode cX5_holds 206 = .ok (.aload_n 0, 1) := by decide +kernel
theorem dX5_holds_207 : decode cX5_holds 207 = .ok (.iload_n 3, 1) := by decide +kernel
theorem dX5_holds_208 : decode cX5_holds 208 = .ok (.invokevirtual 91, 3) := by decide +kernel
theorem dX5_holds_211 : decode cX5_holds 211 = .ok (.ifCond .eq 25, 3) := by decide +kernel
theorem dX5_holds_214 : decode cX5_holds 214 = .ok (.iload 4, 2) := by decide +kernel
theorem dX5_holds_216 : decode cX5_holds 216 = .ok (.aload_n 0, 1) := by decide +kernel
theorem dX5_holds_217 : decode cX5_holds 217 = .ok (.iload_n 3, 1) := by decide +kernel
theorem dX5_holds_218 : decode cX5_holds 218 = .ok (.invokevirtual 130, 3) := by decide +kernel
theorem dX5_holds_221 : decode cX5_holds 221 = .ok (.ifCond .eq 7, 3) := by decide +kernel
theorem dX5_holds_224 : decode cX5_holds 224 = .ok (.iconst 1, 1) := by decide +kernel
theorem dX5_holds_225 : decode cX5_holds 225 = .ok (.goto 4, 3) := by decide +kernel
theorem dX5_holds_228 : decode cX5_holds 228 = .ok (.iconst 0, 1) := by decide +kernel
theorem dX5_holds_229 : decode cX5_holds 229 = .ok (.if_icmp .ne 7, 3) := by decide +kernel
theorem dX5_holds_232 : decode cX5_holds 232 = .ok (.iconst 1, 1) := by decide +kernel
theorem dX5_holds_233 : decode cX5_holds 233 = .ok (.goto 4, 3) := by decide +kernel
theorem dX5_holds_236 : decode cX5_holds 236 = .ok (.iconst 0, 1) := by decide +kernel
theorem dX5_holds_237 : decode cX5_holds 237 = .ok (.ireturn, 1) := by decide +kernel
theorem dX5_holds_238 : decode cX5_holds 238 = .ok (.iconst 0, 1) := by decide +kernel
theorem dX5_holds_239 : decode cX5_holds 239 = .ok (.ireturn, 1) := by decide +kernel
theorem dX5_turnTold_0 : decode cX5_turnTold 0 = .ok (.iload_n 1, 1) := by decide +kernel
theorem dX5_turnTold_1 : decode cX5_turnTold 1 = .ok (.ifCond .eq 5, 3) := by decide +kernel
theorem dX5_turnTold_4 : decode cX5_turnTold 4 = .ok (.iconst 0, 1) := by decide +kernel
theorem dX5_turnTold_5 : decode cX5_turnTold 5 = .ok (.ireturn, 1) := by decide +kernel
theorem dX5_turnTold_6 : decode cX5_turnTold 6 = .ok (.aload_n 0, 1) := by decide +kernel
theorem dX5_turnTold_7 : decode cX5_turnTold 7 = .ok (.invokevirtual 120, 3) := by decide +kernel
theorem dX5_turnTold_10 : decode cX5_turnTold 10 = .ok (.pop, 1) := by decide +kernel
theorem dX5_turnTold_11 : decode cX5_turnTold 11 = .ok (.iconst 1, 1) := by decide +kernel
theorem dX5_turnTold_12 : decode cX5_turnTold 12 = .ok (.ireturn, 1) := by decide +kernel
theorem dX5_feedTold_0 : decode cX5_feedTold 0 = .ok (.aload_n 0, 1) := by decide +kernel
theorem dX5_feedTold_1 : decode cX5_feedTold 1 = .ok (.iload_n 1, 1) := by decide +kernel
theorem dX5_feedTold_2 : decode cX5_feedTold 2 = .ok (.invokevirtual 108, 3) := by decide +kernel
theorem dX5_feedTold_5 : decode cX5_feedTold 5 = .ok (.ifCond .ne 5, 3) := by decide +kernel
theorem dX5_feedTold_8 : decode cX5_feedTold 8 = .ok (.iconst 0, 1) := by decide +kernel
theorem dX5_feedTold_9 : decode cX5_feedTold 9 = .ok (.ireturn, 1) := by decide +kernel
theorem dX5_feedTold_10 : decode cX5_feedTold 10 = .ok (.aload_n 0, 1) := by decide +kernel
theorem dX5_feedTold_11 : decode cX5_feedTold 11 = .ok (.aload_n 0, 1) := by decide +kernel
theorem dX5_feedTold_12 : decode cX5_feedTold 12 = .ok (.iload_n 1, 1) := by decide +kernel
theorem dX5_feedTold_13 : decode cX5_feedTold 13 = .ok (.invokevirtual 101, 3) := by decide +kernel
theorem dX5_feedTold_16 : decode cX5_feedTold 16 = .ok (.invokevirtual 114, 3) := by decide +kernel
theorem dX5_feedTold_19 : decode cX5_feedTold 19 = .ok (.pop, 1) := by decide +kernel
theorem dX5_feedTold_20 : decode cX5_feedTold 20 = .ok (.iconst 1, 1) := by decide +kernel
theorem dX5_feedTold_21 : decode cX5_feedTold 21 = .ok (.ireturn, 1) := by decide +kernel
theorem dX5_liftTold_0 : decode cX5_liftTold 0 = .ok (.aload_n 0, 1) := by decide +kernel
theorem dX5_liftTold_1 : decode cX5_liftTold 1 = .ok (.iload_n 1, 1) := by decide +kernel
theorem dX5_liftTold_2 : decode cX5_liftTold 2 = .ok (.invokevirtual 91, 3) := by decide +kernel
theorem dX5_liftTold_5 : decode cX5_liftTold 5 = .ok (.ifCond .eq 11, 3) := by decide +kernel
theorem dX5_liftTold_8 : decode cX5_liftTold 8 = .ok (.aload_n 0, 1) := by decide +kernel
theorem dX5_liftTold_9 : decode cX5_liftTold 9 = .ok (.iload_n 1, 1) := by decide +kernel
theorem dX5_liftTold_10 : decode cX5_liftTold 10 = .ok (.invokevirtual 105, 3) := by decide +kernel
theorem dX5_liftTold_13 : decode cX5_liftTold 13 = .ok (.ifCond .ne 5, 3) := by decide +kernel
theorem dX5_liftTold_16 : decode cX5_liftTold 16 = .ok (.iconst 0, 1) := by decide +kernel
theorem dX5_liftTold_17 : decode cX5_liftTold 17 = .ok (.ireturn, 1) := by decide +kernel
theorem dX5_liftTold_18 : decode cX5_liftTold 18 = .ok (.aload_n 0, 1) := by decide +kernel
theorem dX5_liftTold_19 : decode cX5_liftTold 19 = .ok (.iload_n 1, 1) := by decide +kernel
theorem dX5_liftTold_20 : decode cX5_liftTold 20 = .ok (.invokevirtual 117, 3) := by decide +kernel
theorem dX5_liftTold_23 : decode cX5_liftTold 23 = .ok (.pop, 1) := by decide +kernel
theorem dX5_liftTold_24 : decode cX5_liftTold 24 = .ok (.iconst 1, 1) := by decide +kernel
theorem dX5_liftTold_25 : decode cX5_liftTold 25 = .ok (.ireturn, 1) := by decide +kernel
theorem dX5_eyeTold_0 : decode cX5_eyeTold 0 = .ok (.aload_n 0, 1) := by decide +kernel
theorem dX5_eyeTold_1 : decode cX5_eyeTold 1 = .ok (.iload_n 1, 1) := by decide +kernel
theorem dX5_eyeTold_2 : decode cX5_eyeTold 2 = .ok (.invokevirtual 91, 3) := by decide +kernel
theorem dX5_eyeTold_5 : decode cX5_eyeTold 5 = .ok (.ifCond .eq 10, 3) := by decide +kernel
theorem dX5_eyeTold_8 : decode cX5_eyeTold 8 = .ok (.iload_n 2, 1) := by decide +kernel
theorem dX5_eyeTold_9 : decode cX5_eyeTold 9 = .ok (.invokestatic 123, 3) := by decide +kernel
theorem dX5_eyeTold_12 : decode cX5_eyeTold 12 = .ok (.ifCond .ne 5, 3) := by decide +kernel
theorem dX5_eyeTold_15 : decode cX5_eyeTold 15 = .ok (.iconst 0, 1) := by decide +kernel
theorem dX5_eyeTold_16 : decode cX5_eyeTold 16 = .ok (.ireturn, 1) := by decide +kernel
theorem dX5_eyeTold_17 : decode cX5_eyeTold 17 = .ok (.aload_n 0, 1) := by decide +kernel
theorem dX5_eyeTold_18 : decode cX5_eyeTold 18 = .ok (.getfield 136, 3) := by decide +kernel
theorem dX5_eyeTold_21 : decode cX5_eyeTold 21 = .ok (.bipush 12, 2) := by decide +kernel
theorem dX5_eyeTold_23 : decode cX5_eyeTold 23 = .ok (.iload_n 1, 1) := by decide +kernel
theorem dX5_eyeTold_24 : decode cX5_eyeTold 24 = .ok (.iadd, 1) := by decide +kernel
theorem dX5_eyeTold_25 : decode cX5_eyeTold 25 = .ok (.iload_n 2, 1) := by decide +kernel
theorem dX5_eyeTold_26 : decode cX5_eyeTold 26 = .ok (.iastore, 1) := by decide +kernel
theorem dX5_eyeTold_27 : decode cX5_eyeTold 27 = .ok (.iconst 1, 1) := by decide +kernel
theorem dX5_eyeTold_28 : decode cX5_eyeTold 28 = .ok (.ireturn, 1) := by decide +kernel
theorem dX5_listUnsound_0 : decode cX5_listUnsound 0 = .ok (.iconst 0, 1) := by decide +kernel
theorem dX5_listUnsound_1 : decode cX5_listUnsound 1 = .ok (.istore_n 2, 1) := by decide +kernel
theorem dX5_listUnsound_2 : decode cX5_listUnsound 2 = .ok (.iconst 0, 1) := by decide +kernel
theorem dX5_listUnsound_3 : decode cX5_listUnsound 3 = .ok (.istore_n 3, 1) := by decide +kernel
theorem dX5_listUnsound_4 : decode cX5_listUnsound 4 = .ok (.iconst 0, 1) := by decide +kernel
theorem dX5_listUnsound_5 : decode cX5_listUnsound 5 = .ok (.istore 4, 2) := by decide +kernel
theorem dX5_listUnsound_7 : decode cX5_listUnsound 7 = .ok (.iload 4, 2) := by decide +kernel
theorem dX5_listUnsound_9 : decode cX5_listUnsound 9 = .ok (.aload_n 0, 1) := by decide +kernel
theorem dX5_listUnsound_10 : decode cX5_listUnsound 10 = .ok (.getfield 19, 3) := by decide +kernel
theorem dX5_listUnsound_13 : decode cX5_listUnsound 13 = .ok (.getfield 88, 3) := by decide +kernel
theorem dX5_listUnsound_16 : decode cX5_listUnsound 16 = .ok (.if_icmp .ge 50, 3) := by decide +kernel
theorem dX5_listUnsound_19 : decode cX5_listUnsound 19 = .ok (.iload_n 2, 1) := by decide +kernel
theorem dX5_listUnsound_20 : decode cX5_listUnsound 20 = .ok (.bipush 6, 2) := by decide +kernel
theorem dX5_listUnsound_22 : decode cX5_listUnsound 22 = .ok (.if_icmp .ge 44, 3) := by decide +kernel
theorem dX5_listUnsound_25 : decode cX5_listUnsound 25 = .ok (.aload_n 0, 1) := by decide +kernel
theorem dX5_listUnsound_26 : decode cX5_listUnsound 26 = .ok (.getfield 19, 3) := by decide +kernel
theorem dX5_listUnsound_29 : decode cX5_listUnsound 29 = .ok (.getfield 136, 3) := by decide +kernel
theorem dX5_listUnsound_32 : decode cX5_listUnsound 32 = .ok (.bipush 12, 2) := by decide +kernel
theorem dX5_listUnsound_34 : decode cX5_listUnsound 34 = .ok (.iload 4, 2) := by decide +kernel
theorem dX5_listUnsound_36 : decode cX5_listUnsound 36 = .ok (.iadd, 1) := by decide +kernel
theorem dX5_listUnsound_37 : decode cX5_listUnsound 37 = .ok (.iaload, 1) := by decide +kernel
theorem dX5_listUnsound_38 : decode cX5_listUnsound 38 = .ok (.ifCond .eq 22, 3) := by decide +kernel
theorem dX5_listUnsound_41 : decode cX5_listUnsound 41 = .ok (.iload 4, 2) := by decide +kernel
theorem dX5_listUnsound_43 : decode cX5_listUnsound 43 = .ok (.iload_n 1, 1) := by decide +kernel
theorem dX5_listUnsound_44 : decode cX5_listUnsound 44 = .ok (.if_icmp .ne 5, 3) := by decide +kernel
theorem dX5_listUnsound_47 : decode cX5_listUnsound 47 = .ok (.iload_n 2, 1) := by decide +kernel
theorem dX5_listUnsound_48 : decode cX5_listUnsound 48 = .ok (.istore_n 3, 1) := by decide +kernel
theorem dX5_listUnsound_49 : decode cX5_listUnsound 49 = .ok (.aload_n 0, 1) := by decide +kernel
theorem dX5_listUnsound_50 : decode cX5_listUnsound 50 = .ok (.getfield 60, 3) := by decide +kernel
theorem dX5_listUnsound_53 : decode cX5_listUnsound 53 = .ok (.iload_n 2, 1) := by decide +kernel
theorem dX5_listUnsound_54 : decode cX5_listUnsound 54 = .ok (.iload 4, 2) := by decide +kernel
theorem dX5_listUnsound_56 : decode cX5_listUnsound 56 = .ok (.iastore, 1) := by decide +kernel
theorem dX5_listUnsound_57 : decode cX5_listUnsound 57 = .ok (.iinc 2 1, 3) := by decide +kernel
theorem dX5_listUnsound_60 : decode cX5_listUnsound 60 = .ok (.iinc 4 1, 3) := by decide +kernel
theorem dX5_listUnsound_63 : decode cX5_listUnsound 63 = .ok (.goto (-56), 3) := by decide +kernel
theorem dX5_listUnsound_66 : decode cX5_listUnsound 66 = .ok (.iload_n 3, 1) := by decide +kernel
theorem dX5_listUnsound_67 : decode cX5_listUnsound 67 = .ok (.ireturn, 1) := by decide +kernel
theorem dX5_outWith_0 : decode cX5_outWith 0 = .ok (.aload_n 0, 1) := by decide +kernel
theorem dX5_outWith_1 : decode cX5_outWith 1 = .ok (.getfield 23, 3) := by decide +kernel
theorem dX5_outWith_4 : decode cX5_outWith 4 = .ok (.aload_n 0, 1) := by decide +kernel
theorem dX5_outWith_5 : decode cX5_outWith 5 = .ok (.getfield 19, 3) := by decide +kernel
theorem dX5_outWith_8 : decode cX5_outWith 8 = .ok (.invokevirtual 154, 3) := by decide +kernel
theorem dX5_outWith_11 : decode cX5_outWith 11 = .ok (.iconst 0, 1) := by decide +kernel
theorem dX5_outWith_12 : decode cX5_outWith 12 = .ok (.istore_n 3, 1) := by decide +kernel
theorem dX5_outWith_13 : decode cX5_outWith 13 = .ok (.iload_n 3, 1) := by decide +kernel
theorem dX5_outWith_14 : decode cX5_outWith 14 = .ok (.iload_n 2, 1) := by decide +kernel
theorem dX5_outWith_15 : decode cX5_outWith 15 = .ok (.if_icmp .ge 35, 3) := by decide +kernel
theorem dX5_outWith_18 : decode cX5_outWith 18 = .ok (.iload_n 1, 1) := by decide +kernel
theorem dX5_outWith_19 : decode cX5_outWith 19 = .ok (.iload_n 3, 1) := by decide +kernel
theorem dX5_outWith_20 : decode cX5_outWith 20 = .ok (.invokestatic 220, 3) := by decide +kernel
theorem dX5_outWith_23 : decode cX5_outWith 23 = .ok (.ifCond .eq 21, 3) := by decide +kernel
theorem dX5_outWith_26 : decode cX5_outWith 26 = .ok (.aload_n 0, 1) := by decide +kernel
theorem dX5_outWith_27 : decode cX5_outWith 27 = .ok (.getfield 23, 3) := by decide +kernel
theorem dX5_outWith_30 : decode cX5_outWith 30 = .ok (.getfield 136, 3) := by decide +kernel
theorem dX5_outWith_33 : decode cX5_outWith 33 = .ok (.bipush 12, 2) := by decide +kernel
theorem dX5_outWith_35 : decode cX5_outWith 35 = .ok (.aload_n 0, 1) := by decide +kernel
theorem dX5_outWith_36 : decode cX5_outWith 36 = .ok (.getfield 60, 3) := by decide +kernel
theorem dX5_outWith_39 : decode cX5_outWith 39 = .ok (.iload_n 3, 1) := by decide +kernel
theorem dX5_outWith_40 : decode cX5_outWith 40 = .ok (.iaload, 1) := by decide +kernel
theorem dX5_outWith_41 : decode cX5_outWith 41 = .ok (.iadd, 1) := by decide +kernel
theorem dX5_outWith_42 : decode cX5_outWith 42 = .ok (.iconst 0, 1) := by decide +kernel
theorem dX5_outWith_43 : decode cX5_outWith 43 = .ok (.iastore, 1) := by decide +kernel
theorem dX5_outWith_44 : decode cX5_outWith 44 = .ok (.iinc 3 1, 3) := by decide +kernel
theorem dX5_outWith_47 : decode cX5_outWith 47 = .ok (.goto (-34), 3) := by decide +kernel
theorem dX5_outWith_50 : decode cX5_outWith 50 = .ok (.iconst 0, 1) := by decide +kernel
theorem dX5_outWith_51 : decode cX5_outWith 51 = .ok (.istore_n 3, 1) := by decide +kernel
theorem dX5_outWith_52 : decode cX5_outWith 52 = .ok (.iload_n 3, 1) := by decide +kernel
theorem dX5_outWith_53 : decode cX5_outWith 53 = .ok (.bipush 20, 2) := by decide +kernel
theorem dX5_outWith_55 : decode cX5_outWith 55 = .ok (.if_icmp .ge 26, 3) := by decide +kernel
theorem dX5_outWith_58 : decode cX5_outWith 58 = .ok (.aload_n 0, 1) := by decide +kernel
theorem dX5_outWith_59 : decode cX5_outWith 59 = .ok (.getfield 23, 3) := by decide +kernel
theorem dX5_outWith_62 : decode cX5_outWith 62 = .ok (.invokevirtual 236, 3) := by decide +kernel
theorem dX5_outWith_65 : decode cX5_outWith 65 = .ok (.ifCond .eq 16, 3) := by decide +kernel
theorem dX5_outWith_68 : decode cX5_outWith 68 = .ok (.aload_n 0, 1) := by decide +kernel
theorem dX5_outWith_69 : decode cX5_outWith 69 = .ok (.getfield 23, 3) := by decide +kernel
theorem dX5_outWith_72 : decode cX5_outWith 72 = .ok (.invokevirtual 163, 3) := by decide +kernel
theorem dX5_outWith_75 : decode cX5_outWith 75 = .ok (.iinc 3 1, 3) := by decide +kernel
theorem dX5_outWith_78 : decode cX5_outWith 78 = .ok (.goto (-26), 3) := by decide +kernel
theorem dX5_outWith_81 : decode cX5_outWith 81 = .ok (.aload_n 0, 1) := by decide +kernel
theorem dX5_outWith_82 : decode cX5_outWith 82 = .ok (.getfield 23, 3) := by decide +kernel
theorem dX5_outWith_85 : decode cX5_outWith 85 = .ok (.getfield 136, 3) := by decide +kernel
theorem dX5_outWith_88 : decode cX5_outWith 88 = .ok (.bipush 55, 2) := by decide +kernel
theorem dX5_outWith_90 : decode cX5_outWith 90 = .ok (.iaload, 1) := by decide +kernel
theorem dX5_outWith_91 : decode cX5_outWith 91 = .ok (.ireturn, 1) := by decide +kernel
theorem dX5_gainInAllOrders_0 : decode cX5_gainInAllOrders 0 = .ok (.iconst 0, 1) := by decide +kernel
theorem dX5_gainInAllOrders_1 : decode cX5_gainInAllOrders 1 = .ok (.istore_n 3, 1) := by decide +kernel
theorem dX5_gainInAllOrders_2 : decode cX5_gainInAllOrders 2 = .ok (.iconst 0, 1) := by decide +kernel
theorem dX5_gainInAllOrders_3 : decode cX5_gainInAllOrders 3 = .ok (.istore 4, 2) := by decide +kernel
theorem dX5_gainInAllOrders_5 : decode cX5_gainInAllOrders 5 = .ok (.iload 4, 2) := by decide +kernel
theorem dX5_gainInAllOrders_7 : decode cX5_gainInAllOrders 7 = .ok (.iconst 1, 1) := by decide +kernel
theorem dX5_gainInAllOrders_8 : decode cX5_gainInAllOrders 8 = .ok (.iload_n 2, 1) := by decide +kernel
theorem dX5_gainInAllOrders_9 : decode cX5_gainInAllOrders 9 = .ok (.ishl, 1) := by decide +kernel
theorem dX5_gainInAllOrders_10 : decode cX5_gainInAllOrders 10 = .ok (.if_icmp .ge 69, 3) := by decide +kernel
theorem dX5_gainInAllOrders_13 : decode cX5_gainInAllOrders 13 = .ok (.iload 4, 2) := by decide +kernel
theorem dX5_gainInAllOrders_15 : decode cX5_gainInAllOrders 15 = .ok (.iload_n 1, 1) := by decide +kernel
theorem dX5_gainInAllOrders_16 : decode cX5_gainInAllOrders 16 = .ok (.invokestatic 220, 3) := by decide +kernel
theorem dX5_gainInAllOrders_19 : decode cX5_gainInAllOrders 19 = .ok (.ifCond .ne 54, 3) := by decide +kernel
theorem dX5_gainInAllOrders_22 : decode cX5_gainInAllOrders 22 = .ok (.iload 4, 2) := by decide +kernel
theorem dX5_gainInAllOrders_24 : decode cX5_gainInAllOrders 24 = .ok (.invokestatic 139, 3) := by decide +kernel
theorem dX5_gainInAllOrders_27 : decode cX5_gainInAllOrders 27 = .ok (.istore 5, 2) := by decide +kernel
theorem dX5_gainInAllOrders_29 : decode cX5_gainInAllOrders 29 = .ok (.getstatic 198, 3) := by decide +kernel
theorem dX5_gainInAllOrders_32 : decode cX5_gainInAllOrders 32 = .ok (.iload 5, 2) := by decide +kernel
theorem dX5_gainInAllOrders_34 : decode cX5_gainInAllOrders 34 = .ok (.iaload, 1) := by decide +kernel
theorem dX5_gainInAllOrders_35 : decode cX5_gainInAllOrders 35 = .ok (.getstatic 198, 3) := by decide +kernel
theorem dX5_gainInAllOrders_38 : decode cX5_gainInAllOrders 38 = .ok (.iload_n 2, 1) := by decide +kernel
theorem dX5_gainInAllOrders_39 : decode cX5_gainInAllOrders 39 = .ok (.iconst 1, 1) := by decide +kernel
theorem dX5_gainInAllOrders_40 : decode cX5_gainInAllOrders 40 = .ok (.isub, 1) := by decide +kernel
theorem dX5_gainInAllOrders_41 : decode cX5_gainInAllOrders 41 = .ok (.iload 5, 2) := by decide +kernel
theorem dX5_gainInAllOrders_43 : decode cX5_gainInAllOrders 43 = .ok (.isub, 1) := by decide +kernel
theorem dX5_gainInAllOrders_44 : decode cX5_gainInAllOrders 44 = .ok (.iaload, 1) := by decide +kernel
theorem dX5_gainInAllOrders_45 : decode cX5_gainInAllOrders 45 = .ok (.imul, 1) := by decide +kernel
theorem dX5_gainInAllOrders_46 : decode cX5_gainInAllOrders 46 = .ok (.istore 6, 2) := by decide +kernel
theorem dX5_gainInAllOrders_48 : decode cX5_gainInAllOrders 48 = .ok (.iload_n 3, 1) := by decide +kernel
theorem dX5_gainInAllOrders_49 : decode cX5_gainInAllOrders 49 = .ok (.iload 6, 2) := by decide +kernel
theorem dX5_gainInAllOrders_51 : decode cX5_gainInAllOrders 51 = .ok (.aload_n 0, 1) := by decide +kernel
theorem dX5_gainInAllOrders_52 : decode cX5_gainInAllOrders 52 = .ok (.getfield 63, 3) := by decide +kernel
theorem dX5_gainInAllOrders_55 : decode cX5_gainInAllOrders 55 = .ok (.iload 4, 2) := by decide +kernel
theorem dX5_gainInAllOrders_57 : decode cX5_gainInAllOrders 57 = .ok (.iconst 1, 1) := by decide +kernel
theorem dX5_gainInAllOrders_58 : decode cX5_gainInAllOrders 58 = .ok (.iload_n 1, 1) := by decide +kernel
theorem dX5_gainInAllOrders_59 : decode cX5_gainInAllOrders 59 = .ok (.ishl, 1) := by decide +kernel
theorem dX5_gainInAllOrders_60 : decode cX5_gainInAllOrders 60 = .ok (.ior, 1) := by decide +kernel
theorem dX5_gainInAllOrders_61 : decode cX5_gainInAllOrders 61 = .ok (.iaload, 1) := by decide +kernel
theorem dX5_gainInAllOrders_62 : decode cX5_gainInAllOrders 62 = .ok (.aload_n 0, 1) := by decide +kernel
theorem dX5_gainInAllOrders_63 : decode cX5_gainInAllOrders 63 = .ok (.getfield 63, 3) := by decide +kernel
theorem dX5_gainInAllOrders_66 : decode cX5_gainInAllOrders 66 = .ok (.iload 4, 2) := by decide +kernel
theorem dX5_gainInAllOrders_68 : decode cX5_gainInAllOrders 68 = .ok (.iaload, 1) := by decide +kernel
theorem dX5_gainInAllOrders_69 : decode cX5_gainInAllOrders 69 = .ok (.isub, 1) := by decide +kernel
theorem dX5_gainInAllOrders_70 : decode cX5_gainInAllOrders 70 = .ok (.imul, 1) := by decide +kernel
theorem dX5_gainInAllOrders_71 : decode cX5_gainInAllOrders 71 = .ok (.iadd, 1) := by decide +kernel
theorem dX5_gainInAllOrders_72 : decode cX5_gainInAllOrders 72 = .ok (.istore_n 3, 1) := by decide +kernel
theorem dX5_gainInAllOrders_73 : decode cX5_gainInAllOrders 73 = .ok (.iinc 4 1, 3) := by decide +kernel
theorem dX5_gainInAllOrders_76 : decode cX5_gainInAllOrders 76 = .ok (.goto (-71), 3) := by decide +kernel
theorem dX5_gainInAllOrders_79 : decode cX5_gainInAllOrders 79 = .ok (.iload_n 3, 1) := by decide +kernel
theorem dX5_gainInAllOrders_80 : decode cX5_gainInAllOrders 80 = .ok (.ireturn, 1) := by decide +kernel
theorem dX5_waysToEmpty_0 : decode cX5_waysToEmpty 0 = .ok (.aload_n 0, 1) := by decide +kernel
theorem dX5_waysToEmpty_1 : decode cX5_waysToEmpty 1 = .ok (.invokevirtual 236, 3) := by decide +kernel
theorem dX5_waysToEmpty_4 : decode cX5_waysToEmpty 4 = .ok (.ifCond .ne 8, 3) := by decide +kernel
theorem dX5_waysToEmpty_7 : decode cX5_waysToEmpty 7 = .ok (.iload_n 2, 1) := by decide +kernel
theorem dX5_waysToEmpty_8 : decode cX5_waysToEmpty 8 = .ok (.invokestatic 209, 3) := by decide +kernel
theorem dX5_waysToEmpty_11 : decode cX5_waysToEmpty 11 = .ok (.ireturn, 1) := by decide +kernel
theorem dX5_waysToEmpty_12 : decode cX5_waysToEmpty 12 = .ok (.iload_n 2, 1) := by decide +kernel
theorem dX5_waysToEmpty_13 : decode cX5_waysToEmpty 13 = .ok (.iconst 1, 1) := by decide +kernel
theorem dX5_waysToEmpty_14 : decode cX5_waysToEmpty 14 = .ok (.if_icmp .lt 9, 3) := by decide +kernel
theorem dX5_waysToEmpty_17 : decode cX5_waysToEmpty 17 = .ok (.iload_n 2, 1) := by decide +kernel
theorem dX5_waysToEmpty_18 : decode cX5_waysToEmpty 18 = .ok (.bipush 8, 2) := by decide +kernel
theorem dX5_waysToEmpty_20 : decode cX5_waysToEmpty 20 = .ok (.if_icmp .le 5, 3) := by decide +kernel
theorem dX5_waysToEmpty_23 : decode cX5_waysToEmpty 23 = .ok (.iconst 0, 1) := by decide +kernel
theorem dX5_waysToEmpty_24 : decode cX5_waysToEmpty 24 = .ok (.ireturn, 1) := by decide +kernel
theorem dX5_waysToEmpty_25 : decode cX5_waysToEmpty 25 = .ok (.iconst 0, 1) := by decide +kernel
theorem dX5_waysToEmpty_26 : decode cX5_waysToEmpty 26 = .ok (.istore 4, 2) := by decide +kernel
theorem dX5_waysToEmpty_28 : decode cX5_waysToEmpty 28 = .ok (.aload_n 1, 1) := by decide +kernel
theorem dX5_waysToEmpty_29 : decode cX5_waysToEmpty 29 = .ok (.iload_n 2, 1) := by decide +kernel
theorem dX5_waysToEmpty_30 : decode cX5_waysToEmpty 30 = .ok (.aload_n 0, 1) := by decide +kernel
theorem dX5_waysToEmpty_31 : decode cX5_waysToEmpty 31 = .ok (.invokevirtual 216, 3) := by decide +kernel
theorem dX5_waysToEmpty_34 : decode cX5_waysToEmpty 34 = .ok (.iconst 0, 1) := by decide +kernel
theorem dX5_waysToEmpty_35 : decode cX5_waysToEmpty 35 = .ok (.istore 5, 2) := by decide +kernel
theorem dX5_waysToEmpty_37 : decode cX5_waysToEmpty 37 = .ok (.iload 5, 2) := by decide +kernel
theorem dX5_waysToEmpty_39 : decode cX5_waysToEmpty 39 = .ok (.iconst 1, 1) := by decide +kernel
theorem dX5_waysToEmpty_40 : decode cX5_waysToEmpty 40 = .ok (.if_icmp .gt 65, 3) := by decide +kernel
theorem dX5_waysToEmpty_43 : decode cX5_waysToEmpty 43 = .ok (.iload 5, 2) := by decide +kernel
theorem dX5_waysToEmpty_45 : decode cX5_waysToEmpty 45 = .ok (.ifCond .ne 7, 3) := by decide +kernel
theorem dX5_waysToEmpty_48 : decode cX5_waysToEmpty 48 = .ok (.iload_n 3, 1) := by decide +kernel
theorem dX5_waysToEmpty_49 : decode cX5_waysToEmpty 49 = .ok (.goto 7, 3) := by decide +kernel
theorem dX5_waysToEmpty_52 : decode cX5_waysToEmpty 52 = .ok (.bipush 10, 2) := by decide +kernel
theorem dX5_waysToEmpty_54 : decode cX5_waysToEmpty 54 = .ok (.iload_n 3, 1) := by decide +kernel
theorem dX5_waysToEmpty_55 : decode cX5_waysToEmpty 55 = .ok (.isub, 1) := by decide +kernel
theorem dX5_waysToEmpty_56 : decode cX5_waysToEmpty 56 = .ok (.istore 6, 2) := by decide +kernel
theorem dX5_waysToEmpty_58 : decode cX5_waysToEmpty 58 = .ok (.iload 6, 2) := by decide +kernel
theorem dX5_waysToEmpty_60 : decode cX5_waysToEmpty 60 = .ok (.ifCond .le 39, 3) := by decide +kernel
theorem dX5_waysToEmpty_63 : decode cX5_waysToEmpty 63 = .ok (.aload_n 1, 1) := by decide +kernel
theorem dX5_waysToEmpty_64 : decode cX5_waysToEmpty 64 = .ok (.iload_n 2, 1) := by decide +kernel
theorem dX5_waysToEmpty_65 : decode cX5_waysToEmpty 65 = .ok (.aload_n 0, 1) := by decide +kernel
theorem dX5_waysToEmpty_66 : decode cX5_waysToEmpty 66 = .ok (.invokevirtual 224, 3) := by decide +kernel
theorem dX5_waysToEmpty_69 : decode cX5_waysToEmpty 69 = .ok (.aload_n 0, 1) := by decide +kernel
theorem dX5_waysToEmpty_70 : decode cX5_waysToEmpty 70 = .ok (.getfield 136, 3) := by decide +kernel
theorem dX5_waysToEmpty_73 : decode cX5_waysToEmpty 73 = .ok (.bipush 50, 2) := by decide +kernel
theorem dX5_waysToEmpty_75 : decode cX5_waysToEmpty 75 = .ok (.iload 5, 2) := by decide +kernel
theorem dX5_waysToEmpty_77 : decode cX5_waysToEmpty 77 = .ok (.iastore, 1) := by decide +kernel
theorem dX5_waysToEmpty_78 : decode cX5_waysToEmpty 78 = .ok (.aload_n 0, 1) := by decide +kernel
theorem dX5_waysToEmpty_79 : decode cX5_waysToEmpty 79 = .ok (.invokevirtual 163, 3) := by decide +kernel
theorem dX5_waysToEmpty_82 : decode cX5_waysToEmpty 82 = .ok (.iload 4, 2) := by decide +kernel
theorem dX5_waysToEmpty_84 : decode cX5_waysToEmpty 84 = .ok (.iload 6, 2) := by decide +kernel
theorem dX5_waysToEmpty_86 : decode cX5_waysToEmpty 86 = .ok (.aload_n 0, 1) := by decide +kernel
theorem dX5_waysToEmpty_87 : decode cX5_waysToEmpty 87 = .ok (.aload_n 1, 1) := by decide +kernel
theorem dX5_waysToEmpty_88 : decode cX5_waysToEmpty 88 = .ok (.iload_n 2, 1) := by decide +kernel
theorem dX5_waysToEmpty_89 : decode cX5_waysToEmpty 89 = .ok (.iconst 1, 1) := by decide +kernel
theorem dX5_waysToEmpty_90 : decode cX5_waysToEmpty 90 = .ok (.isub, 1) := by decide +kernel
theorem dX5_waysToEmpty_91 : decode cX5_waysToEmpty 91 = .ok (.iload_n 3, 1) := by decide +kernel
theorem dX5_waysToEmpty_92 : decode cX5_waysToEmpty 92 = .ok (.invokestatic 205, 3) := by decide +kernel
theorem dX5_waysToEmpty_95 : decode cX5_waysToEmpty 95 = .ok (.imul, 1) := by decide +kernel
theorem dX5_waysToEmpty_96 : decode cX5_waysToEmpty 96 = .ok (.iadd, 1) := by decide +kernel
theorem dX5_waysToEmpty_97 : decode cX5_waysToEmpty 97 = .ok (.istore 4, 2) := by decide +kernel
theorem dX5_waysToEmpty_99 : decode cX5_waysToEmpty 99 = .ok (.iinc 5 1, 3) := by decide +kernel
theorem dX5_waysToEmpty_102 : decode cX5_waysToEmpty 102 = .ok (.goto (-65), 3) := by decide +kernel
theorem dX5_waysToEmpty_105 : decode cX5_waysToEmpty 105 = .ok (.iload 4, 2) := by decide +kernel
theorem dX5_waysToEmpty_107 : decode cX5_waysToEmpty 107 = .ok (.ireturn, 1) := by decide +kernel
theorem dX5_tenToThe_0 : decode cX5_tenToThe 0 = .ok (.iconst 1, 1) := by decide +kernel
theorem dX5_tenToThe_1 : decode cX5_tenToThe 1 = .ok (.istore_n 1, 1) := by decide +kernel
theorem dX5_tenToThe_2 : decode cX5_tenToThe 2 = .ok (.iconst 0, 1) := by decide +kernel
theorem dX5_tenToThe_3 : decode cX5_tenToThe 3 = .ok (.istore_n 2, 1) := by decide +kernel
theorem dX5_tenToThe_4 : decode cX5_tenToThe 4 = .ok (.iload_n 2, 1) := by decide +kernel
theorem dX5_tenToThe_5 : decode cX5_tenToThe 5 = .ok (.iload_n 0, 1) := by decide +kernel
theorem dX5_tenToThe_6 : decode cX5_tenToThe 6 = .ok (.if_icmp .ge 20, 3) := by decide +kernel
theorem dX5_tenToThe_9 : decode cX5_tenToThe 9 = .ok (.iload_n 2, 1) := by decide +kernel
theorem dX5_tenToThe_10 : decode cX5_tenToThe 10 = .ok (.bipush 8, 2) := by decide +kernel
theorem dX5_tenToThe_12 : decode cX5_tenToThe 12 = .ok (.if_icmp .ge 14, 3) := by decide +kernel
theorem dX5_tenToThe_15 : decode cX5_tenToThe 15 = .ok (.iload_n 1, 1) := by decide +kernel
theorem dX5_tenToThe_16 : decode cX5_tenToThe 16 = .ok (.bipush 10, 2) := by decide +kernel
theorem dX5_tenToThe_18 : decode cX5_tenToThe 18 = .ok (.imul, 1) := by decide +kernel
theorem dX5_tenToThe_19 : decode cX5_tenToThe 19 = .ok (.istore_n 1, 1) := by decide +kernel
theorem dX5_tenToThe_20 : decode cX5_tenToThe 20 = .ok (.iinc 2 1, 3) := by decide +kernel
theorem dX5_tenToThe_23 : decode cX5_tenToThe 23 = .ok (.goto (-19), 3) := by decide +kernel
theorem dX5_tenToThe_26 : decode cX5_tenToThe 26 = .ok (.iload_n 1, 1) := by decide +kernel
theorem dX5_tenToThe_27 : decode cX5_tenToThe 27 = .ok (.ireturn, 1) := by decide +kernel
theorem dX5_fraction_0 : decode cX5_fraction 0 = .ok (.iload_n 0, 1) := by decide +kernel
theorem dX5_fraction_1 : decode cX5_fraction 1 = .ok (.invokestatic 255, 3) := by decide +kernel
theorem dX5_fraction_4 : decode cX5_fraction 4 = .ok (.iload_n 1, 1) := by decide +kernel
theorem dX5_fraction_5 : decode cX5_fraction 5 = .ok (.invokestatic 260, 3) := by decide +kernel
theorem dX5_fraction_8 : decode cX5_fraction 8 = .ok (.istore_n 3, 1) := by decide +kernel
theorem dX5_fraction_9 : decode cX5_fraction 9 = .ok (.iload_n 3, 1) := by decide +kernel
theorem dX5_fraction_10 : decode cX5_fraction 10 = .ok (.iconst 1, 1) := by decide +kernel
theorem dX5_fraction_11 : decode cX5_fraction 11 = .ok (.if_icmp .ge 5, 3) := by decide +kernel
theorem dX5_fraction_14 : decode cX5_fraction 14 = .ok (.iconst 0, 1) := by decide +kernel
theorem dX5_fraction_15 : decode cX5_fraction 15 = .ok (.ireturn, 1) := by decide +kernel
theorem dX5_fraction_16 : decode cX5_fraction 16 = .ok (.iload_n 2, 1) := by decide +kernel
theorem dX5_fraction_17 : decode cX5_fraction 17 = .ok (.ifCond .eq 9, 3) := by decide +kernel
theorem dX5_fraction_20 : decode cX5_fraction 20 = .ok (.iload_n 0, 1) := by decide +kernel
theorem dX5_fraction_21 : decode cX5_fraction 21 = .ok (.iload_n 3, 1) := by decide +kernel
theorem dX5_fraction_22 : decode cX5_fraction 22 = .ok (.idiv, 1) := by decide +kernel
theorem dX5_fraction_23 : decode cX5_fraction 23 = .ok (.goto 6, 3) := by decide +kernel
theorem dX5_fraction_26 : decode cX5_fraction 26 = .ok (.iload_n 1, 1) := by decide +kernel
theorem dX5_fraction_27 : decode cX5_fraction 27 = .ok (.iload_n 3, 1) := by decide +kernel
theorem dX5_fraction_28 : decode cX5_fraction 28 = .ok (.idiv, 1) := by decide +kernel
theorem dX5_fraction_29 : decode cX5_fraction 29 = .ok (.ireturn, 1) := by decide +kernel
theorem dX5_commonDivisor_0 : decode cX5_commonDivisor 0 = .ok (.iload_n 0, 1) := by decide +kernel
theorem dX5_commonDivisor_1 : decode cX5_commonDivisor 1 = .ok (.istore_n 2, 1) := by decide +kernel
theorem dX5_commonDivisor_2 : decode cX5_commonDivisor 2 = .ok (.iload_n 1, 1) := by decide +kernel
theorem dX5_commonDivisor_3 : decode cX5_commonDivisor 3 = .ok (.istore_n 3, 1) := by decide +kernel
theorem dX5_commonDivisor_4 : decode cX5_commonDivisor 4 = .ok (.iconst 0, 1) := by decide +kernel
theorem dX5_commonDivisor_5 : decode cX5_commonDivisor 5 = .ok (.istore 4, 2) := by decide +kernel
theorem dX5_commonDivisor_7 : decode cX5_commonDivisor 7 = .ok (.iload 4, 2) := by decide +kernel
theorem dX5_commonDivisor_9 : decode cX5_commonDivisor 9 = .ok (.bipush 64, 2) := by decide +kernel
theorem dX5_commonDivisor_11 : decode cX5_commonDivisor 11 = .ok (.if_icmp .ge 23, 3) := by decide +kernel
theorem dX5_commonDivisor_14 : decode cX5_commonDivisor 14 = .ok (.iload_n 3, 1) := by decide +kernel
theorem dX5_commonDivisor_15 : decode cX5_commonDivisor 15 = .ok (.ifCond .eq 19, 3) := by decide +kernel
theorem dX5_commonDivisor_18 : decode cX5_commonDivisor 18 = .ok (.iload_n 2, 1) := by decide +kernel
theorem dX5_commonDivisor_19 : decode cX5_commonDivisor 19 = .ok (.iload_n 3, 1) := by decide +kernel
theorem dX5_commonDivisor_20 : decode cX5_commonDivisor 20 = .ok (.irem, 1) := by decide +kernel
theorem dX5_commonDivisor_21 : decode cX5_commonDivisor 21 = .ok (.istore 5, 2) := by decide +kernel
theorem dX5_commonDivisor_23 : decode cX5_commonDivisor 23 = .ok (.iload_n 3, 1) := by decide +kernel
theorem dX5_commonDivisor_24 : decode cX5_commonDivisor 24 = .ok (.istore_n 2, 1) := by decide +kernel
theorem dX5_commonDivisor_25 : decode cX5_commonDivisor 25 = .ok (.iload 5, 2) := by decide +kernel
theorem dX5_commonDivisor_27 : decode cX5_commonDivisor 27 = .ok (.istore_n 3, 1) := by decide +kernel
theorem dX5_commonDivisor_28 : decode cX5_commonDivisor 28 = .ok (.iinc 4 1, 3) := by decide +kernel
theorem dX5_commonDivisor_31 : decode cX5_commonDivisor 31 = .ok (.goto (-24), 3) := by decide +kernel
theorem dX5_commonDivisor_34 : decode cX5_commonDivisor 34 = .ok (.iload_n 2, 1) := by decide +kernel
theorem dX5_commonDivisor_35 : decode cX5_commonDivisor 35 = .ok (.ireturn, 1) := by decide +kernel
theorem dX6_init_0 : decode cX6_init 0 = .ok (.aload_n 0, 1) := by decide +kernel
theorem dX6_init_1 : decode cX6_init 1 = .ok (.invokespecial 1, 3) := by decide +kernel
theorem dX6_init_4 : decode cX6_init 4 = .ok (.aload_n 0, 1) := by decide +kernel
theorem dX6_init_5 : decode cX6_init 5 = .ok (.bipush 40, 2) := by decide +kernel
theorem dX6_init_7 : decode cX6_init 7 = .ok (.newarray .int, 2) := by decide +kernel
theorem dX6_init_9 : decode cX6_init 9 = .ok (.putfield 7, 3) := by decide +kernel
theorem dX6_init_12 : decode cX6_init 12 = .ok (.aload_n 0, 1) := by decide +kernel
theorem dX6_init_13 : decode cX6_init 13 = .ok (.iconst 2, 1) := by decide +kernel
theorem dX6_init_14 : decode cX6_init 14 = .ok (.putfield 13, 3) := by decide +kernel
theorem dX6_init_17 : decode cX6_init 17 = .ok (.aload_n 0, 1) := by decide +kernel
theorem dX6_init_18 : decode cX6_init 18 = .ok (.iconst 1, 1) := by decide +kernel
theorem dX6_init_19 : decode cX6_init 19 = .ok (.putfield 17, 3) := by decide +kernel
theorem dX6_init_22 : decode cX6_init 22 = .ok (.aload_n 0, 1) := by decide +kernel
theorem dX6_init_23 : decode cX6_init 23 = .ok (.bipush 79, 2) := by decide +kernel
theorem dX6_init_25 : decode cX6_init 25 = .ok (.newarray .int, 2) := by decide +kernel
theorem dX6_init_27 : decode cX6_init 27 = .ok (.putfield 20, 3) := by decide +kernel
theorem dX6_init_30 : decode cX6_init 30 = .ok (.aload_n 0, 1) := by decide +kernel
theorem dX6_init_31 : decode cX6_init 31 = .ok (.bipush 79, 2) := by decide +kernel
theorem dX6_init_33 : decode cX6_init 33 = .ok (.newarray .int, 2) := by decide +kernel
theorem dX6_init_35 : decode cX6_init 35 = .ok (.putfield 23, 3) := by decide +kernel
theorem dX6_init_38 : decode cX6_init 38 = .ok (.aload_n 0, 1) := by decide +kernel
theorem dX6_init_39 : decode cX6_init 39 = .ok (.bipush 79, 2) := by decide +kernel
theorem dX6_init_41 : decode cX6_init 41 = .ok (.newarray .int, 2) := by decide +kernel
theorem dX6_init_43 : decode cX6_init 43 = .ok (.putfield 26, 3) := by decide +kernel
theorem dX6_init_46 : decode cX6_init 46 = .ok (.aload_n 0, 1) := by decide +kernel
theorem dX6_init_47 : decode cX6_init 47 = .ok (.sipush 1106, 3) := by decide +kernel
theorem dX6_init_50 : decode cX6_init 50 = .ok (.newarray .int, 2) := by decide +kernel
theorem dX6_init_52 : decode cX6_init 52 = .ok (.putfield 29, 3) := by decide +kernel
theorem dX6_init_55 : decode cX6_init 55 = .ok (.aload_n 0, 1) := by decide +kernel
theorem dX6_init_56 : decode cX6_init 56 = .ok (.sipush 158, 3) := by decide +kernel
theorem dX6_init_59 : decode cX6_init 59 = .ok (.newarray .int, 2) := by decide +kernel
theorem dX6_init_61 : decode cX6_init 61 = .ok (.putfield 32, 3) := by decide +kernel
theorem dX6_init_64 : decode cX6_init 64 = .ok (.aload_n 0, 1) := by decide +kernel
theorem dX6_init_65 : decode cX6_init 65 = .ok (.iconst 2, 1) := by decide +kernel
theorem dX6_init_66 : decode cX6_init 66 = .ok (.newarray .boolean, 2) := by decide +kernel
theorem dX6_init_68 : decode cX6_init 68 = .ok (.putfield 35, 3) := by decide +kernel
theorem dX6_init_71 : decode cX6_init 71 = .ok (.aload_n 0, 1) := by decide +kernel
theorem dX6_init_72 : decode cX6_init 72 = .ok (.bipush 6, 2) := by decide +kernel
theorem dX6_init_74 : decode cX6_init 74 = .ok (.newarray .int, 2) := by decide +kernel
theorem dX6_init_76 : decode cX6_init 76 = .ok (.putfield 39, 3) := by decide +kernel
theorem dX6_init_79 : decode cX6_init 79 = .ok (.aload_n 0, 1) := by decide +kernel
theorem dX6_init_80 : decode cX6_init 80 = .ok (.bipush 6, 2) := by decide +kernel
theorem dX6_init_82 : decode cX6_init 82 = .ok (.newarray .int, 2) := by decide +kernel
theorem dX6_init_84 : decode cX6_init 84 = .ok (.putfield 42, 3) := by decide +kernel
theorem dX6_init_87 : decode cX6_init 87 = .ok (.aload_n 0, 1) := by decide +kernel
theorem dX6_init_88 : decode cX6_init 88 = .ok (.bipush 6, 2) := by decide +kernel
theorem dX6_init_90 : decode cX6_init 90 = .ok (.newarray .int, 2) := by decide +kernel
theorem dX6_init_92 : decode cX6_init 92 = .ok (.putfield 45, 3) := by decide +kernel
theorem dX6_init_95 : decode cX6_init 95 = .ok (.aload_n 0, 1) := by decide +kernel
theorem dX6_init_96 : decode cX6_init 96 = .ok (.getfield 23, 3) := by decide +kernel
theorem dX6_init_99 : decode cX6_init 99 = .ok (.bipush 72, 2) := by decide +kernel
theorem dX6_init_101 : decode cX6_init 101 = .ok (.iconst 1, 1) := by decide +kernel
theorem dX6_init_102 : decode cX6_init 102 = .ok (.iastore, 1) := by decide +kernel
theorem dX6_init_103 : decode cX6_init 103 = .ok (.return_, 1) := by decide +kernel
theorem dX6_in_0 : decode cX6_in 0 = .ok (.lload_n 0, 1) := by decide +kernel
theorem dX6_in_1 : decode cX6_in 1 = .ok (.lload_n 2, 1) := by decide +kernel
theorem dX6_in_2 : decode cX6_in 2 = .ok (.lcmp, 1) := by decide +kernel
theorem dX6_in_3 : decode cX6_in 3 = .ok (.ifCond .lt 14, 3) := by decide +kernel
theorem dX6_in_6 : decode cX6_in 6 = .ok (.lload_n 0, 1) := by decide +kernel
theorem dX6_in_7 : decode cX6_in 7 = .ok (.lload 4, 2) := by decide +kernel
theorem dX6_in_9 : decode cX6_in 9 = .ok (.lcmp, 1) := by decide +kernel
theorem dX6_in_10 : decode cX6_in 10 = .ok (.ifCond .gt 7, 3) := by decide +kernel
theorem dX6_in_13 : decode cX6_in 13 = .ok (.iconst 1, 1) := by decide +kernel
theorem dX6_in_14 : decode cX6_in 14 = .ok (.goto 4, 3) := by decide +kernel
theorem dX6_in_17 : decode cX6_in 17 = .ok (.iconst 0, 1) := by decide +kernel
theorem dX6_in_18 : decode cX6_in 18 = .ok (.ireturn, 1) := by decide +kernel
theorem dX6_has_0 : decode cX6_has 0 = .ok (.iload_n 0, 1) := by decide +kernel
theorem dX6_has_1 : decode cX6_has 1 = .ok (.iload_n 1, 1) := by decide +kernel
theorem dX6_has_2 : decode cX6_has 2 = .ok (.ishr, 1) := by decide +kernel
theorem dX6_has_3 : decode cX6_has 3 = .ok (.iconst 1, 1) := by decide +kernel
theorem dX6_has_4 : decode cX6_has 4 = .ok (.iand, 1) := by decide +kernel
theorem dX6_has_5 : decode cX6_has 5 = .ok (.iconst 1, 1) := by decide +kernel
theorem dX6_has_6 : decode cX6_has 6 = .ok (.if_icmp .ne 7, 3) := by decide +kernel
theorem dX6_has_9 : decode cX6_has 9 = .ok (.iconst 1, 1) := by decide +kernel
theorem dX6_has_10 : decode cX6_has 10 = .ok (.goto 4, 3) := by decide +kernel
theorem dX6_has_13 : decode cX6_has 13 = .ok (.iconst 0, 1) := by decide +kernel
theorem dX6_has_14 : decode cX6_has 14 = .ok (.ireturn, 1) := by decide +kernel
theorem dX6_ones_0 : decode cX6_ones 0 = .ok (.iconst 0, 1) := by decide +kernel
theorem dX6_ones_1 : decode cX6_ones 1 = .ok (.istore_n 1, 1) := by decide +kernel
theorem dX6_ones_2 : decode cX6_ones 2 = .ok (.iconst 0, 1) := by decide +kernel
theorem dX6_ones_3 : decode cX6_ones 3 = .ok (.istore_n 2, 1) := by decide +kernel
theorem dX6_ones_4 : decode cX6_ones 4 = .ok (.iload_n 2, 1) := by decide +kernel
theorem dX6_ones_5 : decode cX6_ones 5 = .ok (.bipush 12, 2) := by decide +kernel
theorem dX6_ones_7 : decode cX6_ones 7 = .ok (.if_icmp .ge 17, 3) := by decide +kernel
theorem dX6_ones_10 : decode cX6_ones 10 = .ok (.iload_n 1, 1) := by decide +kernel
theorem dX6_ones_11 : decode cX6_ones 11 = .ok (.iload_n 0, 1) := by decide +kernel
theorem dX6_ones_12 : decode cX6_ones 12 = .ok (.iload_n 2, 1) := by decide +kernel
theorem dX6_ones_13 : decode cX6_ones 13 = .ok (.ishr, 1) := by decide +kernel
theorem dX6_ones_14 : decode cX6_ones 14 = .ok (.iconst 1, 1) := by decide +kernel
theorem dX6_ones_15 : decode cX6_ones 15 = .ok (.iand, 1) := by decide +kernel
theorem dX6_ones_16 : decode cX6_ones 16 = .ok (.iadd, 1) := by decide +kernel
theorem dX6_ones_17 : decode cX6_ones 17 = .ok (.istore_n 1, 1) := by decide +kernel
theorem dX6_ones_18 : decode cX6_ones 18 = .ok (.iinc 2 1, 3) := by decide +kernel
theorem dX6_ones_21 : decode cX6_ones 21 = .ok (.goto (-17), 3) := by decide +kernel
theorem dX6_ones_24 : decode cX6_ones 24 = .ok (.iload_n 1, 1) := by decide +kernel
theorem dX6_ones_25 : decode cX6_ones 25 = .ok (.ireturn, 1) := by decide +kernel
theorem dX6_power_0 : decode cX6_power 0 = .ok (.iconst 1, 1) := by decide +kernel
theorem dX6_power_1 : decode cX6_power 1 = .ok (.istore_n 2, 1) := by decide +kernel
theorem dX6_power_2 : decode cX6_power 2 = .ok (.iconst 0, 1) := by decide +kernel
theorem dX6_power_3 : decode cX6_power 3 = .ok (.istore_n 3, 1) := by decide +kernel
theorem dX6_power_4 : decode cX6_power 4 = .ok (.iload_n 3, 1) := by decide +kernel
theorem dX6_power_5 : decode cX6_power 5 = .ok (.iload_n 1, 1) := by decide +kernel
theorem dX6_power_6 : decode cX6_power 6 = .ok (.if_icmp .ge 13, 3) := by decide +kernel
theorem dX6_power_9 : decode cX6_power 9 = .ok (.iload_n 2, 1) := by decide +kernel
theorem dX6_power_10 : decode cX6_power 10 = .ok (.iload_n 0, 1) := by decide +kernel
theorem dX6_power_11 : decode cX6_power 11 = .ok (.imul, 1) := by decide +kernel
theorem dX6_power_12 : decode cX6_power 12 = .ok (.istore_n 2, 1) := by decide +kernel
theorem dX6_power_13 : decode cX6_power 13 = .ok (.iinc 3 1, 3) := by decide +kernel
theorem dX6_power_16 : decode cX6_power 16 = .ok (.goto (-12), 3) := by decide +kernel
theorem dX6_power_19 : decode cX6_power 19 = .ok (.iload_n 2, 1) := by decide +kernel
theorem dX6_power_20 : decode cX6_power 20 = .ok (.ireturn, 1) := by decide +kernel
theorem dX6_layTrial_0 : decode cX6_layTrial 0 = .ok (.iconst 0, 1) := by decide +kernel
theorem dX6_layTrial_1 : decode cX6_layTrial 1 = .ok (.istore_n 1, 1) := by decide +kernel
theorem dX6_layTrial_2 : decode cX6_layTrial 2 = .ok (.iload_n 1, 1) := by decide +kernel
theorem dX6_layTrial_3 : decode cX6_layTrial 3 = .ok (.bipush 79, 2) := by decide +kernel
theorem dX6_layTrial_5 : decode cX6_layTrial 5 = .ok (.if_icmp .ge 21, 3) := by decide +kernel
theorem dX6_layTrial_8 : decode cX6_layTrial 8 = .ok (.aload_n 0, 1) := by decide +kernel
theorem dX6_layTrial_9 : decode cX6_layTrial 9 = .ok (.getfield 26, 3) := by decide +kernel
theorem dX6_layTrial_12 : decode cX6_layTrial 12 = .ok (.iload_n 1, 1) := by decide +kernel
theorem dX6_layTrial_13 : decode cX6_layTrial 13 = .ok (.aload_n 0, 1) := by decide +kernel
theorem dX6_layTrial_14 : decode cX6_layTrial 14 = .ok (.getfield 23, 3) := by decide +kernel
theorem dX6_layTrial_17 : decode cX6_layTrial 17 = .ok (.iload_n 1, 1) := by decide +kernel
theorem dX6_layTrial_18 : decode cX6_layTrial 18 = .ok (.iaload, 1) := by decide +kernel
theorem dX6_layTrial_19 : decode cX6_layTrial 19 = .ok (.iastore, 1) := by decide +kernel
theorem dX6_layTrial_20 : decode cX6_layTrial 20 = .ok (.iinc 1 1, 3) := by decide +kernel
theorem dX6_layTrial_23 : decode cX6_layTrial 23 = .ok (.goto (-21), 3) := by decide +kernel
theorem dX6_layTrial_26 : decode cX6_layTrial 26 = .ok (.return_, 1) := by decide +kernel
theorem dX6_zones_0 : decode cX6_zones 0 = .ok (.aload_n 0, 1) := by decide +kernel
theorem dX6_zones_1 : decode cX6_zones 1 = .ok (.getfield 13, 3) := by decide +kernel
theorem dX6_zones_4 : decode cX6_zones 4 = .ok (.aload_n 0, 1) := by decide +kernel
theorem dX6_zones_5 : decode cX6_zones 5 = .ok (.getfield 51, 3) := by decide +kernel
theorem dX6_zones_8 : decode cX6_zones 8 = .ok (.iadd, 1) := by decide +kernel
theorem dX6_zones_9 : decode cX6_zones 9 = .ok (.ireturn, 1) := by decide +kernel
theorem dX6_noZone_0 : decode cX6_noZone 0 = .ok (.iload_n 1, 1) := by decide +kernel
theorem dX6_noZone_1 : decode cX6_noZone 1 = .ok (.i2l, 1) := by decide +kernel
theorem dX6_noZone_2 : decode cX6_noZone 2 = .ok (.lconst 0, 1) := by decide +kernel
theorem dX6_noZone_3 : decode cX6_noZone 3 = .ok (.aload_n 0, 1) := by decide +kernel
theorem dX6_noZone_4 : decode cX6_noZone 4 = .ok (.invokevirtual 54, 3) := by decide +kernel
theorem dX6_noZone_7 : decode cX6_noZone 7 = .ok (.iconst 1, 1) := by decide +kernel
theorem dX6_noZone_8 : decode cX6_noZone 8 = .ok (.isub, 1) := by decide +kernel
theorem dX6_noZone_9 : decode cX6_noZone 9 = .ok (.i2l, 1) := by decide +kernel
theorem dX6_noZone_10 : decode cX6_noZone 10 = .ok (.invokestatic 58, 3) := by decide +kernel
theorem dX6_noZone_13 : decode cX6_noZone 13 = .ok (.ifCond .ne 7, 3) := by decide +kernel
theorem dX6_noZone_16 : decode cX6_noZone 16 = .ok (.iconst 1, 1) := by decide +kernel
theorem dX6_noZone_17 : decode cX6_noZone 17 = .ok (.goto 4, 3) := by decide +kernel
theorem dX6_noZone_20 : decode cX6_noZone 20 = .ok (.iconst 0, 1) := by decide +kernel
theorem dX6_noZone_21 : decode cX6_noZone 21 = .ok (.ireturn, 1) := by decide +kernel
theorem dX6_write_0 : decode cX6_write 0 = .ok (.aload_n 0, 1) := by decide +kernel
theorem dX6_write_1 : decode cX6_write 1 = .ok (.iconst 0, 1) := by decide +kernel
theorem dX6_write_2 : decode cX6_write 2 = .ok (.putfield 48, 3) := by decide +kernel
theorem dX6_write_5 : decode cX6_write 5 = .ok (.iload_n 1, 1) := by decide +kernel
theorem dX6_write_6 : decode cX6_write 6 = .ok (.i2l, 1) := by decide +kernel
theorem dX6_write_7 : decode cX6_write 7 = .ok (.lconst 0, 1) := by decide +kernel
theorem dX6_write_8 : decode cX6_write 8 = .ok (.ldc2_w 62, 3) := by decide +kernel
theorem dX6_write_11 : decode cX6_write 11 = .ok (.invokestatic 58, 3) := by decide +kernel
theorem dX6_write_14 : decode cX6_write 14 = .ok (.ifCond .ne 6, 3) := by decide +kernel
theorem dX6_write_17 : decode cX6_write 17 = .ok (.bipush (-2), 2) := by decide +kernel
theorem dX6_write_19 : decode cX6_write 19 = .ok (.ireturn, 1) := by decide +kernel
theorem dX6_write_20 : decode cX6_write 20 = .ok (.aload_n 0, 1) := by decide +kernel
theorem dX6_write_21 : decode cX6_write 21 = .ok (.getfield 64, 3) := by decide +kernel
theorem dX6_write_24 : decode cX6_write 24 = .ok (.bipush 40, 2) := by decide +kernel
theorem dX6_write_26 : decode cX6_write 26 = .ok (.if_icmp .ne 6, 3) := by decide +kernel
theorem dX6_write_29 : decode cX6_write 29 = .ok (.bipush (-4), 2) := by decide +kernel
theorem dX6_write_31 : decode cX6_write 31 = .ok (.ireturn, 1) := by decide +kernel
theorem dX6_write_32 : decode cX6_write 32 = .ok (.aload_n 0, 1) := by decide +kernel
theorem dX6_write_33 : decode cX6_write 33 = .ok (.getfield 7, 3) := by decide +kernel
theorem dX6_write_36 : decode cX6_write 36 = .ok (.aload_n 0, 1) := by decide +kernel
theorem dX6_write_37 : decode cX6_write 37 = .ok (.getfield 64, 3) := by decide +kernel
theorem dX6_write_40 : decode cX6_write 40 = .ok (.iload_n 1, 1) := by decide +kernel
theorem dX6_write_41 : decode cX6_write 41 = .ok (.iastore, 1) := by decide +kernel
theorem dX6_write_42 : decode cX6_write 42 = .ok (.aload_n 0, 1) := by decide +kernel
theorem dX6_write_43 : decode cX6_write 43 = .ok (.dup, 1) := by decide +kernel
theorem dX6_write_44 : decode cX6_write 44 = .ok (.getfield 64, 3) := by decide +kernel
theorem dX6_write_47 : decode cX6_write 47 = .ok (.iconst 1, 1) := by decide +kernel
theorem dX6_write_48 : decode cX6_write 48 = .ok (.iadd, 1) := by decide +kernel
theorem dX6_write_49 : decode cX6_write 49 = .ok (.putfield 64, 3) := by decide +kernel
theorem dX6_write_52 : decode cX6_write 52 = .ok (.aload_n 0, 1) := by decide +kernel
theorem dX6_write_53 : decode cX6_write 53 = .ok (.getfield 64, 3) := by decide +kernel
theorem dX6_write_56 : decode cX6_write 56 = .ok (.ireturn, 1) := by decide +kernel
theorem dX6_wipe_0 : decode cX6_wipe 0 = .ok (.aload_n 0, 1) := by decide +kernel
theorem dX6_wipe_1 : decode cX6_wipe 1 = .ok (.iconst 0, 1) := by decide +kernel
theorem dX6_wipe_2 : decode cX6_wipe 2 = .ok (.putfield 48, 3) := by decide +kernel
theorem dX6_wipe_5 : decode cX6_wipe 5 = .ok (.aload_n 0, 1) := by decide +kernel
theorem dX6_wipe_6 : decode cX6_wipe 6 = .ok (.getfield 64, 3) := by decide +kernel
theorem dX6_wipe_9 : decode cX6_wipe 9 = .ok (.istore_n 1, 1) := by decide +kernel
theorem dX6_wipe_10 : decode cX6_wipe 10 = .ok (.aload_n 0, 1) := by decide +kernel
theorem dX6_wipe_11 : decode cX6_wipe 11 = .ok (.iconst 0, 1) := by decide +kernel
theorem dX6_wipe_12 : decode cX6_wipe 12 = .ok (.putfield 64, 3) := by decide +kernel
theorem dX6_wipe_15 : decode cX6_wipe 15 = .ok (.iload_n 1, 1) := by decide +kernel
theorem dX6_wipe_16 : decode cX6_wipe 16 = .ok (.ireturn, 1) := by decide +kernel
theorem dX6_figure_0 : decode cX6_figure 0 = .ok (.aload_n 0, 1) := by decide +kernel
theorem dX6_figure_1 : decode cX6_figure 1 = .ok (.getfield 67, 3) := by decide +kernel
theorem dX6_figure_4 : decode cX6_figure 4 = .ok (.aload_n 0, 1) := by decide +kernel
theorem dX6_figure_5 : decode cX6_figure 5 = .ok (.getfield 64, 3) := by decide +kernel
theorem dX6_figure_8 : decode cX6_figure 8 = .ok (.if_icmp .ge 18, 3) := by decide +kernel
theorem dX6_figure_11 : decode cX6_figure 11 = .ok (.aload_n 0, 1) := by decide +kernel
theorem dX6_figure_12 : decode cX6_figure 12 = .ok (.getfield 7, 3) := by decide +kernel
theorem dX6_figure_15 : decode cX6_figure 15 = .ok (.aload_n 0, 1) := by decide +kernel
theorem dX6_figure_16 : decode cX6_figure 16 = .ok (.getfield 67, 3) := by decide +kernel
theorem dX6_figure_19 : decode cX6_figure 19 = .ok (.iaload, 1) := by decide +kernel
theorem dX6_figure_20 : decode cX6_figure 20 = .ok (.bipush 48, 2) := by decide +kernel
theorem dX6_figure_22 : decode cX6_figure 22 = .ok (.isub, 1) := by decide +kernel
theorem dX6_figure_23 : decode cX6_figure 23 = .ok (.goto 5, 3) := by decide +kernel
theorem dX6_figure_26 : decode cX6_figure 26 = .ok (.bipush (-9), 2) := by decide +kernel
theorem dX6_figure_28 : decode cX6_figure 28 = .ok (.istore_n 3, 1) := by decide +kernel
theorem dX6_figure_29 : decode cX6_figure 29 = .ok (.iload_n 3, 1) := by decide +kernel
theorem dX6_figure_30 : decode cX6_figure 30 = .ok (.i2l, 1) := by decide +kernel
theorem dX6_figure_31 : decode cX6_figure 31 = .ok (.iload_n 1, 1) := by decide +kernel
theorem dX6_figure_32 : decode cX6_figure 32 = .ok (.i2l, 1) := by decide +kernel
theorem dX6_figure_33 : decode cX6_figure 33 = .ok (.iload_n 2, 1) := by decide +kernel
theorem dX6_figure_34 : decode cX6_figure 34 = .ok (.i2l, 1) := by decide +kernel
theorem dX6_figure_35 : decode cX6_figure 35 = .ok (.invokestatic 58, 3) := by decide +kernel
theorem dX6_figure_38 : decode cX6_figure 38 = .ok (.ifCond .ne 6, 3) := by decide +kernel
theorem dX6_figure_41 : decode cX6_figure 41 = .ok (.bipush (-9), 2) := by decide +kernel
theorem dX6_figure_43 : decode cX6_figure 43 = .ok (.ireturn, 1) := by decide +kernel
theorem dX6_figure_44 : decode cX6_figure 44 = .ok (.aload_n 0, 1) := by decide +kernel
theorem dX6_figure_45 : decode cX6_figure 45 = .ok (.dup, 1) := by decide +kernel
theorem dX6_figure_46 : decode cX6_figure 46 = .ok (.getfield 67, 3) := by decide +kernel
theorem dX6_figure_49 : decode cX6_figure 49 = .ok (.iconst 1, 1) := by decide +kernel
theorem dX6_figure_50 : decode cX6_figure 50 = .ok (.iadd, 1) := by decide +kernel
theorem dX6_figure_51 : decode cX6_figure 51 = .ok (.putfield 67, 3) := by decide +kernel
theorem dX6_figure_54 : decode cX6_figure 54 = .ok (.iload_n 3, 1) := by decide +kernel
theorem dX6_figure_55 : decode cX6_figure 55 = .ok (.ireturn, 1) := by decide +kernel
theorem dX6_readHead_0 : decode cX6_readHead 0 = .ok (.aload_n 0, 1) := by decide +kernel
theorem dX6_readHead_1 : decode cX6_readHead 1 = .ok (.aload_n 0, 1) := by decide +kernel
theorem dX6_readHead_2 : decode cX6_readHead 2 = .ok (.iconst 2, 1) := by decide +kernel
theorem dX6_readHead_3 : decode cX6_readHead 3 = .ok (.bipush 8, 2) := by decide +kernel
theorem dX6_readHead_5 : decode cX6_readHead 5 = .ok (.invokevirtual 70, 3) := by decide +kernel
theorem dX6_readHead_8 : decode cX6_readHead 8 = .ok (.putfield 74, 3) := by decide +kernel
theorem dX6_readHead_11 : decode cX6_readHead 11 = .ok (.aload_n 0, 1) := by decide +kernel
theorem dX6_readHead_12 : decode cX6_readHead 12 = .ok (.aload_n 0, 1) := by decide +kernel
theorem dX6_readHead_13 : decode cX6_readHead 13 = .ok (.getfield 74, 3) := by decide +kernel
theorem dX6_readHead_16 : decode cX6_readHead 16 = .ok (.bipush (-9), 2) := by decide +kernel
theorem dX6_readHead_18 : decode cX6_readHead 18 = .ok (.if_icmp .ne 8, 3) := by decide +kernel
theorem dX6_readHead_21 : decode cX6_readHead 21 = .ok (.bipush (-9), 2) := by decide +kernel
theorem dX6_readHead_23 : decode cX6_readHead 23 = .ok (.goto 9, 3) := by decide +kernel
theorem dX6_readHead_26 : decode cX6_readHead 26 = .ok (.aload_n 0, 1) := by decide +kernel
theorem dX6_readHead_27 : decode cX6_readHead 27 = .ok (.iconst 0, 1) := by decide +kernel
theorem dX6_readHead_28 : decode cX6_readHead 28 = .ok (.iconst 4, 1) := by decide +kernel
theorem dX6_readHead_29 : decode cX6_readHead 29 = .ok (.invokevirtual 70, 3) := by decide +kernel
theorem dX6_readHead_32 : decode cX6_readHead 32 = .ok (.putfield 77, 3) := by decide +kernel
theorem dX6_readHead_35 : decode cX6_readHead 35 = .ok (.aload_n 0, 1) := by decide +kernel
theorem dX6_readHead_36 : decode cX6_readHead 36 = .ok (.aload_n 0, 1) := by decide +kernel
theorem dX6_readHead_37 : decode cX6_readHead 37 = .ok (.getfield 77, 3) := by decide +kernel
theorem dX6_readHead_40 : decode cX6_readHead 40 = .ok (.bipush (-9), 2) := by decide +kernel
theorem dX6_readHead_42 : decode cX6_readHead 42 = .ok (.if_icmp .ne 8, 3) := by decide +kernel
theorem dX6_readHead_45 : decode cX6_readHead 45 = .ok (.bipush (-9), 2) := by decide +kernel
theorem dX6_readHead_47 : decode cX6_readHead 47 = .ok (.goto 14, 3) := by decide +kernel
theorem dX6_readHead_50 : decode cX6_readHead 50 = .ok (.aload_n 0, 1) := by decide +kernel
theorem dX6_readHead_51 : decode cX6_readHead 51 = .ok (.iconst 1, 1) := by decide +kernel
theorem dX6_readHead_52 : decode cX6_readHead 52 = .ok (.aload_n 0, 1) := by decide +kernel
theorem dX6_readHead_53 : decode cX6_readHead 53 = .ok (.getfield 74, 3) := by decide +kernel
theorem dX6_readHead_56 : decode cX6_readHead 56 = .ok (.iconst 1, 1) := by decide +kernel
theorem dX6_readHead_57 : decode cX6_readHead 57 = .ok (.isub, 1) := by decide +kernel
theorem dX6_readHead_58 : decode cX6_readHead 58 = .ok (.invokevirtual 70, 3) := by decide +kernel
theorem dX6_readHead_61 : decode cX6_readHead 61 = .ok (.putfield 80, 3) := by decide +kernel
theorem dX6_readHead_64 : decode cX6_readHead 64 = .ok (.aload_n 0, 1) := by decide +kernel
theorem dX6_readHead_65 : decode cX6_readHead 65 = .ok (.getfield 20, 3) := by decide +kernel
theorem dX6_readHead_68 : decode cX6_readHead 68 = .ok (.bipush 73, 2) := by decide +kernel
theorem dX6_readHead_70 : decode cX6_readHead 70 = .ok (.aload_n 0, 1) := by decide +kernel
theorem dX6_readHead_71 : decode cX6_readHead 71 = .ok (.getfield 80, 3) := by decide +kernel
theorem dX6_readHead_74 : decode cX6_readHead 74 = .ok (.bipush (-9), 2) := by decide +kernel
theorem dX6_readHead_76 : decode cX6_readHead 76 = .ok (.if_icmp .ne 8, 3) := by decide +kernel
theorem dX6_readHead_79 : decode cX6_readHead 79 = .ok (.bipush (-9), 2) := by decide +kernel
theorem dX6_readHead_81 : decode cX6_readHead 81 = .ok (.goto 9, 3) := by decide +kernel
theorem dX6_readHead_84 : decode cX6_readHead 84 = .ok (.aload_n 0, 1) := by decide +kernel
theorem dX6_readHead_85 : decode cX6_readHead 85 = .ok (.iconst 0, 1) := by decide +kernel
theorem dX6_readHead_86 : decode cX6_readHead 86 = .ok (.iconst 1, 1) := by decide +kernel
theorem dX6_readHead_87 : decode cX6_readHead 87 = .ok (.invokevirtual 70, 3) := by decide +kernel
theorem dX6_readHead_90 : decode cX6_readHead 90 = .ok (.iastore, 1) := by decide +kernel
theorem dX6_readHead_91 : decode cX6_readHead 91 = .ok (.aload_n 0, 1) := by decide +kernel
theorem dX6_readHead_92 : decode cX6_readHead 92 = .ok (.getfield 20, 3) := by decide +kernel
theorem dX6_readHead_95 : decode cX6_readHead 95 = .ok (.bipush 74, 2) := by decide +kernel
theorem dX6_readHead_97 : decode cX6_readHead 97 = .ok (.aload_n 0, 1) := by decide +kernel
theorem dX6_readHead_98 : decode cX6_readHead 98 = .ok (.getfield 20, 3) := by decide +kernel
theorem dX6_readHead_101 : decode cX6_readHead 101 = .ok (.bipush 73, 2) := by decide +kernel
theorem dX6_readHead_103 : decode cX6_readHead 103 = .ok (.iaload, 1) := by decide +kernel
theorem dX6_readHead_104 : decode cX6_readHead 104 = .ok (.bipush (-9), 2) := by decide +kernel
theorem dX6_readHead_106 : decode cX6_readHead 106 = .ok (.if_icmp .ne 8, 3) := by decide +kernel
theorem dX6_readHead_109 : decode cX6_readHead 109 = .ok (.bipush (-9), 2) := by decide +kernel
theorem dX6_readHead_111 : decode cX6_readHead 111 = .ok (.goto 10, 3) := by decide +kernel
theorem dX6_readHead_114 : decode cX6_readHead 114 = .ok (.aload_n 0, 1) := by decide +kernel
theorem dX6_readHead_115 : decode cX6_readHead 115 = .ok (.iconst 0, 1) := by decide +kernel
theorem dX6_readHead_116 : decode cX6_readHead 116 = .ok (.bipush 9, 2) := by decide +kernel
theorem dX6_readHead_118 : decode cX6_readHead 118 = .ok (.invokevirtual 70, 3) := by decide +kernel
theorem dX6_readHead_121 : decode cX6_readHead 121 = .ok (.iastore, 1) := by decide +kernel
theorem dX6_readHead_122 : decode cX6_readHead 122 = .ok (.aload_n 0, 1) := by decide +kernel
theorem dX6_readHead_123 : decode cX6_readHead 123 = .ok (.getfield 20, 3) := by decide +kernel
theorem dX6_readHead_126 : decode cX6_readHead 126 = .ok (.bipush 74, 2) := by decide +kernel
theorem dX6_readHead_128 : decode cX6_readHead 128 = .ok (.iaload, 1) := by decide +kernel
theorem dX6_readHead_129 : decode cX6_readHead 129 = .ok (.bipush (-9), 2) := by decide +kernel
theorem dX6_readHead_131 : decode cX6_readHead 131 = .ok (.if_icmp .eq 7, 3) := by decide +kernel
theorem dX6_readHead_134 : decode cX6_readHead 134 = .ok (.iconst 1, 1) := by decide +kernel
theorem dX6_readHead_135 : decode cX6_readHead 135 = .ok (.goto 4, 3) := by decide +kernel
theorem dX6_readHead_138 : decode cX6_readHead 138 = .ok (.iconst 0, 1) := by decide +kernel
theorem dX6_readHead_139 : decode cX6_readHead 139 = .ok (.ireturn, 1) := by decide +kernel
theorem dX6_isFree_0 : decode cX6_isFree 0 = .ok (.iload_n 1, 1) := by decide +kernel
theorem dX6_isFree_1 : decode cX6_isFree 1 = .ok (.i2l, 1) := by decide +kernel
theorem dX6_isFree_2 : decode cX6_isFree 2 = .ok (.lconst 0, 1) := by decide +kernel
theorem dX6_isFree_3 : decode cX6_isFree 3 = .ok (.aload_n 0, 1) := by decide +kernel
theorem dX6_isFree_4 : decode cX6_isFree 4 = .ok (.getfield 74, 3) := by decide +kernel
theorem dX6_isFree_7 : decode cX6_isFree 7 = .ok (.aload_n 0, 1) := by decide +kernel
theorem dX6_isFree_8 : decode cX6_isFree 8 = .ok (.getfield 77, 3) := by decide +kernel
theorem dX6_isFree_11 : decode cX6_isFree 11 = .ok (.iadd, 1) := by decide +kernel
theorem dX6_isFree_12 : decode cX6_isFree 12 = .ok (.iconst 1, 1) := by decide +kernel
theorem dX6_isFree_13 : decode cX6_isFree 13 = .ok (.isub, 1) := by decide +kernel
theorem dX6_isFree_14 : decode cX6_isFree 14 = .ok (.i2l, 1) := by decide +kernel
theorem dX6_isFree_15 : decode cX6_isFree 15 = .ok (.invokestatic 58, 3) := by decide +kernel
theorem dX6_isFree_18 : decode cX6_isFree 18 = .ok (.ifCond .eq 21, 3) := by decide +kernel
theorem dX6_isFree_21 : decode cX6_isFree 21 = .ok (.aload_n 0, 1) := by decide +kernel
theorem dX6_isFree_22 : decode cX6_isFree 22 = .ok (.getfield 20, 3) := by decide +kernel
theorem dX6_isFree_25 : decode cX6_isFree 25 = .ok (.bipush 6, 2) := by decide +kernel
theorem dX6_isFree_27 : decode cX6_isFree 27 = .ok (.iload_n 1, 1) := by decide +kernel
theorem dX6_isFree_28 : decode cX6_isFree 28 = .ok (.imul, 1) := by decide +kernel
theorem dX6_isFree_29 : decode cX6_isFree 29 = .ok (.iconst 0, 1) := by decide +kernel
theorem dX6_isFree_30 : decode cX6_isFree 30 = .ok (.iadd, 1) := by decide +kernel
theorem dX6_isFree_31 : decode cX6_isFree 31 = .ok (.iaload, 1) := by decide +kernel
theorem dX6_isFree_32 : decode cX6_isFree 32 = .ok (.ifCond .ne 7, 3) := by decide +kernel
theorem dX6_isFree_35 : decode cX6_isFree 35 = .ok (.iconst 1, 1) := by decide +kernel
theorem dX6_isFree_36 : decode cX6_isFree 36 = .ok (.goto 4, 3) := by decide +kernel
theorem dX6_isFree_39 : decode cX6_isFree 39 = .ok (.iconst 0, 1) := by decide +kernel
theorem dX6_isFree_40 : decode cX6_isFree 40 = .ok (.ireturn, 1) := by decide +kernel
theorem dX6_readCarton_0 : decode cX6_readCarton 0 = .ok (.aload_n 0, 1) := by decide +kernel
theorem dX6_readCarton_1 : decode cX6_readCarton 1 = .ok (.getfield 7, 3) := by decide +kernel
theorem dX6_readCarton_4 : decode cX6_readCarton 4 = .ok (.aload_n 0, 1) := by decide +kernel
theorem dX6_readCarton_5 : decode cX6_readCarton 5 = .ok (.getfield 67, 3) := by decide +kernel
theorem dX6_readCarton_8 : decode cX6_readCarton 8 = .ok (.iaload, 1) := by decide +kernel
theorem dX6_readCarton_9 : decode cX6_readCarton 9 = .ok (.bipush 99, 2) := by decide +kernel
theorem dX6_readCarton_11 : decode cX6_readCarton 11 = .ok (.if_icmp .ne 22, 3) := by decide +kernel
theorem dX6_readCarton_14 : decode cX6_readCarton 14 = .ok (.aload_n 0, 1) := by decide +kernel
theorem dX6_readCarton_15 : decode cX6_readCarton 15 = .ok (.getfield 20, 3) := by decide +kernel
theorem dX6_readCarton_18 : decode cX6_readCarton 18 = .ok (.bipush 76, 2) := by decide +kernel
theorem dX6_readCarton_20 : decode cX6_readCarton 20 = .ok (.iaload, 1) := by decide +kernel
theorem dX6_readCarton_21 : decode cX6_readCarton 21 = .ok (.aload_n 0, 1) := by decide +kernel
theorem dX6_readCarton_22 : decode cX6_readCarton 22 = .ok (.getfield 74, 3) := by decide +kernel
theorem dX6_readCarton_25 : decode cX6_readCarton 25 = .ok (.aload_n 0, 1) := by decide +kernel
theorem dX6_readCarton_26 : decode cX6_readCarton 26 = .ok (.getfield 77, 3) := by decide +kernel
theorem dX6_readCarton_29 : decode cX6_readCarton 29 = .ok (.iadd, 1) := by decide +kernel
theorem dX6_readCarton_30 : decode cX6_readCarton 30 = .ok (.if_icmp .ne 5, 3) := by decide +kernel
theorem dX6_readCarton_33 : decode cX6_readCarton 33 = .ok (.iconst 0, 1) := by decide +kernel
theorem dX6_readCarton_34 : decode cX6_readCarton 34 = .ok (.ireturn, 1) := by decide +kernel
theorem dX6_readCarton_35 : decode cX6_readCarton 35 = .ok (.aload_n 0, 1) := by decide +kernel
theorem dX6_readCarton_36 : decode cX6_readCarton 36 = .ok (.dup, 1) := by decide +kernel
theorem dX6_readCarton_37 : decode cX6_readCarton 37 = .ok (.getfield 67, 3) := by decide +kernel
theorem dX6_readCarton_40 : decode cX6_readCarton 40 = .ok (.iconst 1, 1) := by decide +kernel
theorem dX6_readCarton_41 : decode cX6_readCarton 41 = .ok (.iadd, 1) := by decide +kernel
theorem dX6_readCarton_42 : decode cX6_readCarton 42 = .ok (.putfield 67, 3) := by decide +kernel
theorem dX6_readCarton_45 : decode cX6_readCarton 45 = .ok (.aload_n 0, 1) := by decide +kernel
theorem dX6_readCarton_46 : decode cX6_readCarton 46 = .ok (.getfield 67, 3) := by decide +kernel
theorem dX6_readCarton_49 : decode cX6_readCarton 49 = .ok (.aload_n 0, 1) := by decide +kernel
theorem dX6_readCarton_50 : decode cX6_readCarton 50 = .ok (.getfield 64, 3) := by decide +kernel
theorem dX6_readCarton_53 : decode cX6_readCarton 53 = .ok (.if_icmp .ge 18, 3) := by decide +kernel
theorem dX6_readCarton_56 : decode cX6_readCarton 56 = .ok (.aload_n 0, 1) := by decide +kernel
theorem dX6_readCarton_57 : decode cX6_readCarton 57 = .ok (.getfield 7, 3) := by decide +kernel
theorem dX6_readCarton_60 : decode cX6_readCarton 60 = .ok (.aload_n 0, 1) := by decide +kernel
theorem dX6_readCarton_61 : decode cX6_readCarton 61 = .ok (.getfield 67, 3) := by decide +kernel
theorem dX6_readCarton_64 : decode cX6_readCarton 64 = .ok (.iaload, 1) := by decide +kernel
theorem dX6_readCarton_65 : decode cX6_readCarton 65 = .ok (.bipush 48, 2) := by decide +kernel
theorem dX6_readCarton_67 : decode cX6_readCarton 67 = .ok (.isub, 1) := by decide +kernel
theorem dX6_readCarton_68 : decode cX6_readCarton 68 = .ok (.goto 5, 3) := by decide +kernel
theorem dX6_readCarton_71 : decode cX6_readCarton 71 = .ok (.bipush (-9), 2) := by decide +kernel
theorem dX6_readCarton_73 : decode cX6_readCarton 73 = .ok (.istore_n 1, 1) := by decide +kernel
theorem dX6_readCarton_74 : decode cX6_readCarton 74 = .ok (.iconst 0, 1) := by decide +kernel
theorem dX6_readCarton_75 : decode cX6_readCarton 75 = .ok (.istore_n 2, 1) := by decide +kernel
theorem dX6_readCarton_76 : decode cX6_readCarton 76 = .ok (.iconst 0, 1) := by decide +kernel
theorem dX6_readCarton_77 : decode cX6_readCarton 77 = .ok (.istore_n 3, 1) := by decide +kernel
theorem dX6_readCarton_78 : decode cX6_readCarton 78 = .ok (.iload_n 3, 1) := by decide +kernel
theorem dX6_readCarton_79 : decode cX6_readCarton 79 = .ok (.bipush 10, 2) := by decide +kernel
theorem dX6_readCarton_81 : decode cX6_readCarton 81 = .ok (.if_icmp .ge 42, 3) := by decide +kernel
theorem dX6_readCarton_84 : decode cX6_readCarton 84 = .ok (.iload_n 2, 1) := by decide +kernel
theorem dX6_readCarton_85 : decode cX6_readCarton 85 = .ok (.ifCond .ne 26, 3) := by decide +kernel
theorem dX6_readCarton_88 : decode cX6_readCarton 88 = .ok (.iload_n 1, 1) := by decide +kernel
theorem dX6_readCarton_89 : decode cX6_readCarton 89 = .ok (.i2l, 1) := by decide +kernel
theorem dX6_readCarton_90 : decode cX6_readCarton 90 = .ok (.lconst 0, 1) := by decide +kernel
theorem dX6_readCarton_91 : decode cX6_readCarton 91 = .ok (.lconst 1, 1) := by decide +kernel
theorem dX6_readCarton_92 : decode cX6_readCarton 92 = .ok (.invokestatic 58, 3) := by decide +kernel
theorem dX6_readCarton_95 : decode cX6_readCarton 95 = .ok (.ifCond .eq 20, 3) := by decide +kernel
theorem dX6_readCarton_98 : decode cX6_readCarton 98 = .ok (.aload_n 0, 1) := by decide +kernel
theorem dX6_readCarton_99 : decode cX6_readCarton 99 = .ok (.bipush 10, 2) := by decide +kernel
theorem dX6_readCarton_101 : decode cX6_readCarton 101 = .ok (.iload_n 1, 1) := by decide +kernel
theorem dX6_readCarton_102 : decode cX6_readCarton 102 = .ok (.imul, 1) := by decide +kernel
theorem dX6_readCarton_103 : decode cX6_readCarton 103 = .ok (.iload_n 3, 1) := by decide +kernel
theorem dX6_readCarton_104 : decode cX6_readCarton 104 = .ok (.iadd, 1) := by decide +kernel
theorem dX6_readCarton_105 : decode cX6_readCarton 105 = .ok (.invokevirtual 83, 3) := by decide +kernel
theorem dX6_readCarton_108 : decode cX6_readCarton 108 = .ok (.ifCond .eq 7, 3) := by decide +kernel
theorem dX6_readCarton_111 : decode cX6_readCarton 111 = .ok (.iconst 1, 1) := by decide +kernel
theorem dX6_readCarton_112 : decode cX6_readCarton 112 = .ok (.goto 4, 3) := by decide +kernel
theorem dX6_readCarton_115 : decode cX6_readCarton 115 = .ok (.iconst 0, 1) := by decide +kernel
theorem dX6_readCarton_116 : decode cX6_readCarton 116 = .ok (.istore_n 2, 1) := by decide +kernel
theorem dX6_readCarton_117 : decode cX6_readCarton 117 = .ok (.iinc 3 1, 3) := by decide +kernel
theorem dX6_readCarton_120 : decode cX6_readCarton 120 = .ok (.goto (-42), 3) := by decide +kernel
theorem dX6_readCarton_123 : decode cX6_readCarton 123 = .ok (.iload_n 2, 1) := by decide +kernel
theorem dX6_readCarton_124 : decode cX6_readCarton 124 = .ok (.ifCond .ne 5, 3) := by decide +kernel
theorem dX6_readCarton_127 : decode cX6_readCarton 127 = .ok (.iconst 0, 1) := by decide +kernel
theorem dX6_readCarton_128 : decode cX6_readCarton 128 = .ok (.ireturn, 1) := by decide +kernel
theorem dX6_readCarton_129 : decode cX6_readCarton 129 = .ok (.aload_n 0, 1) := by decide +kernel
theorem dX6_readCarton_130 : decode cX6_readCarton 130 = .ok (.dup, 1) := by decide +kernel
theorem dX6_readCarton_131 : decode cX6_readCarton 131 = .ok (.getfield 67, 3) := by decide +kernel
theorem dX6_readCarton_134 : decode cX6_readCarton 134 = .ok (.iconst 1, 1) := by decide +kernel
theorem dX6_readCarton_135 : decode cX6_readCarton 135 = .ok (.iadd, 1) := by decide +kernel
theorem dX6_readCarton_136 : decode cX6_readCarton 136 = .ok (.putfield 67, 3) := by decide +kernel
theorem dX6_readCarton_139 : decode cX6_readCarton 139 = .ok (.aload_n 0, 1) := by decide +kernel
theorem dX6_readCarton_140 : decode cX6_readCarton 140 = .ok (.getfield 67, 3) := by decide +kernel
theorem dX6_readCarton_143 : decode cX6_readCarton 143 = .ok (.aload_n 0, 1) := by decide +kernel
theorem dX6_readCarton_144 : decode cX6_readCarton 144 = .ok (.getfield 64, 3) := by decide +kernel
theorem dX6_readCarton_147 : decode cX6_readCarton 147 = .ok (.if_icmp .ge 18, 3) := by decide +kernel
theorem dX6_readCarton_150 : decode cX6_readCarton 150 = .ok (.aload_n 0, 1) := by decide +kernel
theorem dX6_readCarton_151 : decode cX6_readCarton 151 = .ok (.getfield 7, 3) := by decide +kernel
theorem dX6_readCarton_154 : decode cX6_readCarton 154 = .ok (.aload_n 0, 1) := by decide +kernel
theorem dX6_readCarton_155 : decode cX6_readCarton 155 = .ok (.getfield 67, 3) := by decide +kernel
theorem dX6_readCarton_158 : decode cX6_readCarton 158 = .ok (.iaload, 1) := by decide +kernel
theorem dX6_readCarton_159 : decode cX6_readCarton 159 = .ok (.bipush 48, 2) := by decide +kernel
theorem dX6_readCarton_161 : decode cX6_readCarton 161 = .ok (.isub, 1) := by decide +kernel
theorem dX6_readCarton_162 : decode cX6_readCarton 162 = .ok (.goto 5, 3) := by decide +kernel
theorem dX6_readCarton_165 : decode cX6_readCarton 165 = .ok (.bipush (-9), 2) := by decide +kernel
end
section
theorem dX6_readCarton_167 : decode cX6_readCarton 167 = .ok (.istore_n 3, 1) := by decide +kernel
theorem dX6_readCarton_168 : decode cX6_readCarton 168 = .ok (.iload_n 3, 1) := by decide +kernel
theorem dX6_readCarton_169 : decode cX6_readCarton 169 = .ok (.i2l, 1) := by decide +kernel
theorem dX6_readCarton_170 : decode cX6_readCarton 170 = .ok (.lconst 0, 1) := by decide +kernel
theorem dX6_readCarton_171 : decode cX6_readCarton 171 = .ok (.ldc2_w 87, 3) := by decide +kernel
theorem dX6_readCarton_174 : decode cX6_readCarton 174 = .ok (.invokestatic 58, 3) := by decide +kernel
theorem dX6_readCarton_177 : decode cX6_readCarton 177 = .ok (.ifCond .eq 16, 3) := by decide +kernel
theorem dX6_readCarton_180 : decode cX6_readCarton 180 = .ok (.aload_n 0, 1) := by decide +kernel
theorem dX6_readCarton_181 : decode cX6_readCarton 181 = .ok (.bipush 10, 2) := by decide +kernel
theorem dX6_readCarton_183 : decode cX6_readCarton 183 = .ok (.iload_n 1, 1) := by decide +kernel
theorem dX6_readCarton_184 : decode cX6_readCarton 184 = .ok (.imul, 1) := by decide +kernel
theorem dX6_readCarton_185 : decode cX6_readCarton 185 = .ok (.iload_n 3, 1) := by decide +kernel
theorem dX6_readCarton_186 : decode cX6_readCarton 186 = .ok (.iadd, 1) := by decide +kernel
theorem dX6_readCarton_187 : decode cX6_readCarton 187 = .ok (.invokevirtual 83, 3) := by decide +kernel
theorem dX6_readCarton_190 : decode cX6_readCarton 190 = .ok (.ifCond .ne 5, 3) := by decide +kernel
theorem dX6_readCarton_193 : decode cX6_readCarton 193 = .ok (.iconst 0, 1) := by decide +kernel
theorem dX6_readCarton_194 : decode cX6_readCarton 194 = .ok (.ireturn, 1) := by decide +kernel
theorem dX6_readCarton_195 : decode cX6_readCarton 195 = .ok (.aload_n 0, 1) := by decide +kernel
theorem dX6_readCarton_196 : decode cX6_readCarton 196 = .ok (.dup, 1) := by decide +kernel
theorem dX6_readCarton_197 : decode cX6_readCarton 197 = .ok (.getfield 67, 3) := by decide +kernel
theorem dX6_readCarton_200 : decode cX6_readCarton 200 = .ok (.iconst 1, 1) := by decide +kernel
theorem dX6_readCarton_201 : decode cX6_readCarton 201 = .ok (.iadd, 1) := by decide +kernel
theorem dX6_readCarton_202 : decode cX6_readCarton 202 = .ok (.putfield 67, 3) := by decide +kernel
theorem dX6_readCarton_205 : decode cX6_readCarton 205 = .ok (.aload_n 0, 1) := by decide +kernel
theorem dX6_readCarton_206 : decode cX6_readCarton 206 = .ok (.getfield 20, 3) := by decide +kernel
theorem dX6_readCarton_209 : decode cX6_readCarton 209 = .ok (.bipush 76, 2) := by decide +kernel
theorem dX6_readCarton_211 : decode cX6_readCarton 211 = .ok (.dup2, 1) := by decide +kernel
theorem dX6_readCarton_212 : decode cX6_readCarton 212 = .ok (.iaload, 1) := by decide +kernel
theorem dX6_readCarton_213 : decode cX6_readCarton 213 = .ok (.iconst 1, 1) := by decide +kernel
theorem dX6_readCarton_214 : decode cX6_readCarton 214 = .ok (.iadd, 1) := by decide +kernel
theorem dX6_readCarton_215 : decode cX6_readCarton 215 = .ok (.iastore, 1) := by decide +kernel
theorem dX6_readCarton_216 : decode cX6_readCarton 216 = .ok (.aload_n 0, 1) := by decide +kernel
theorem dX6_readCarton_217 : decode cX6_readCarton 217 = .ok (.getfield 20, 3) := by decide +kernel
theorem dX6_readCarton_220 : decode cX6_readCarton 220 = .ok (.bipush 6, 2) := by decide +kernel
theorem dX6_readCarton_222 : decode cX6_readCarton 222 = .ok (.bipush 10, 2) := by decide +kernel
theorem dX6_readCarton_224 : decode cX6_readCarton 224 = .ok (.iload_n 1, 1) := by decide +kernel
theorem dX6_readCarton_225 : decode cX6_readCarton 225 = .ok (.imul, 1) := by decide +kernel
theorem dX6_readCarton_226 : decode cX6_readCarton 226 = .ok (.iload_n 3, 1) := by decide +kernel
theorem dX6_readCarton_227 : decode cX6_readCarton 227 = .ok (.iadd, 1) := by decide +kernel
theorem dX6_readCarton_228 : decode cX6_readCarton 228 = .ok (.imul, 1) := by decide +kernel
theorem dX6_readCarton_229 : decode cX6_readCarton 229 = .ok (.iconst 0, 1) := by decide +kernel
theorem dX6_readCarton_230 : decode cX6_readCarton 230 = .ok (.iadd, 1) := by decide +kernel
theorem dX6_readCarton_231 : decode cX6_readCarton 231 = .ok (.aload_n 0, 1) := by decide +kernel
theorem dX6_readCarton_232 : decode cX6_readCarton 232 = .ok (.getfield 20, 3) := by decide +kernel
theorem dX6_readCarton_235 : decode cX6_readCarton 235 = .ok (.bipush 76, 2) := by decide +kernel
theorem dX6_readCarton_237 : decode cX6_readCarton 237 = .ok (.iaload, 1) := by decide +kernel
theorem dX6_readCarton_238 : decode cX6_readCarton 238 = .ok (.iastore, 1) := by decide +kernel
theorem dX6_readCarton_239 : decode cX6_readCarton 239 = .ok (.iconst 1, 1) := by decide +kernel
theorem dX6_readCarton_240 : decode cX6_readCarton 240 = .ok (.ireturn, 1) := by decide +kernel
theorem dX6_readBelt_0 : decode cX6_readBelt 0 = .ok (.aload_n 0, 1) := by decide +kernel
theorem dX6_readBelt_1 : decode cX6_readBelt 1 = .ok (.iconst 0, 1) := by decide +kernel
theorem dX6_readBelt_2 : decode cX6_readBelt 2 = .ok (.putfield 67, 3) := by decide +kernel
theorem dX6_readBelt_5 : decode cX6_readBelt 5 = .ok (.iconst 0, 1) := by decide +kernel
theorem dX6_readBelt_6 : decode cX6_readBelt 6 = .ok (.istore_n 1, 1) := by decide +kernel
theorem dX6_readBelt_7 : decode cX6_readBelt 7 = .ok (.iload_n 1, 1) := by decide +kernel
theorem dX6_readBelt_8 : decode cX6_readBelt 8 = .ok (.bipush 79, 2) := by decide +kernel
theorem dX6_readBelt_10 : decode cX6_readBelt 10 = .ok (.if_icmp .ge 16, 3) := by decide +kernel
theorem dX6_readBelt_13 : decode cX6_readBelt 13 = .ok (.aload_n 0, 1) := by decide +kernel
theorem dX6_readBelt_14 : decode cX6_readBelt 14 = .ok (.getfield 20, 3) := by decide +kernel
theorem dX6_readBelt_17 : decode cX6_readBelt 17 = .ok (.iload_n 1, 1) := by decide +kernel
theorem dX6_readBelt_18 : decode cX6_readBelt 18 = .ok (.iconst 0, 1) := by decide +kernel
theorem dX6_readBelt_19 : decode cX6_readBelt 19 = .ok (.iastore, 1) := by decide +kernel
theorem dX6_readBelt_20 : decode cX6_readBelt 20 = .ok (.iinc 1 1, 3) := by decide +kernel
theorem dX6_readBelt_23 : decode cX6_readBelt 23 = .ok (.goto (-16), 3) := by decide +kernel
theorem dX6_readBelt_26 : decode cX6_readBelt 26 = .ok (.aload_n 0, 1) := by decide +kernel
theorem dX6_readBelt_27 : decode cX6_readBelt 27 = .ok (.getfield 64, 3) := by decide +kernel
theorem dX6_readBelt_30 : decode cX6_readBelt 30 = .ok (.ifCond .eq 14, 3) := by decide +kernel
theorem dX6_readBelt_33 : decode cX6_readBelt 33 = .ok (.aload_n 0, 1) := by decide +kernel
theorem dX6_readBelt_34 : decode cX6_readBelt 34 = .ok (.getfield 7, 3) := by decide +kernel
theorem dX6_readBelt_37 : decode cX6_readBelt 37 = .ok (.iconst 0, 1) := by decide +kernel
theorem dX6_readBelt_38 : decode cX6_readBelt 38 = .ok (.iaload, 1) := by decide +kernel
theorem dX6_readBelt_39 : decode cX6_readBelt 39 = .ok (.bipush 90, 2) := by decide +kernel
theorem dX6_readBelt_41 : decode cX6_readBelt 41 = .ok (.if_icmp .eq 5, 3) := by decide +kernel
theorem dX6_readBelt_44 : decode cX6_readBelt 44 = .ok (.iconst 0, 1) := by decide +kernel
theorem dX6_readBelt_45 : decode cX6_readBelt 45 = .ok (.ireturn, 1) := by decide +kernel
theorem dX6_readBelt_46 : decode cX6_readBelt 46 = .ok (.aload_n 0, 1) := by decide +kernel
theorem dX6_readBelt_47 : decode cX6_readBelt 47 = .ok (.iconst 1, 1) := by decide +kernel
theorem dX6_readBelt_48 : decode cX6_readBelt 48 = .ok (.putfield 67, 3) := by decide +kernel
theorem dX6_readBelt_51 : decode cX6_readBelt 51 = .ok (.aload_n 0, 1) := by decide +kernel
theorem dX6_readBelt_52 : decode cX6_readBelt 52 = .ok (.invokevirtual 89, 3) := by decide +kernel
theorem dX6_readBelt_55 : decode cX6_readBelt 55 = .ok (.ifCond .ne 8, 3) := by decide +kernel
theorem dX6_readBelt_58 : decode cX6_readBelt 58 = .ok (.aload_n 0, 1) := by decide +kernel
theorem dX6_readBelt_59 : decode cX6_readBelt 59 = .ok (.getfield 67, 3) := by decide +kernel
theorem dX6_readBelt_62 : decode cX6_readBelt 62 = .ok (.ireturn, 1) := by decide +kernel
theorem dX6_readBelt_63 : decode cX6_readBelt 63 = .ok (.aload_n 0, 1) := by decide +kernel
theorem dX6_readBelt_64 : decode cX6_readBelt 64 = .ok (.getfield 67, 3) := by decide +kernel
theorem dX6_readBelt_67 : decode cX6_readBelt 67 = .ok (.aload_n 0, 1) := by decide +kernel
theorem dX6_readBelt_68 : decode cX6_readBelt 68 = .ok (.getfield 64, 3) := by decide +kernel
theorem dX6_readBelt_71 : decode cX6_readBelt 71 = .ok (.if_icmp .ge 15, 3) := by decide +kernel
theorem dX6_readBelt_74 : decode cX6_readBelt 74 = .ok (.aload_n 0, 1) := by decide +kernel
theorem dX6_readBelt_75 : decode cX6_readBelt 75 = .ok (.invokevirtual 93, 3) := by decide +kernel
theorem dX6_readBelt_78 : decode cX6_readBelt 78 = .ok (.ifCond .ne (-15), 3) := by decide +kernel
theorem dX6_readBelt_81 : decode cX6_readBelt 81 = .ok (.aload_n 0, 1) := by decide +kernel
theorem dX6_readBelt_82 : decode cX6_readBelt 82 = .ok (.getfield 67, 3) := by decide +kernel
theorem dX6_readBelt_85 : decode cX6_readBelt 85 = .ok (.ireturn, 1) := by decide +kernel
theorem dX6_readBelt_86 : decode cX6_readBelt 86 = .ok (.bipush (-9), 2) := by decide +kernel
theorem dX6_readBelt_88 : decode cX6_readBelt 88 = .ok (.ireturn, 1) := by decide +kernel
theorem dX6_fault_0 : decode cX6_fault 0 = .ok (.aload_n 0, 1) := by decide +kernel
theorem dX6_fault_1 : decode cX6_fault 1 = .ok (.iconst 0, 1) := by decide +kernel
theorem dX6_fault_2 : decode cX6_fault 2 = .ok (.putfield 48, 3) := by decide +kernel
theorem dX6_fault_5 : decode cX6_fault 5 = .ok (.aload_n 0, 1) := by decide +kernel
theorem dX6_fault_6 : decode cX6_fault 6 = .ok (.invokevirtual 96, 3) := by decide +kernel
theorem dX6_fault_9 : decode cX6_fault 9 = .ok (.ireturn, 1) := by decide +kernel
theorem dX6_belt_0 : decode cX6_belt 0 = .ok (.aload_n 0, 1) := by decide +kernel
theorem dX6_belt_1 : decode cX6_belt 1 = .ok (.iconst 0, 1) := by decide +kernel
theorem dX6_belt_2 : decode cX6_belt 2 = .ok (.putfield 48, 3) := by decide +kernel
theorem dX6_belt_5 : decode cX6_belt 5 = .ok (.aload_n 0, 1) := by decide +kernel
theorem dX6_belt_6 : decode cX6_belt 6 = .ok (.invokevirtual 96, 3) := by decide +kernel
theorem dX6_belt_9 : decode cX6_belt 9 = .ok (.bipush (-9), 2) := by decide +kernel
theorem dX6_belt_11 : decode cX6_belt 11 = .ok (.if_icmp .eq 6, 3) := by decide +kernel
theorem dX6_belt_14 : decode cX6_belt 14 = .ok (.bipush (-3), 2) := by decide +kernel
theorem dX6_belt_16 : decode cX6_belt 16 = .ok (.ireturn, 1) := by decide +kernel
theorem dX6_belt_17 : decode cX6_belt 17 = .ok (.aload_n 0, 1) := by decide +kernel
theorem dX6_belt_18 : decode cX6_belt 18 = .ok (.aload_n 0, 1) := by decide +kernel
theorem dX6_belt_19 : decode cX6_belt 19 = .ok (.getfield 74, 3) := by decide +kernel
theorem dX6_belt_22 : decode cX6_belt 22 = .ok (.putfield 13, 3) := by decide +kernel
theorem dX6_belt_25 : decode cX6_belt 25 = .ok (.aload_n 0, 1) := by decide +kernel
theorem dX6_belt_26 : decode cX6_belt 26 = .ok (.aload_n 0, 1) := by decide +kernel
theorem dX6_belt_27 : decode cX6_belt 27 = .ok (.getfield 77, 3) := by decide +kernel
theorem dX6_belt_30 : decode cX6_belt 30 = .ok (.putfield 51, 3) := by decide +kernel
theorem dX6_belt_33 : decode cX6_belt 33 = .ok (.aload_n 0, 1) := by decide +kernel
theorem dX6_belt_34 : decode cX6_belt 34 = .ok (.aload_n 0, 1) := by decide +kernel
theorem dX6_belt_35 : decode cX6_belt 35 = .ok (.getfield 80, 3) := by decide +kernel
theorem dX6_belt_38 : decode cX6_belt 38 = .ok (.putfield 17, 3) := by decide +kernel
theorem dX6_belt_41 : decode cX6_belt 41 = .ok (.iconst 0, 1) := by decide +kernel
theorem dX6_belt_42 : decode cX6_belt 42 = .ok (.istore_n 1, 1) := by decide +kernel
theorem dX6_belt_43 : decode cX6_belt 43 = .ok (.iload_n 1, 1) := by decide +kernel
theorem dX6_belt_44 : decode cX6_belt 44 = .ok (.bipush 79, 2) := by decide +kernel
theorem dX6_belt_46 : decode cX6_belt 46 = .ok (.if_icmp .ge 21, 3) := by decide +kernel
theorem dX6_belt_49 : decode cX6_belt 49 = .ok (.aload_n 0, 1) := by decide +kernel
theorem dX6_belt_50 : decode cX6_belt 50 = .ok (.getfield 23, 3) := by decide +kernel
theorem dX6_belt_53 : decode cX6_belt 53 = .ok (.iload_n 1, 1) := by decide +kernel
theorem dX6_belt_54 : decode cX6_belt 54 = .ok (.aload_n 0, 1) := by decide +kernel
theorem dX6_belt_55 : decode cX6_belt 55 = .ok (.getfield 20, 3) := by decide +kernel
theorem dX6_belt_58 : decode cX6_belt 58 = .ok (.iload_n 1, 1) := by decide +kernel
theorem dX6_belt_59 : decode cX6_belt 59 = .ok (.iaload, 1) := by decide +kernel
theorem dX6_belt_60 : decode cX6_belt 60 = .ok (.iastore, 1) := by decide +kernel
theorem dX6_belt_61 : decode cX6_belt 61 = .ok (.iinc 1 1, 3) := by decide +kernel
theorem dX6_belt_64 : decode cX6_belt 64 = .ok (.goto (-21), 3) := by decide +kernel
theorem dX6_belt_67 : decode cX6_belt 67 = .ok (.aload_n 0, 1) := by decide +kernel
theorem dX6_belt_68 : decode cX6_belt 68 = .ok (.getfield 23, 3) := by decide +kernel
theorem dX6_belt_71 : decode cX6_belt 71 = .ok (.bipush 72, 2) := by decide +kernel
theorem dX6_belt_73 : decode cX6_belt 73 = .ok (.iconst 1, 1) := by decide +kernel
theorem dX6_belt_74 : decode cX6_belt 74 = .ok (.iastore, 1) := by decide +kernel
theorem dX6_belt_75 : decode cX6_belt 75 = .ok (.aload_n 0, 1) := by decide +kernel
theorem dX6_belt_76 : decode cX6_belt 76 = .ok (.iconst 0, 1) := by decide +kernel
theorem dX6_belt_77 : decode cX6_belt 77 = .ok (.putfield 99, 3) := by decide +kernel
theorem dX6_belt_80 : decode cX6_belt 80 = .ok (.aload_n 0, 1) := by decide +kernel
theorem dX6_belt_81 : decode cX6_belt 81 = .ok (.getfield 35, 3) := by decide +kernel
theorem dX6_belt_84 : decode cX6_belt 84 = .ok (.iconst 0, 1) := by decide +kernel
theorem dX6_belt_85 : decode cX6_belt 85 = .ok (.iconst 0, 1) := by decide +kernel
theorem dX6_belt_86 : decode cX6_belt 86 = .ok (.bastore, 1) := by decide +kernel
theorem dX6_belt_87 : decode cX6_belt 87 = .ok (.aload_n 0, 1) := by decide +kernel
theorem dX6_belt_88 : decode cX6_belt 88 = .ok (.getfield 35, 3) := by decide +kernel
theorem dX6_belt_91 : decode cX6_belt 91 = .ok (.iconst 1, 1) := by decide +kernel
theorem dX6_belt_92 : decode cX6_belt 92 = .ok (.iconst 0, 1) := by decide +kernel
theorem dX6_belt_93 : decode cX6_belt 93 = .ok (.bastore, 1) := by decide +kernel
theorem dX6_belt_94 : decode cX6_belt 94 = .ok (.aload_n 0, 1) := by decide +kernel
theorem dX6_belt_95 : decode cX6_belt 95 = .ok (.invokevirtual 54, 3) := by decide +kernel
theorem dX6_belt_98 : decode cX6_belt 98 = .ok (.ireturn, 1) := by decide +kernel
theorem dX6_behind_0 : decode cX6_behind 0 = .ok (.iload_n 1, 1) := by decide +kernel
theorem dX6_behind_1 : decode cX6_behind 1 = .ok (.aload_n 0, 1) := by decide +kernel
theorem dX6_behind_2 : decode cX6_behind 2 = .ok (.getfield 13, 3) := by decide +kernel
theorem dX6_behind_5 : decode cX6_behind 5 = .ok (.iconst 1, 1) := by decide +kernel
theorem dX6_behind_6 : decode cX6_behind 6 = .ok (.isub, 1) := by decide +kernel
theorem dX6_behind_7 : decode cX6_behind 7 = .ok (.if_icmp .ne 8, 3) := by decide +kernel
theorem dX6_behind_10 : decode cX6_behind 10 = .ok (.bipush 99, 2) := by decide +kernel
theorem dX6_behind_12 : decode cX6_behind 12 = .ok (.goto 23, 3) := by decide +kernel
theorem dX6_behind_15 : decode cX6_behind 15 = .ok (.iload_n 1, 1) := by decide +kernel
theorem dX6_behind_16 : decode cX6_behind 16 = .ok (.aload_n 0, 1) := by decide +kernel
theorem dX6_behind_17 : decode cX6_behind 17 = .ok (.invokevirtual 54, 3) := by decide +kernel
theorem dX6_behind_20 : decode cX6_behind 20 = .ok (.iconst 1, 1) := by decide +kernel
theorem dX6_behind_21 : decode cX6_behind 21 = .ok (.isub, 1) := by decide +kernel
theorem dX6_behind_22 : decode cX6_behind 22 = .ok (.if_icmp .ne 10, 3) := by decide +kernel
theorem dX6_behind_25 : decode cX6_behind 25 = .ok (.aload_n 0, 1) := by decide +kernel
theorem dX6_behind_26 : decode cX6_behind 26 = .ok (.getfield 17, 3) := by decide +kernel
theorem dX6_behind_29 : decode cX6_behind 29 = .ok (.goto 6, 3) := by decide +kernel
theorem dX6_behind_32 : decode cX6_behind 32 = .ok (.iload_n 1, 1) := by decide +kernel
theorem dX6_behind_33 : decode cX6_behind 33 = .ok (.iconst 1, 1) := by decide +kernel
theorem dX6_behind_34 : decode cX6_behind 34 = .ok (.iadd, 1) := by decide +kernel
theorem dX6_behind_35 : decode cX6_behind 35 = .ok (.ireturn, 1) := by decide +kernel
theorem dX6_seesAt_0 : decode cX6_seesAt 0 = .ok (.aload_n 0, 1) := by decide +kernel
theorem dX6_seesAt_1 : decode cX6_seesAt 1 = .ok (.bipush 6, 2) := by decide +kernel
theorem dX6_seesAt_3 : decode cX6_seesAt 3 = .ok (.iload_n 1, 1) := by decide +kernel
theorem dX6_seesAt_4 : decode cX6_seesAt 4 = .ok (.imul, 1) := by decide +kernel
theorem dX6_seesAt_5 : decode cX6_seesAt 5 = .ok (.iconst 1, 1) := by decide +kernel
theorem dX6_seesAt_6 : decode cX6_seesAt 6 = .ok (.iadd, 1) := by decide +kernel
theorem dX6_seesAt_7 : decode cX6_seesAt 7 = .ok (.iaload, 1) := by decide +kernel
theorem dX6_seesAt_8 : decode cX6_seesAt 8 = .ok (.istore_n 2, 1) := by decide +kernel
theorem dX6_seesAt_9 : decode cX6_seesAt 9 = .ok (.iload_n 2, 1) := by decide +kernel
theorem dX6_seesAt_10 : decode cX6_seesAt 10 = .ok (.iconst 2, 1) := by decide +kernel
theorem dX6_seesAt_11 : decode cX6_seesAt 11 = .ok (.if_icmp .eq 18, 3) := by decide +kernel
theorem dX6_seesAt_14 : decode cX6_seesAt 14 = .ok (.iload_n 2, 1) := by decide +kernel
theorem dX6_seesAt_15 : decode cX6_seesAt 15 = .ok (.ifCond .ne 18, 3) := by decide +kernel
theorem dX6_seesAt_18 : decode cX6_seesAt 18 = .ok (.aload_n 0, 1) := by decide +kernel
theorem dX6_seesAt_19 : decode cX6_seesAt 19 = .ok (.bipush 6, 2) := by decide +kernel
theorem dX6_seesAt_21 : decode cX6_seesAt 21 = .ok (.iload_n 1, 1) := by decide +kernel
theorem dX6_seesAt_22 : decode cX6_seesAt 22 = .ok (.imul, 1) := by decide +kernel
theorem dX6_seesAt_23 : decode cX6_seesAt 23 = .ok (.iconst 0, 1) := by decide +kernel
theorem dX6_seesAt_24 : decode cX6_seesAt 24 = .ok (.iadd, 1) := by decide +kernel
theorem dX6_seesAt_25 : decode cX6_seesAt 25 = .ok (.iaload, 1) := by decide +kernel
theorem dX6_seesAt_26 : decode cX6_seesAt 26 = .ok (.ifCond .le 7, 3) := by decide +kernel
theorem dX6_seesAt_29 : decode cX6_seesAt 29 = .ok (.iconst 1, 1) := by decide +kernel
theorem dX6_seesAt_30 : decode cX6_seesAt 30 = .ok (.goto 4, 3) := by decide +kernel
theorem dX6_seesAt_33 : decode cX6_seesAt 33 = .ok (.iconst 0, 1) := by decide +kernel
theorem dX6_seesAt_34 : decode cX6_seesAt 34 = .ok (.ireturn, 1) := by decide +kernel
theorem dX6_allThatSee_0 : decode cX6_allThatSee 0 = .ok (.iconst 0, 1) := by decide +kernel
theorem dX6_allThatSee_1 : decode cX6_allThatSee 1 = .ok (.istore_n 2, 1) := by decide +kernel
theorem dX6_allThatSee_2 : decode cX6_allThatSee 2 = .ok (.iconst 0, 1) := by decide +kernel
theorem dX6_allThatSee_3 : decode cX6_allThatSee 3 = .ok (.istore_n 3, 1) := by decide +kernel
theorem dX6_allThatSee_4 : decode cX6_allThatSee 4 = .ok (.iload_n 3, 1) := by decide +kernel
theorem dX6_allThatSee_5 : decode cX6_allThatSee 5 = .ok (.aload_n 0, 1) := by decide +kernel
theorem dX6_allThatSee_6 : decode cX6_allThatSee 6 = .ok (.invokevirtual 54, 3) := by decide +kernel
theorem dX6_allThatSee_9 : decode cX6_allThatSee 9 = .ok (.if_icmp .ge 27, 3) := by decide +kernel
theorem dX6_allThatSee_12 : decode cX6_allThatSee 12 = .ok (.iload_n 2, 1) := by decide +kernel
theorem dX6_allThatSee_13 : decode cX6_allThatSee 13 = .ok (.aload_n 1, 1) := by decide +kernel
theorem dX6_allThatSee_14 : decode cX6_allThatSee 14 = .ok (.iload_n 3, 1) := by decide +kernel
theorem dX6_allThatSee_15 : decode cX6_allThatSee 15 = .ok (.invokestatic 102, 3) := by decide +kernel
theorem dX6_allThatSee_18 : decode cX6_allThatSee 18 = .ok (.ifCond .eq 9, 3) := by decide +kernel
theorem dX6_allThatSee_21 : decode cX6_allThatSee 21 = .ok (.iconst 1, 1) := by decide +kernel
theorem dX6_allThatSee_22 : decode cX6_allThatSee 22 = .ok (.iload_n 3, 1) := by decide +kernel
theorem dX6_allThatSee_23 : decode cX6_allThatSee 23 = .ok (.ishl, 1) := by decide +kernel
theorem dX6_allThatSee_24 : decode cX6_allThatSee 24 = .ok (.goto 4, 3) := by decide +kernel
theorem dX6_allThatSee_27 : decode cX6_allThatSee 27 = .ok (.iconst 0, 1) := by decide +kernel
theorem dX6_allThatSee_28 : decode cX6_allThatSee 28 = .ok (.ior, 1) := by decide +kernel
theorem dX6_allThatSee_29 : decode cX6_allThatSee 29 = .ok (.istore_n 2, 1) := by decide +kernel
theorem dX6_allThatSee_30 : decode cX6_allThatSee 30 = .ok (.iinc 3 1, 3) := by decide +kernel
theorem dX6_allThatSee_33 : decode cX6_allThatSee 33 = .ok (.goto (-29), 3) := by decide +kernel
theorem dX6_allThatSee_36 : decode cX6_allThatSee 36 = .ok (.iload_n 2, 1) := by decide +kernel
theorem dX6_allThatSee_37 : decode cX6_allThatSee 37 = .ok (.ireturn, 1) := by decide +kernel
theorem dX6_wakeOn_0 : decode cX6_wakeOn 0 = .ok (.aload_n 0, 1) := by decide +kernel
theorem dX6_wakeOn_1 : decode cX6_wakeOn 1 = .ok (.aload_n 0, 1) := by decide +kernel
theorem dX6_wakeOn_2 : decode cX6_wakeOn 2 = .ok (.aload_n 1, 1) := by decide +kernel
theorem dX6_wakeOn_3 : decode cX6_wakeOn 3 = .ok (.invokevirtual 106, 3) := by decide +kernel
theorem dX6_wakeOn_6 : decode cX6_wakeOn 6 = .ok (.putfield 110, 3) := by decide +kernel
theorem dX6_wakeOn_9 : decode cX6_wakeOn 9 = .ok (.aload_n 0, 1) := by decide +kernel
theorem dX6_wakeOn_10 : decode cX6_wakeOn 10 = .ok (.iconst 0, 1) := by decide +kernel
theorem dX6_wakeOn_11 : decode cX6_wakeOn 11 = .ok (.putfield 113, 3) := by decide +kernel
theorem dX6_wakeOn_14 : decode cX6_wakeOn 14 = .ok (.aload_n 0, 1) := by decide +kernel
theorem dX6_wakeOn_15 : decode cX6_wakeOn 15 = .ok (.iconst 0, 1) := by decide +kernel
theorem dX6_wakeOn_16 : decode cX6_wakeOn 16 = .ok (.putfield 116, 3) := by decide +kernel
theorem dX6_wakeOn_19 : decode cX6_wakeOn 19 = .ok (.iconst 0, 1) := by decide +kernel
theorem dX6_wakeOn_20 : decode cX6_wakeOn 20 = .ok (.istore_n 2, 1) := by decide +kernel
theorem dX6_wakeOn_21 : decode cX6_wakeOn 21 = .ok (.iload_n 2, 1) := by decide +kernel
theorem dX6_wakeOn_22 : decode cX6_wakeOn 22 = .ok (.aload_n 0, 1) := by decide +kernel
theorem dX6_wakeOn_23 : decode cX6_wakeOn 23 = .ok (.invokevirtual 54, 3) := by decide +kernel
theorem dX6_wakeOn_26 : decode cX6_wakeOn 26 = .ok (.if_icmp .ge 98, 3) := by decide +kernel
theorem dX6_wakeOn_29 : decode cX6_wakeOn 29 = .ok (.aload_n 1, 1) := by decide +kernel
theorem dX6_wakeOn_30 : decode cX6_wakeOn 30 = .ok (.bipush 6, 2) := by decide +kernel
theorem dX6_wakeOn_32 : decode cX6_wakeOn 32 = .ok (.iload_n 2, 1) := by decide +kernel
theorem dX6_wakeOn_33 : decode cX6_wakeOn 33 = .ok (.imul, 1) := by decide +kernel
theorem dX6_wakeOn_34 : decode cX6_wakeOn 34 = .ok (.iconst 3, 1) := by decide +kernel
theorem dX6_wakeOn_35 : decode cX6_wakeOn 35 = .ok (.iadd, 1) := by decide +kernel
theorem dX6_wakeOn_36 : decode cX6_wakeOn 36 = .ok (.iaload, 1) := by decide +kernel
theorem dX6_wakeOn_37 : decode cX6_wakeOn 37 = .ok (.iconst 1, 1) := by decide +kernel
theorem dX6_wakeOn_38 : decode cX6_wakeOn 38 = .ok (.if_icmp .ne 7, 3) := by decide +kernel
theorem dX6_wakeOn_41 : decode cX6_wakeOn 41 = .ok (.iconst 1, 1) := by decide +kernel
theorem dX6_wakeOn_42 : decode cX6_wakeOn 42 = .ok (.goto 4, 3) := by decide +kernel
theorem dX6_wakeOn_45 : decode cX6_wakeOn 45 = .ok (.iconst 0, 1) := by decide +kernel
theorem dX6_wakeOn_46 : decode cX6_wakeOn 46 = .ok (.istore_n 3, 1) := by decide +kernel
theorem dX6_wakeOn_47 : decode cX6_wakeOn 47 = .ok (.aload_n 0, 1) := by decide +kernel
theorem dX6_wakeOn_48 : decode cX6_wakeOn 48 = .ok (.dup, 1) := by decide +kernel
theorem dX6_wakeOn_49 : decode cX6_wakeOn 49 = .ok (.getfield 113, 3) := by decide +kernel
theorem dX6_wakeOn_52 : decode cX6_wakeOn 52 = .ok (.iload_n 3, 1) := by decide +kernel
theorem dX6_wakeOn_53 : decode cX6_wakeOn 53 = .ok (.ifCond .eq 9, 3) := by decide +kernel
theorem dX6_wakeOn_56 : decode cX6_wakeOn 56 = .ok (.iconst 1, 1) := by decide +kernel
theorem dX6_wakeOn_57 : decode cX6_wakeOn 57 = .ok (.iload_n 2, 1) := by decide +kernel
theorem dX6_wakeOn_58 : decode cX6_wakeOn 58 = .ok (.ishl, 1) := by decide +kernel
theorem dX6_wakeOn_59 : decode cX6_wakeOn 59 = .ok (.goto 4, 3) := by decide +kernel
theorem dX6_wakeOn_62 : decode cX6_wakeOn 62 = .ok (.iconst 0, 1) := by decide +kernel
theorem dX6_wakeOn_63 : decode cX6_wakeOn 63 = .ok (.ior, 1) := by decide +kernel
theorem dX6_wakeOn_64 : decode cX6_wakeOn 64 = .ok (.putfield 113, 3) := by decide +kernel
theorem dX6_wakeOn_67 : decode cX6_wakeOn 67 = .ok (.aload_n 0, 1) := by decide +kernel
theorem dX6_wakeOn_68 : decode cX6_wakeOn 68 = .ok (.getfield 110, 3) := by decide +kernel
theorem dX6_wakeOn_71 : decode cX6_wakeOn 71 = .ok (.iload_n 2, 1) := by decide +kernel
theorem dX6_wakeOn_72 : decode cX6_wakeOn 72 = .ok (.invokestatic 119, 3) := by decide +kernel
theorem dX6_wakeOn_75 : decode cX6_wakeOn 75 = .ok (.ifCond .eq 43, 3) := by decide +kernel
theorem dX6_wakeOn_78 : decode cX6_wakeOn 78 = .ok (.aload_n 1, 1) := by decide +kernel
theorem dX6_wakeOn_79 : decode cX6_wakeOn 79 = .ok (.bipush 6, 2) := by decide +kernel
theorem dX6_wakeOn_81 : decode cX6_wakeOn 81 = .ok (.iload_n 2, 1) := by decide +kernel
theorem dX6_wakeOn_82 : decode cX6_wakeOn 82 = .ok (.imul, 1) := by decide +kernel
theorem dX6_wakeOn_83 : decode cX6_wakeOn 83 = .ok (.iconst 3, 1) := by decide +kernel
theorem dX6_wakeOn_84 : decode cX6_wakeOn 84 = .ok (.iadd, 1) := by decide +kernel
theorem dX6_wakeOn_85 : decode cX6_wakeOn 85 = .ok (.iconst 0, 1) := by decide +kernel
theorem dX6_wakeOn_86 : decode cX6_wakeOn 86 = .ok (.iastore, 1) := by decide +kernel
theorem dX6_wakeOn_87 : decode cX6_wakeOn 87 = .ok (.aload_n 0, 1) := by decide +kernel
theorem dX6_wakeOn_88 : decode cX6_wakeOn 88 = .ok (.dup, 1) := by decide +kernel
theorem dX6_wakeOn_89 : decode cX6_wakeOn 89 = .ok (.getfield 116, 3) := by decide +kernel
theorem dX6_wakeOn_92 : decode cX6_wakeOn 92 = .ok (.iload_n 3, 1) := by decide +kernel
theorem dX6_wakeOn_93 : decode cX6_wakeOn 93 = .ok (.ifCond .ne 20, 3) := by decide +kernel
theorem dX6_wakeOn_96 : decode cX6_wakeOn 96 = .ok (.aload_n 1, 1) := by decide +kernel
theorem dX6_wakeOn_97 : decode cX6_wakeOn 97 = .ok (.bipush 6, 2) := by decide +kernel
theorem dX6_wakeOn_99 : decode cX6_wakeOn 99 = .ok (.iload_n 2, 1) := by decide +kernel
theorem dX6_wakeOn_100 : decode cX6_wakeOn 100 = .ok (.imul, 1) := by decide +kernel
theorem dX6_wakeOn_101 : decode cX6_wakeOn 101 = .ok (.iconst 2, 1) := by decide +kernel
theorem dX6_wakeOn_102 : decode cX6_wakeOn 102 = .ok (.iadd, 1) := by decide +kernel
theorem dX6_wakeOn_103 : decode cX6_wakeOn 103 = .ok (.iaload, 1) := by decide +kernel
theorem dX6_wakeOn_104 : decode cX6_wakeOn 104 = .ok (.ifCond .ne 9, 3) := by decide +kernel
theorem dX6_wakeOn_107 : decode cX6_wakeOn 107 = .ok (.iconst 1, 1) := by decide +kernel
theorem dX6_wakeOn_108 : decode cX6_wakeOn 108 = .ok (.iload_n 2, 1) := by decide +kernel
theorem dX6_wakeOn_109 : decode cX6_wakeOn 109 = .ok (.ishl, 1) := by decide +kernel
theorem dX6_wakeOn_110 : decode cX6_wakeOn 110 = .ok (.goto 4, 3) := by decide +kernel
theorem dX6_wakeOn_113 : decode cX6_wakeOn 113 = .ok (.iconst 0, 1) := by decide +kernel
theorem dX6_wakeOn_114 : decode cX6_wakeOn 114 = .ok (.ior, 1) := by decide +kernel
theorem dX6_wakeOn_115 : decode cX6_wakeOn 115 = .ok (.putfield 116, 3) := by decide +kernel
theorem dX6_wakeOn_118 : decode cX6_wakeOn 118 = .ok (.iinc 2 1, 3) := by decide +kernel
theorem dX6_wakeOn_121 : decode cX6_wakeOn 121 = .ok (.goto (-100), 3) := by decide +kernel
theorem dX6_wakeOn_124 : decode cX6_wakeOn 124 = .ok (.return_, 1) := by decide +kernel
theorem dX6_ticketOn_0 : decode cX6_ticketOn 0 = .ok (.aload_n 0, 1) := by decide +kernel
theorem dX6_ticketOn_1 : decode cX6_ticketOn 1 = .ok (.getfield 116, 3) := by decide +kernel
theorem dX6_ticketOn_4 : decode cX6_ticketOn 4 = .ok (.iload_n 2, 1) := by decide +kernel
theorem dX6_ticketOn_5 : decode cX6_ticketOn 5 = .ok (.invokestatic 119, 3) := by decide +kernel
theorem dX6_ticketOn_8 : decode cX6_ticketOn 8 = .ok (.ifCond .eq 34, 3) := by decide +kernel
theorem dX6_ticketOn_11 : decode cX6_ticketOn 11 = .ok (.aload_n 1, 1) := by decide +kernel
theorem dX6_ticketOn_12 : decode cX6_ticketOn 12 = .ok (.bipush 6, 2) := by decide +kernel
theorem dX6_ticketOn_14 : decode cX6_ticketOn 14 = .ok (.iload_n 2, 1) := by decide +kernel
theorem dX6_ticketOn_15 : decode cX6_ticketOn 15 = .ok (.imul, 1) := by decide +kernel
theorem dX6_ticketOn_16 : decode cX6_ticketOn 16 = .ok (.iconst 5, 1) := by decide +kernel
theorem dX6_ticketOn_17 : decode cX6_ticketOn 17 = .ok (.iadd, 1) := by decide +kernel
theorem dX6_ticketOn_18 : decode cX6_ticketOn 18 = .ok (.iaload, 1) := by decide +kernel
theorem dX6_ticketOn_19 : decode cX6_ticketOn 19 = .ok (.ifCond .ne 23, 3) := by decide +kernel
theorem dX6_ticketOn_22 : decode cX6_ticketOn 22 = .ok (.aload_n 1, 1) := by decide +kernel
theorem dX6_ticketOn_23 : decode cX6_ticketOn 23 = .ok (.bipush 75, 2) := by decide +kernel
theorem dX6_ticketOn_25 : decode cX6_ticketOn 25 = .ok (.dup2, 1) := by decide +kernel
theorem dX6_ticketOn_26 : decode cX6_ticketOn 26 = .ok (.iaload, 1) := by decide +kernel
theorem dX6_ticketOn_27 : decode cX6_ticketOn 27 = .ok (.iconst 1, 1) := by decide +kernel
theorem dX6_ticketOn_28 : decode cX6_ticketOn 28 = .ok (.iadd, 1) := by decide +kernel
theorem dX6_ticketOn_29 : decode cX6_ticketOn 29 = .ok (.iastore, 1) := by decide +kernel
theorem dX6_ticketOn_30 : decode cX6_ticketOn 30 = .ok (.aload_n 1, 1) := by decide +kernel
theorem dX6_ticketOn_31 : decode cX6_ticketOn 31 = .ok (.bipush 6, 2) := by decide +kernel
theorem dX6_ticketOn_33 : decode cX6_ticketOn 33 = .ok (.iload_n 2, 1) := by decide +kernel
theorem dX6_ticketOn_34 : decode cX6_ticketOn 34 = .ok (.imul, 1) := by decide +kernel
theorem dX6_ticketOn_35 : decode cX6_ticketOn 35 = .ok (.iconst 5, 1) := by decide +kernel
theorem dX6_ticketOn_36 : decode cX6_ticketOn 36 = .ok (.iadd, 1) := by decide +kernel
theorem dX6_ticketOn_37 : decode cX6_ticketOn 37 = .ok (.aload_n 1, 1) := by decide +kernel
theorem dX6_ticketOn_38 : decode cX6_ticketOn 38 = .ok (.bipush 75, 2) := by decide +kernel
theorem dX6_ticketOn_40 : decode cX6_ticketOn 40 = .ok (.iaload, 1) := by decide +kernel
theorem dX6_ticketOn_41 : decode cX6_ticketOn 41 = .ok (.iastore, 1) := by decide +kernel
theorem dX6_ticketOn_42 : decode cX6_ticketOn 42 = .ok (.return_, 1) := by decide +kernel
theorem dX6_may_0 : decode cX6_may 0 = .ok (.aload_n 0, 1) := by decide +kernel
theorem dX6_may_1 : decode cX6_may 1 = .ok (.getfield 116, 3) := by decide +kernel
theorem dX6_may_4 : decode cX6_may 4 = .ok (.iload_n 2, 1) := by decide +kernel
theorem dX6_may_5 : decode cX6_may 5 = .ok (.invokestatic 119, 3) := by decide +kernel
theorem dX6_may_8 : decode cX6_may 8 = .ok (.ifCond .ne 5, 3) := by decide +kernel
theorem dX6_may_11 : decode cX6_may 11 = .ok (.iconst 0, 1) := by decide +kernel
theorem dX6_may_12 : decode cX6_may 12 = .ok (.ireturn, 1) := by decide +kernel
theorem dX6_may_13 : decode cX6_may 13 = .ok (.aload_n 0, 1) := by decide +kernel
theorem dX6_may_14 : decode cX6_may 14 = .ok (.iload_n 2, 1) := by decide +kernel
theorem dX6_may_15 : decode cX6_may 15 = .ok (.invokevirtual 123, 3) := by decide +kernel
theorem dX6_may_18 : decode cX6_may 18 = .ok (.istore_n 3, 1) := by decide +kernel
theorem dX6_may_19 : decode cX6_may 19 = .ok (.iload_n 3, 1) := by decide +kernel
theorem dX6_may_20 : decode cX6_may 20 = .ok (.bipush 99, 2) := by decide +kernel
theorem dX6_may_22 : decode cX6_may 22 = .ok (.if_icmp .ne 17, 3) := by decide +kernel
theorem dX6_may_25 : decode cX6_may 25 = .ok (.aload_n 1, 1) := by decide +kernel
theorem dX6_may_26 : decode cX6_may 26 = .ok (.bipush 72, 2) := by decide +kernel
theorem dX6_may_28 : decode cX6_may 28 = .ok (.iaload, 1) := by decide +kernel
theorem dX6_may_29 : decode cX6_may 29 = .ok (.iconst 1, 1) := by decide +kernel
theorem dX6_may_30 : decode cX6_may 30 = .ok (.if_icmp .ne 7, 3) := by decide +kernel
theorem dX6_may_33 : decode cX6_may 33 = .ok (.iconst 1, 1) := by decide +kernel
theorem dX6_may_34 : decode cX6_may 34 = .ok (.goto 4, 3) := by decide +kernel
theorem dX6_may_37 : decode cX6_may 37 = .ok (.iconst 0, 1) := by decide +kernel
theorem dX6_may_38 : decode cX6_may 38 = .ok (.ireturn, 1) := by decide +kernel
theorem dX6_may_39 : decode cX6_may 39 = .ok (.aload_n 0, 1) := by decide +kernel
theorem dX6_may_40 : decode cX6_may 40 = .ok (.getfield 113, 3) := by decide +kernel
theorem dX6_may_43 : decode cX6_may 43 = .ok (.iload_n 3, 1) := by decide +kernel
theorem dX6_may_44 : decode cX6_may 44 = .ok (.invokestatic 119, 3) := by decide +kernel
theorem dX6_may_47 : decode cX6_may 47 = .ok (.ifCond .eq 14, 3) := by decide +kernel
theorem dX6_may_50 : decode cX6_may 50 = .ok (.aload_n 1, 1) := by decide +kernel
theorem dX6_may_51 : decode cX6_may 51 = .ok (.bipush 6, 2) := by decide +kernel
theorem dX6_may_53 : decode cX6_may 53 = .ok (.iload_n 3, 1) := by decide +kernel
theorem dX6_may_54 : decode cX6_may 54 = .ok (.imul, 1) := by decide +kernel
theorem dX6_may_55 : decode cX6_may 55 = .ok (.iconst 3, 1) := by decide +kernel
theorem dX6_may_56 : decode cX6_may 56 = .ok (.iadd, 1) := by decide +kernel
theorem dX6_may_57 : decode cX6_may 57 = .ok (.iconst 0, 1) := by decide +kernel
theorem dX6_may_58 : decode cX6_may 58 = .ok (.iastore, 1) := by decide +kernel
theorem dX6_may_59 : decode cX6_may 59 = .ok (.iconst 0, 1) := by decide +kernel
theorem dX6_may_60 : decode cX6_may 60 = .ok (.ireturn, 1) := by decide +kernel
theorem dX6_may_61 : decode cX6_may 61 = .ok (.aload_n 0, 1) := by decide +kernel
theorem dX6_may_62 : decode cX6_may 62 = .ok (.getfield 110, 3) := by decide +kernel
theorem dX6_may_65 : decode cX6_may 65 = .ok (.iload_n 3, 1) := by decide +kernel
theorem dX6_may_66 : decode cX6_may 66 = .ok (.invokestatic 119, 3) := by decide +kernel
theorem dX6_may_69 : decode cX6_may 69 = .ok (.ifCond .eq 22, 3) := by decide +kernel
theorem dX6_may_72 : decode cX6_may 72 = .ok (.aload_n 1, 1) := by decide +kernel
theorem dX6_may_73 : decode cX6_may 73 = .ok (.bipush 73, 2) := by decide +kernel
theorem dX6_may_75 : decode cX6_may 75 = .ok (.iaload, 1) := by decide +kernel
theorem dX6_may_76 : decode cX6_may 76 = .ok (.iconst 1, 1) := by decide +kernel
theorem dX6_may_77 : decode cX6_may 77 = .ok (.if_icmp .ne 18, 3) := by decide +kernel
theorem dX6_may_80 : decode cX6_may 80 = .ok (.aload_n 0, 1) := by decide +kernel
theorem dX6_may_81 : decode cX6_may 81 = .ok (.getfield 127, 3) := by decide +kernel
theorem dX6_may_84 : decode cX6_may 84 = .ok (.iload_n 3, 1) := by decide +kernel
theorem dX6_may_85 : decode cX6_may 85 = .ok (.invokestatic 119, 3) := by decide +kernel
theorem dX6_may_88 : decode cX6_may 88 = .ok (.ifCond .eq 7, 3) := by decide +kernel
theorem dX6_may_91 : decode cX6_may 91 = .ok (.iconst 1, 1) := by decide +kernel
theorem dX6_may_92 : decode cX6_may 92 = .ok (.goto 4, 3) := by decide +kernel
theorem dX6_may_95 : decode cX6_may 95 = .ok (.iconst 0, 1) := by decide +kernel
theorem dX6_may_96 : decode cX6_may 96 = .ok (.ireturn, 1) := by decide +kernel
theorem dX6_layGoes_0 : decode cX6_layGoes 0 = .ok (.aload_n 0, 1) := by decide +kernel
theorem dX6_layGoes_1 : decode cX6_layGoes 1 = .ok (.iconst 0, 1) := by decide +kernel
theorem dX6_layGoes_2 : decode cX6_layGoes 2 = .ok (.putfield 127, 3) := by decide +kernel
theorem dX6_layGoes_5 : decode cX6_layGoes 5 = .ok (.aload_n 0, 1) := by decide +kernel
theorem dX6_layGoes_6 : decode cX6_layGoes 6 = .ok (.invokevirtual 54, 3) := by decide +kernel
theorem dX6_layGoes_9 : decode cX6_layGoes 9 = .ok (.iconst 1, 1) := by decide +kernel
theorem dX6_layGoes_10 : decode cX6_layGoes 10 = .ok (.isub, 1) := by decide +kernel
theorem dX6_layGoes_11 : decode cX6_layGoes 11 = .ok (.istore_n 2, 1) := by decide +kernel
theorem dX6_layGoes_12 : decode cX6_layGoes 12 = .ok (.aload_n 0, 1) := by decide +kernel
theorem dX6_layGoes_13 : decode cX6_layGoes 13 = .ok (.getfield 13, 3) := by decide +kernel
theorem dX6_layGoes_16 : decode cX6_layGoes 16 = .ok (.iconst 1, 1) := by decide +kernel
theorem dX6_layGoes_17 : decode cX6_layGoes 17 = .ok (.isub, 1) := by decide +kernel
theorem dX6_layGoes_18 : decode cX6_layGoes 18 = .ok (.istore_n 3, 1) := by decide +kernel
theorem dX6_layGoes_19 : decode cX6_layGoes 19 = .ok (.iload_n 3, 1) := by decide +kernel
theorem dX6_layGoes_20 : decode cX6_layGoes 20 = .ok (.ifCond .lt 159, 3) := by decide +kernel
theorem dX6_layGoes_23 : decode cX6_layGoes 23 = .ok (.aload_n 0, 1) := by decide +kernel
theorem dX6_layGoes_24 : decode cX6_layGoes 24 = .ok (.aload_n 1, 1) := by decide +kernel
theorem dX6_layGoes_25 : decode cX6_layGoes 25 = .ok (.iload_n 3, 1) := by decide +kernel
theorem dX6_layGoes_26 : decode cX6_layGoes 26 = .ok (.invokevirtual 130, 3) := by decide +kernel
theorem dX6_layGoes_29 : decode cX6_layGoes 29 = .ok (.istore 4, 2) := by decide +kernel
theorem dX6_layGoes_31 : decode cX6_layGoes 31 = .ok (.iload_n 3, 1) := by decide +kernel
theorem dX6_layGoes_32 : decode cX6_layGoes 32 = .ok (.aload_n 0, 1) := by decide +kernel
theorem dX6_layGoes_33 : decode cX6_layGoes 33 = .ok (.getfield 17, 3) := by decide +kernel
theorem dX6_layGoes_36 : decode cX6_layGoes 36 = .ok (.iconst 1, 1) := by decide +kernel
theorem dX6_layGoes_37 : decode cX6_layGoes 37 = .ok (.isub, 1) := by decide +kernel
theorem dX6_layGoes_38 : decode cX6_layGoes 38 = .ok (.if_icmp .ne 114, 3) := by decide +kernel
theorem dX6_layGoes_41 : decode cX6_layGoes 41 = .ok (.aload_n 0, 1) := by decide +kernel
theorem dX6_layGoes_42 : decode cX6_layGoes 42 = .ok (.getfield 51, 3) := by decide +kernel
theorem dX6_layGoes_45 : decode cX6_layGoes 45 = .ok (.ifCond .le 107, 3) := by decide +kernel
theorem dX6_layGoes_48 : decode cX6_layGoes 48 = .ok (.aload_n 0, 1) := by decide +kernel
theorem dX6_layGoes_49 : decode cX6_layGoes 49 = .ok (.aload_n 1, 1) := by decide +kernel
theorem dX6_layGoes_50 : decode cX6_layGoes 50 = .ok (.iload_n 2, 1) := by decide +kernel
theorem dX6_layGoes_51 : decode cX6_layGoes 51 = .ok (.invokevirtual 130, 3) := by decide +kernel
theorem dX6_layGoes_54 : decode cX6_layGoes 54 = .ok (.istore 5, 2) := by decide +kernel
theorem dX6_layGoes_56 : decode cX6_layGoes 56 = .ok (.iload 4, 2) := by decide +kernel
theorem dX6_layGoes_58 : decode cX6_layGoes 58 = .ok (.ifCond .eq 12, 3) := by decide +kernel
theorem dX6_layGoes_61 : decode cX6_layGoes 61 = .ok (.iload 5, 2) := by decide +kernel
theorem dX6_layGoes_63 : decode cX6_layGoes 63 = .ok (.ifCond .eq 7, 3) := by decide +kernel
theorem dX6_layGoes_66 : decode cX6_layGoes 66 = .ok (.iconst 1, 1) := by decide +kernel
theorem dX6_layGoes_67 : decode cX6_layGoes 67 = .ok (.goto 4, 3) := by decide +kernel
theorem dX6_layGoes_70 : decode cX6_layGoes 70 = .ok (.iconst 0, 1) := by decide +kernel
theorem dX6_layGoes_71 : decode cX6_layGoes 71 = .ok (.istore 6, 2) := by decide +kernel
theorem dX6_layGoes_73 : decode cX6_layGoes 73 = .ok (.aload_n 1, 1) := by decide +kernel
theorem dX6_layGoes_74 : decode cX6_layGoes 74 = .ok (.bipush 6, 2) := by decide +kernel
theorem dX6_layGoes_76 : decode cX6_layGoes 76 = .ok (.iload_n 3, 1) := by decide +kernel
theorem dX6_layGoes_77 : decode cX6_layGoes 77 = .ok (.imul, 1) := by decide +kernel
theorem dX6_layGoes_78 : decode cX6_layGoes 78 = .ok (.iconst 5, 1) := by decide +kernel
theorem dX6_layGoes_79 : decode cX6_layGoes 79 = .ok (.iadd, 1) := by decide +kernel
theorem dX6_layGoes_80 : decode cX6_layGoes 80 = .ok (.iaload, 1) := by decide +kernel
theorem dX6_layGoes_81 : decode cX6_layGoes 81 = .ok (.aload_n 1, 1) := by decide +kernel
theorem dX6_layGoes_82 : decode cX6_layGoes 82 = .ok (.bipush 6, 2) := by decide +kernel
theorem dX6_layGoes_84 : decode cX6_layGoes 84 = .ok (.iload_n 2, 1) := by decide +kernel
theorem dX6_layGoes_85 : decode cX6_layGoes 85 = .ok (.imul, 1) := by decide +kernel
theorem dX6_layGoes_86 : decode cX6_layGoes 86 = .ok (.iconst 5, 1) := by decide +kernel
theorem dX6_layGoes_87 : decode cX6_layGoes 87 = .ok (.iadd, 1) := by decide +kernel
theorem dX6_layGoes_88 : decode cX6_layGoes 88 = .ok (.iaload, 1) := by decide +kernel
theorem dX6_layGoes_89 : decode cX6_layGoes 89 = .ok (.if_icmp .ge 7, 3) := by decide +kernel
theorem dX6_layGoes_92 : decode cX6_layGoes 92 = .ok (.iconst 1, 1) := by decide +kernel
theorem dX6_layGoes_93 : decode cX6_layGoes 93 = .ok (.goto 4, 3) := by decide +kernel
theorem dX6_layGoes_96 : decode cX6_layGoes 96 = .ok (.iconst 0, 1) := by decide +kernel
theorem dX6_layGoes_97 : decode cX6_layGoes 97 = .ok (.istore 7, 2) := by decide +kernel
theorem dX6_layGoes_99 : decode cX6_layGoes 99 = .ok (.aload_n 0, 1) := by decide +kernel
theorem dX6_layGoes_100 : decode cX6_layGoes 100 = .ok (.dup, 1) := by decide +kernel
theorem dX6_layGoes_101 : decode cX6_layGoes 101 = .ok (.getfield 127, 3) := by decide +kernel
theorem dX6_layGoes_104 : decode cX6_layGoes 104 = .ok (.iload 5, 2) := by decide +kernel
theorem dX6_layGoes_106 : decode cX6_layGoes 106 = .ok (.ifCond .eq 19, 3) := by decide +kernel
theorem dX6_layGoes_109 : decode cX6_layGoes 109 = .ok (.iload 6, 2) := by decide +kernel
theorem dX6_layGoes_111 : decode cX6_layGoes 111 = .ok (.ifCond .eq 8, 3) := by decide +kernel
theorem dX6_layGoes_114 : decode cX6_layGoes 114 = .ok (.iload 7, 2) := by decide +kernel
theorem dX6_layGoes_116 : decode cX6_layGoes 116 = .ok (.ifCond .ne 9, 3) := by decide +kernel
theorem dX6_layGoes_119 : decode cX6_layGoes 119 = .ok (.iconst 1, 1) := by decide +kernel
theorem dX6_layGoes_120 : decode cX6_layGoes 120 = .ok (.iload_n 2, 1) := by decide +kernel
theorem dX6_layGoes_121 : decode cX6_layGoes 121 = .ok (.ishl, 1) := by decide +kernel
theorem dX6_layGoes_122 : decode cX6_layGoes 122 = .ok (.goto 4, 3) := by decide +kernel
theorem dX6_layGoes_125 : decode cX6_layGoes 125 = .ok (.iconst 0, 1) := by decide +kernel
theorem dX6_layGoes_126 : decode cX6_layGoes 126 = .ok (.ior, 1) := by decide +kernel
theorem dX6_layGoes_127 : decode cX6_layGoes 127 = .ok (.putfield 127, 3) := by decide +kernel
theorem dX6_layGoes_130 : decode cX6_layGoes 130 = .ok (.iload 4, 2) := by decide +kernel
theorem dX6_layGoes_132 : decode cX6_layGoes 132 = .ok (.ifCond .eq 17, 3) := by decide +kernel
theorem dX6_layGoes_135 : decode cX6_layGoes 135 = .ok (.iload 6, 2) := by decide +kernel
theorem dX6_layGoes_137 : decode cX6_layGoes 137 = .ok (.ifCond .eq 8, 3) := by decide +kernel
theorem dX6_layGoes_140 : decode cX6_layGoes 140 = .ok (.iload 7, 2) := by decide +kernel
theorem dX6_layGoes_142 : decode cX6_layGoes 142 = .ok (.ifCond .eq 7, 3) := by decide +kernel
theorem dX6_layGoes_145 : decode cX6_layGoes 145 = .ok (.iconst 1, 1) := by decide +kernel
theorem dX6_layGoes_146 : decode cX6_layGoes 146 = .ok (.goto 4, 3) := by decide +kernel
theorem dX6_layGoes_149 : decode cX6_layGoes 149 = .ok (.iconst 0, 1) := by decide +kernel
theorem dX6_layGoes_150 : decode cX6_layGoes 150 = .ok (.istore 4, 2) := by decide +kernel
theorem dX6_layGoes_152 : decode cX6_layGoes 152 = .ok (.aload_n 0, 1) := by decide +kernel
theorem dX6_layGoes_153 : decode cX6_layGoes 153 = .ok (.dup, 1) := by decide +kernel
theorem dX6_layGoes_154 : decode cX6_layGoes 154 = .ok (.getfield 127, 3) := by decide +kernel
theorem dX6_layGoes_157 : decode cX6_layGoes 157 = .ok (.iload 4, 2) := by decide +kernel
theorem dX6_layGoes_159 : decode cX6_layGoes 159 = .ok (.ifCond .eq 9, 3) := by decide +kernel
theorem dX6_layGoes_162 : decode cX6_layGoes 162 = .ok (.iconst 1, 1) := by decide +kernel
theorem dX6_layGoes_163 : decode cX6_layGoes 163 = .ok (.iload_n 3, 1) := by decide +kernel
theorem dX6_layGoes_164 : decode cX6_layGoes 164 = .ok (.ishl, 1) := by decide +kernel
theorem dX6_layGoes_165 : decode cX6_layGoes 165 = .ok (.goto 4, 3) := by decide +kernel
theorem dX6_layGoes_168 : decode cX6_layGoes 168 = .ok (.iconst 0, 1) := by decide +kernel
theorem dX6_layGoes_169 : decode cX6_layGoes 169 = .ok (.ior, 1) := by decide +kernel
theorem dX6_layGoes_170 : decode cX6_layGoes 170 = .ok (.putfield 127, 3) := by decide +kernel
theorem dX6_layGoes_173 : decode cX6_layGoes 173 = .ok (.iinc 3 (-1), 3) := by decide +kernel
theorem dX6_layGoes_176 : decode cX6_layGoes 176 = .ok (.goto (-157), 3) := by decide +kernel
theorem dX6_layGoes_179 : decode cX6_layGoes 179 = .ok (.aload_n 0, 1) := by decide +kernel
theorem dX6_layGoes_180 : decode cX6_layGoes 180 = .ok (.invokevirtual 54, 3) := by decide +kernel
theorem dX6_layGoes_183 : decode cX6_layGoes 183 = .ok (.iconst 2, 1) := by decide +kernel
theorem dX6_layGoes_184 : decode cX6_layGoes 184 = .ok (.isub, 1) := by decide +kernel
theorem dX6_layGoes_185 : decode cX6_layGoes 185 = .ok (.istore_n 3, 1) := by decide +kernel
theorem dX6_layGoes_186 : decode cX6_layGoes 186 = .ok (.iload_n 3, 1) := by decide +kernel
theorem dX6_layGoes_187 : decode cX6_layGoes 187 = .ok (.aload_n 0, 1) := by decide +kernel
theorem dX6_layGoes_188 : decode cX6_layGoes 188 = .ok (.getfield 13, 3) := by decide +kernel
theorem dX6_layGoes_191 : decode cX6_layGoes 191 = .ok (.if_icmp .lt 34, 3) := by decide +kernel
theorem dX6_layGoes_194 : decode cX6_layGoes 194 = .ok (.aload_n 0, 1) := by decide +kernel
theorem dX6_layGoes_195 : decode cX6_layGoes 195 = .ok (.dup, 1) := by decide +kernel
theorem dX6_layGoes_196 : decode cX6_layGoes 196 = .ok (.getfield 127, 3) := by decide +kernel
theorem dX6_layGoes_199 : decode cX6_layGoes 199 = .ok (.aload_n 0, 1) := by decide +kernel
theorem dX6_layGoes_200 : decode cX6_layGoes 200 = .ok (.aload_n 1, 1) := by decide +kernel
theorem dX6_layGoes_201 : decode cX6_layGoes 201 = .ok (.iload_n 3, 1) := by decide +kernel
theorem dX6_layGoes_202 : decode cX6_layGoes 202 = .ok (.invokevirtual 130, 3) := by decide +kernel
theorem dX6_layGoes_205 : decode cX6_layGoes 205 = .ok (.ifCond .eq 9, 3) := by decide +kernel
theorem dX6_layGoes_208 : decode cX6_layGoes 208 = .ok (.iconst 1, 1) := by decide +kernel
theorem dX6_layGoes_209 : decode cX6_layGoes 209 = .ok (.iload_n 3, 1) := by decide +kernel
theorem dX6_layGoes_210 : decode cX6_layGoes 210 = .ok (.ishl, 1) := by decide +kernel
theorem dX6_layGoes_211 : decode cX6_layGoes 211 = .ok (.goto 4, 3) := by decide +kernel
theorem dX6_layGoes_214 : decode cX6_layGoes 214 = .ok (.iconst 0, 1) := by decide +kernel
theorem dX6_layGoes_215 : decode cX6_layGoes 215 = .ok (.ior, 1) := by decide +kernel
theorem dX6_layGoes_216 : decode cX6_layGoes 216 = .ok (.putfield 127, 3) := by decide +kernel
theorem dX6_layGoes_219 : decode cX6_layGoes 219 = .ok (.iinc 3 (-1), 3) := by decide +kernel
theorem dX6_layGoes_222 : decode cX6_layGoes 222 = .ok (.goto (-36), 3) := by decide +kernel
theorem dX6_layGoes_225 : decode cX6_layGoes 225 = .ok (.return_, 1) := by decide +kernel
theorem dX6_moveOn_0 : decode cX6_moveOn 0 = .ok (.aload_n 0, 1) := by decide +kernel
theorem dX6_moveOn_1 : decode cX6_moveOn 1 = .ok (.getfield 127, 3) := by decide +kernel
theorem dX6_moveOn_4 : decode cX6_moveOn 4 = .ok (.iload_n 2, 1) := by decide +kernel
theorem dX6_moveOn_5 : decode cX6_moveOn 5 = .ok (.invokestatic 119, 3) := by decide +kernel
theorem dX6_moveOn_8 : decode cX6_moveOn 8 = .ok (.ifCond .ne 4, 3) := by decide +kernel
theorem dX6_moveOn_11 : decode cX6_moveOn 11 = .ok (.return_, 1) := by decide +kernel
theorem dX6_moveOn_12 : decode cX6_moveOn 12 = .ok (.bipush 6, 2) := by decide +kernel
theorem dX6_moveOn_14 : decode cX6_moveOn 14 = .ok (.iload_n 2, 1) := by decide +kernel
theorem dX6_moveOn_15 : decode cX6_moveOn 15 = .ok (.imul, 1) := by decide +kernel
theorem dX6_moveOn_16 : decode cX6_moveOn 16 = .ok (.istore_n 3, 1) := by decide +kernel
theorem dX6_moveOn_17 : decode cX6_moveOn 17 = .ok (.aload_n 0, 1) := by decide +kernel
theorem dX6_moveOn_18 : decode cX6_moveOn 18 = .ok (.iload_n 2, 1) := by decide +kernel
theorem dX6_moveOn_19 : decode cX6_moveOn 19 = .ok (.invokevirtual 123, 3) := by decide +kernel
theorem dX6_moveOn_22 : decode cX6_moveOn 22 = .ok (.istore 4, 2) := by decide +kernel
theorem dX6_moveOn_24 : decode cX6_moveOn 24 = .ok (.aload_n 1, 1) := by decide +kernel
theorem dX6_moveOn_25 : decode cX6_moveOn 25 = .ok (.iload_n 3, 1) := by decide +kernel
theorem dX6_moveOn_26 : decode cX6_moveOn 26 = .ok (.iconst 5, 1) := by decide +kernel
theorem dX6_moveOn_27 : decode cX6_moveOn 27 = .ok (.iadd, 1) := by decide +kernel
theorem dX6_moveOn_28 : decode cX6_moveOn 28 = .ok (.iconst 0, 1) := by decide +kernel
theorem dX6_moveOn_29 : decode cX6_moveOn 29 = .ok (.iastore, 1) := by decide +kernel
theorem dX6_moveOn_30 : decode cX6_moveOn 30 = .ok (.aload_n 1, 1) := by decide +kernel
theorem dX6_moveOn_31 : decode cX6_moveOn 31 = .ok (.iload_n 3, 1) := by decide +kernel
theorem dX6_moveOn_32 : decode cX6_moveOn 32 = .ok (.iconst 0, 1) := by decide +kernel
theorem dX6_moveOn_33 : decode cX6_moveOn 33 = .ok (.iadd, 1) := by decide +kernel
theorem dX6_moveOn_34 : decode cX6_moveOn 34 = .ok (.iaload, 1) := by decide +kernel
theorem dX6_moveOn_35 : decode cX6_moveOn 35 = .ok (.ifCond .ne 4, 3) := by decide +kernel
theorem dX6_moveOn_38 : decode cX6_moveOn 38 = .ok (.return_, 1) := by decide +kernel
theorem dX6_moveOn_39 : decode cX6_moveOn 39 = .ok (.iload 4, 2) := by decide +kernel
theorem dX6_moveOn_41 : decode cX6_moveOn 41 = .ok (.bipush 99, 2) := by decide +kernel
theorem dX6_moveOn_43 : decode cX6_moveOn 43 = .ok (.if_icmp .ne 29, 3) := by decide +kernel
theorem dX6_moveOn_46 : decode cX6_moveOn 46 = .ok (.aload_n 0, 1) := by decide +kernel
theorem dX6_moveOn_47 : decode cX6_moveOn 47 = .ok (.aload_n 1, 1) := by decide +kernel
theorem dX6_moveOn_48 : decode cX6_moveOn 48 = .ok (.iload_n 3, 1) := by decide +kernel
theorem dX6_moveOn_49 : decode cX6_moveOn 49 = .ok (.iconst 0, 1) := by decide +kernel
theorem dX6_moveOn_50 : decode cX6_moveOn 50 = .ok (.iadd, 1) := by decide +kernel
theorem dX6_moveOn_51 : decode cX6_moveOn 51 = .ok (.iaload, 1) := by decide +kernel
theorem dX6_moveOn_52 : decode cX6_moveOn 52 = .ok (.putfield 133, 3) := by decide +kernel
theorem dX6_moveOn_55 : decode cX6_moveOn 55 = .ok (.aload_n 1, 1) := by decide +kernel
theorem dX6_moveOn_56 : decode cX6_moveOn 56 = .ok (.iload_n 3, 1) := by decide +kernel
theorem dX6_moveOn_57 : decode cX6_moveOn 57 = .ok (.iconst 0, 1) := by decide +kernel
theorem dX6_moveOn_58 : decode cX6_moveOn 58 = .ok (.iadd, 1) := by decide +kernel
theorem dX6_moveOn_59 : decode cX6_moveOn 59 = .ok (.iconst 0, 1) := by decide +kernel
theorem dX6_moveOn_60 : decode cX6_moveOn 60 = .ok (.iastore, 1) := by decide +kernel
theorem dX6_moveOn_61 : decode cX6_moveOn 61 = .ok (.aload_n 1, 1) := by decide +kernel
theorem dX6_moveOn_62 : decode cX6_moveOn 62 = .ok (.bipush 77, 2) := by decide +kernel
theorem dX6_moveOn_64 : decode cX6_moveOn 64 = .ok (.dup2, 1) := by decide +kernel
theorem dX6_moveOn_65 : decode cX6_moveOn 65 = .ok (.iaload, 1) := by decide +kernel
theorem dX6_moveOn_66 : decode cX6_moveOn 66 = .ok (.iconst 1, 1) := by decide +kernel
theorem dX6_moveOn_67 : decode cX6_moveOn 67 = .ok (.iadd, 1) := by decide +kernel
theorem dX6_moveOn_68 : decode cX6_moveOn 68 = .ok (.iastore, 1) := by decide +kernel
theorem dX6_moveOn_69 : decode cX6_moveOn 69 = .ok (.goto 44, 3) := by decide +kernel
theorem dX6_moveOn_72 : decode cX6_moveOn 72 = .ok (.aload_n 1, 1) := by decide +kernel
theorem dX6_moveOn_73 : decode cX6_moveOn 73 = .ok (.bipush 6, 2) := by decide +kernel
theorem dX6_moveOn_75 : decode cX6_moveOn 75 = .ok (.iload 4, 2) := by decide +kernel
theorem dX6_moveOn_77 : decode cX6_moveOn 77 = .ok (.imul, 1) := by decide +kernel
theorem dX6_moveOn_78 : decode cX6_moveOn 78 = .ok (.iconst 0, 1) := by decide +kernel
theorem dX6_moveOn_79 : decode cX6_moveOn 79 = .ok (.iadd, 1) := by decide +kernel
theorem dX6_moveOn_80 : decode cX6_moveOn 80 = .ok (.iaload, 1) := by decide +kernel
theorem dX6_moveOn_81 : decode cX6_moveOn 81 = .ok (.ifCond .ne 26, 3) := by decide +kernel
theorem dX6_moveOn_84 : decode cX6_moveOn 84 = .ok (.aload_n 1, 1) := by decide +kernel
theorem dX6_moveOn_85 : decode cX6_moveOn 85 = .ok (.bipush 6, 2) := by decide +kernel
theorem dX6_moveOn_87 : decode cX6_moveOn 87 = .ok (.iload 4, 2) := by decide +kernel
theorem dX6_moveOn_89 : decode cX6_moveOn 89 = .ok (.imul, 1) := by decide +kernel
theorem dX6_moveOn_90 : decode cX6_moveOn 90 = .ok (.iconst 0, 1) := by decide +kernel
theorem dX6_moveOn_91 : decode cX6_moveOn 91 = .ok (.iadd, 1) := by decide +kernel
theorem dX6_moveOn_92 : decode cX6_moveOn 92 = .ok (.aload_n 1, 1) := by decide +kernel
theorem dX6_moveOn_93 : decode cX6_moveOn 93 = .ok (.iload_n 3, 1) := by decide +kernel
theorem dX6_moveOn_94 : decode cX6_moveOn 94 = .ok (.iconst 0, 1) := by decide +kernel
theorem dX6_moveOn_95 : decode cX6_moveOn 95 = .ok (.iadd, 1) := by decide +kernel
theorem dX6_moveOn_96 : decode cX6_moveOn 96 = .ok (.iaload, 1) := by decide +kernel
theorem dX6_moveOn_97 : decode cX6_moveOn 97 = .ok (.iastore, 1) := by decide +kernel
theorem dX6_moveOn_98 : decode cX6_moveOn 98 = .ok (.aload_n 1, 1) := by decide +kernel
theorem dX6_moveOn_99 : decode cX6_moveOn 99 = .ok (.iload_n 3, 1) := by decide +kernel
theorem dX6_moveOn_100 : decode cX6_moveOn 100 = .ok (.iconst 0, 1) := by decide +kernel
theorem dX6_moveOn_101 : decode cX6_moveOn 101 = .ok (.iadd, 1) := by decide +kernel
theorem dX6_moveOn_102 : decode cX6_moveOn 102 = .ok (.iconst 0, 1) := by decide +kernel
theorem dX6_moveOn_103 : decode cX6_moveOn 103 = .ok (.iastore, 1) := by decide +kernel
theorem dX6_moveOn_104 : decode cX6_moveOn 104 = .ok (.goto 9, 3) := by decide +kernel
theorem dX6_moveOn_107 : decode cX6_moveOn 107 = .ok (.aload_n 1, 1) := by decide +kernel
theorem dX6_moveOn_108 : decode cX6_moveOn 108 = .ok (.iload_n 3, 1) := by decide +kernel
theorem dX6_moveOn_109 : decode cX6_moveOn 109 = .ok (.iconst 2, 1) := by decide +kernel
theorem dX6_moveOn_110 : decode cX6_moveOn 110 = .ok (.iadd, 1) := by decide +kernel
theorem dX6_moveOn_111 : decode cX6_moveOn 111 = .ok (.iconst 1, 1) := by decide +kernel
theorem dX6_moveOn_112 : decode cX6_moveOn 112 = .ok (.iastore, 1) := by decide +kernel
theorem dX6_moveOn_113 : decode cX6_moveOn 113 = .ok (.return_, 1) := by decide +kernel
theorem dX6_idleOn_0 : decode cX6_idleOn 0 = .ok (.aload_n 0, 1) := by decide +kernel
theorem dX6_idleOn_1 : decode cX6_idleOn 1 = .ok (.aload_n 1, 1) := by decide +kernel
theorem dX6_idleOn_2 : decode cX6_idleOn 2 = .ok (.invokevirtual 106, 3) := by decide +kernel
theorem dX6_idleOn_5 : decode cX6_idleOn 5 = .ok (.istore_n 2, 1) := by decide +kernel
theorem dX6_idleOn_6 : decode cX6_idleOn 6 = .ok (.iconst 0, 1) := by decide +kernel
theorem dX6_idleOn_7 : decode cX6_idleOn 7 = .ok (.istore_n 3, 1) := by decide +kernel
theorem dX6_idleOn_8 : decode cX6_idleOn 8 = .ok (.iload_n 3, 1) := by decide +kernel
theorem dX6_idleOn_9 : decode cX6_idleOn 9 = .ok (.aload_n 0, 1) := by decide +kernel
theorem dX6_idleOn_10 : decode cX6_idleOn 10 = .ok (.invokevirtual 54, 3) := by decide +kernel
theorem dX6_idleOn_13 : decode cX6_idleOn 13 = .ok (.if_icmp .ge 126, 3) := by decide +kernel
theorem dX6_idleOn_16 : decode cX6_idleOn 16 = .ok (.iload_n 2, 1) := by decide +kernel
theorem dX6_idleOn_17 : decode cX6_idleOn 17 = .ok (.iload_n 3, 1) := by decide +kernel
theorem dX6_idleOn_18 : decode cX6_idleOn 18 = .ok (.invokestatic 119, 3) := by decide +kernel
theorem dX6_idleOn_21 : decode cX6_idleOn 21 = .ok (.istore 4, 2) := by decide +kernel
theorem dX6_idleOn_23 : decode cX6_idleOn 23 = .ok (.iconst 0, 1) := by decide +kernel
theorem dX6_idleOn_24 : decode cX6_idleOn 24 = .ok (.istore 5, 2) := by decide +kernel
theorem dX6_idleOn_26 : decode cX6_idleOn 26 = .ok (.iload 5, 2) := by decide +kernel
theorem dX6_idleOn_28 : decode cX6_idleOn 28 = .ok (.aload_n 0, 1) := by decide +kernel
theorem dX6_idleOn_29 : decode cX6_idleOn 29 = .ok (.invokevirtual 54, 3) := by decide +kernel
theorem dX6_idleOn_32 : decode cX6_idleOn 32 = .ok (.if_icmp .ge 40, 3) := by decide +kernel
theorem dX6_idleOn_35 : decode cX6_idleOn 35 = .ok (.iload 4, 2) := by decide +kernel
theorem dX6_idleOn_37 : decode cX6_idleOn 37 = .ok (.ifCond .ne 22, 3) := by decide +kernel
theorem dX6_idleOn_40 : decode cX6_idleOn 40 = .ok (.iload_n 2, 1) := by decide +kernel
theorem dX6_idleOn_41 : decode cX6_idleOn 41 = .ok (.iload 5, 2) := by decide +kernel
theorem dX6_idleOn_43 : decode cX6_idleOn 43 = .ok (.invokestatic 119, 3) := by decide +kernel
theorem dX6_idleOn_46 : decode cX6_idleOn 46 = .ok (.ifCond .eq 17, 3) := by decide +kernel
theorem dX6_idleOn_49 : decode cX6_idleOn 49 = .ok (.aload_n 0, 1) := by decide +kernel
theorem dX6_idleOn_50 : decode cX6_idleOn 50 = .ok (.iload 5, 2) := by decide +kernel
theorem dX6_idleOn_52 : decode cX6_idleOn 52 = .ok (.invokevirtual 123, 3) := by decide +kernel
theorem dX6_idleOn_55 : decode cX6_idleOn 55 = .ok (.iload_n 3, 1) := by decide +kernel
theorem dX6_idleOn_56 : decode cX6_idleOn 56 = .ok (.if_icmp .ne 7, 3) := by decide +kernel
theorem dX6_idleOn_59 : decode cX6_idleOn 59 = .ok (.iconst 1, 1) := by decide +kernel
theorem dX6_idleOn_60 : decode cX6_idleOn 60 = .ok (.goto 4, 3) := by decide +kernel
theorem dX6_idleOn_63 : decode cX6_idleOn 63 = .ok (.iconst 0, 1) := by decide +kernel
theorem dX6_idleOn_64 : decode cX6_idleOn 64 = .ok (.istore 4, 2) := by decide +kernel
theorem dX6_idleOn_66 : decode cX6_idleOn 66 = .ok (.iinc 5 1, 3) := by decide +kernel
theorem dX6_idleOn_69 : decode cX6_idleOn 69 = .ok (.goto (-43), 3) := by decide +kernel
theorem dX6_idleOn_72 : decode cX6_idleOn 72 = .ok (.bipush 6, 2) := by decide +kernel
theorem dX6_idleOn_74 : decode cX6_idleOn 74 = .ok (.iload_n 3, 1) := by decide +kernel
theorem dX6_idleOn_75 : decode cX6_idleOn 75 = .ok (.imul, 1) := by decide +kernel
theorem dX6_idleOn_76 : decode cX6_idleOn 76 = .ok (.istore 5, 2) := by decide +kernel
theorem dX6_idleOn_78 : decode cX6_idleOn 78 = .ok (.aload_n 1, 1) := by decide +kernel
theorem dX6_idleOn_79 : decode cX6_idleOn 79 = .ok (.iload 5, 2) := by decide +kernel
theorem dX6_idleOn_81 : decode cX6_idleOn 81 = .ok (.iconst 4, 1) := by decide +kernel
theorem dX6_idleOn_82 : decode cX6_idleOn 82 = .ok (.iadd, 1) := by decide +kernel
theorem dX6_idleOn_83 : decode cX6_idleOn 83 = .ok (.iload 4, 2) := by decide +kernel
theorem dX6_idleOn_85 : decode cX6_idleOn 85 = .ok (.ifCond .eq 7, 3) := by decide +kernel
theorem dX6_idleOn_88 : decode cX6_idleOn 88 = .ok (.iconst 0, 1) := by decide +kernel
theorem dX6_idleOn_89 : decode cX6_idleOn 89 = .ok (.goto 11, 3) := by decide +kernel
theorem dX6_idleOn_92 : decode cX6_idleOn 92 = .ok (.aload_n 1, 1) := by decide +kernel
theorem dX6_idleOn_93 : decode cX6_idleOn 93 = .ok (.iload 5, 2) := by decide +kernel
theorem dX6_idleOn_95 : decode cX6_idleOn 95 = .ok (.iconst 4, 1) := by decide +kernel
theorem dX6_idleOn_96 : decode cX6_idleOn 96 = .ok (.iadd, 1) := by decide +kernel
theorem dX6_idleOn_97 : decode cX6_idleOn 97 = .ok (.iaload, 1) := by decide +kernel
theorem dX6_idleOn_98 : decode cX6_idleOn 98 = .ok (.iconst 1, 1) := by decide +kernel
theorem dX6_idleOn_99 : decode cX6_idleOn 99 = .ok (.iadd, 1) := by decide +kernel
theorem dX6_idleOn_100 : decode cX6_idleOn 100 = .ok (.iastore, 1) := by decide +kernel
theorem dX6_idleOn_101 : decode cX6_idleOn 101 = .ok (.iload 4, 2) := by decide +kernel
theorem dX6_idleOn_103 : decode cX6_idleOn 103 = .ok (.ifCond .ne 30, 3) := by decide +kernel
theorem dX6_idleOn_106 : decode cX6_idleOn 106 = .ok (.aload_n 1, 1) := by decide +kernel
theorem dX6_idleOn_107 : decode cX6_idleOn 107 = .ok (.bipush 74, 2) := by decide +kernel
theorem dX6_idleOn_109 : decode cX6_idleOn 109 = .ok (.iaload, 1) := by decide +kernel
theorem dX6_idleOn_110 : decode cX6_idleOn 110 = .ok (.ifCond .le 23, 3) := by decide +kernel
theorem dX6_idleOn_113 : decode cX6_idleOn 113 = .ok (.aload_n 1, 1) := by decide +kernel
theorem dX6_idleOn_114 : decode cX6_idleOn 114 = .ok (.iload 5, 2) := by decide +kernel
theorem dX6_idleOn_116 : decode cX6_idleOn 116 = .ok (.iconst 4, 1) := by decide +kernel
theorem dX6_idleOn_117 : decode cX6_idleOn 117 = .ok (.iadd, 1) := by decide +kernel
theorem dX6_idleOn_118 : decode cX6_idleOn 118 = .ok (.iaload, 1) := by decide +kernel
theorem dX6_idleOn_119 : decode cX6_idleOn 119 = .ok (.aload_n 1, 1) := by decide +kernel
theorem dX6_idleOn_120 : decode cX6_idleOn 120 = .ok (.bipush 74, 2) := by decide +kernel
theorem dX6_idleOn_122 : decode cX6_idleOn 122 = .ok (.iaload, 1) := by decide +kernel
theorem dX6_idleOn_123 : decode cX6_idleOn 123 = .ok (.if_icmp .lt 10, 3) := by decide +kernel
theorem dX6_idleOn_126 : decode cX6_idleOn 126 = .ok (.aload_n 1, 1) := by decide +kernel
theorem dX6_idleOn_127 : decode cX6_idleOn 127 = .ok (.iload 5, 2) := by decide +kernel
theorem dX6_idleOn_129 : decode cX6_idleOn 129 = .ok (.iconst 3, 1) := by decide +kernel
theorem dX6_idleOn_130 : decode cX6_idleOn 130 = .ok (.iadd, 1) := by decide +kernel
theorem dX6_idleOn_131 : decode cX6_idleOn 131 = .ok (.iconst 1, 1) := by decide +kernel
theorem dX6_idleOn_132 : decode cX6_idleOn 132 = .ok (.iastore, 1) := by decide +kernel
theorem dX6_idleOn_133 : decode cX6_idleOn 133 = .ok (.iinc 3 1, 3) := by decide +kernel
theorem dX6_idleOn_136 : decode cX6_idleOn 136 = .ok (.goto (-128), 3) := by decide +kernel
theorem dX6_idleOn_139 : decode cX6_idleOn 139 = .ok (.return_, 1) := by decide +kernel
theorem dX6_stepOn_0 : decode cX6_stepOn 0 = .ok (.aload_n 0, 1) := by decide +kernel
theorem dX6_stepOn_1 : decode cX6_stepOn 1 = .ok (.iconst 0, 1) := by decide +kernel
theorem dX6_stepOn_2 : decode cX6_stepOn 2 = .ok (.putfield 133, 3) := by decide +kernel
theorem dX6_stepOn_5 : decode cX6_stepOn 5 = .ok (.aload_n 0, 1) := by decide +kernel
theorem dX6_stepOn_6 : decode cX6_stepOn 6 = .ok (.aload_n 1, 1) := by decide +kernel
theorem dX6_stepOn_7 : decode cX6_stepOn 7 = .ok (.invokevirtual 136, 3) := by decide +kernel
theorem dX6_stepOn_10 : decode cX6_stepOn 10 = .ok (.aload_n 0, 1) := by decide +kernel
theorem dX6_stepOn_11 : decode cX6_stepOn 11 = .ok (.aload_n 1, 1) := by decide +kernel
theorem dX6_stepOn_12 : decode cX6_stepOn 12 = .ok (.aload_n 0, 1) := by decide +kernel
theorem dX6_stepOn_13 : decode cX6_stepOn 13 = .ok (.getfield 17, 3) := by decide +kernel
theorem dX6_stepOn_16 : decode cX6_stepOn 16 = .ok (.iconst 1, 1) := by decide +kernel
theorem dX6_stepOn_17 : decode cX6_stepOn 17 = .ok (.isub, 1) := by decide +kernel
theorem dX6_stepOn_18 : decode cX6_stepOn 18 = .ok (.invokevirtual 140, 3) := by decide +kernel
theorem dX6_stepOn_21 : decode cX6_stepOn 21 = .ok (.aload_n 0, 1) := by decide +kernel
theorem dX6_stepOn_22 : decode cX6_stepOn 22 = .ok (.getfield 51, 3) := by decide +kernel
theorem dX6_stepOn_25 : decode cX6_stepOn 25 = .ok (.ifCond .le 14, 3) := by decide +kernel
theorem dX6_stepOn_28 : decode cX6_stepOn 28 = .ok (.aload_n 0, 1) := by decide +kernel
theorem dX6_stepOn_29 : decode cX6_stepOn 29 = .ok (.aload_n 1, 1) := by decide +kernel
theorem dX6_stepOn_30 : decode cX6_stepOn 30 = .ok (.aload_n 0, 1) := by decide +kernel
theorem dX6_stepOn_31 : decode cX6_stepOn 31 = .ok (.invokevirtual 54, 3) := by decide +kernel
theorem dX6_stepOn_34 : decode cX6_stepOn 34 = .ok (.iconst 1, 1) := by decide +kernel
theorem dX6_stepOn_35 : decode cX6_stepOn 35 = .ok (.isub, 1) := by decide +kernel
theorem dX6_stepOn_36 : decode cX6_stepOn 36 = .ok (.invokevirtual 140, 3) := by decide +kernel
theorem dX6_stepOn_39 : decode cX6_stepOn 39 = .ok (.aload_n 0, 1) := by decide +kernel
theorem dX6_stepOn_40 : decode cX6_stepOn 40 = .ok (.aload_n 1, 1) := by decide +kernel
theorem dX6_stepOn_41 : decode cX6_stepOn 41 = .ok (.invokevirtual 144, 3) := by decide +kernel
theorem dX6_stepOn_44 : decode cX6_stepOn 44 = .ok (.aload_n 0, 1) := by decide +kernel
theorem dX6_stepOn_45 : decode cX6_stepOn 45 = .ok (.getfield 13, 3) := by decide +kernel
theorem dX6_stepOn_48 : decode cX6_stepOn 48 = .ok (.iconst 1, 1) := by decide +kernel
theorem dX6_stepOn_49 : decode cX6_stepOn 49 = .ok (.isub, 1) := by decide +kernel
theorem dX6_stepOn_50 : decode cX6_stepOn 50 = .ok (.istore_n 2, 1) := by decide +kernel
theorem dX6_stepOn_51 : decode cX6_stepOn 51 = .ok (.iload_n 2, 1) := by decide +kernel
theorem dX6_stepOn_52 : decode cX6_stepOn 52 = .ok (.ifCond .lt 15, 3) := by decide +kernel
theorem dX6_stepOn_55 : decode cX6_stepOn 55 = .ok (.aload_n 0, 1) := by decide +kernel
theorem dX6_stepOn_56 : decode cX6_stepOn 56 = .ok (.aload_n 1, 1) := by decide +kernel
theorem dX6_stepOn_57 : decode cX6_stepOn 57 = .ok (.iload_n 2, 1) := by decide +kernel
theorem dX6_stepOn_58 : decode cX6_stepOn 58 = .ok (.invokevirtual 147, 3) := by decide +kernel
theorem dX6_stepOn_61 : decode cX6_stepOn 61 = .ok (.iinc 2 (-1), 3) := by decide +kernel
theorem dX6_stepOn_64 : decode cX6_stepOn 64 = .ok (.goto (-13), 3) := by decide +kernel
theorem dX6_stepOn_67 : decode cX6_stepOn 67 = .ok (.aload_n 0, 1) := by decide +kernel
theorem dX6_stepOn_68 : decode cX6_stepOn 68 = .ok (.invokevirtual 54, 3) := by decide +kernel
theorem dX6_stepOn_71 : decode cX6_stepOn 71 = .ok (.iconst 1, 1) := by decide +kernel
theorem dX6_stepOn_72 : decode cX6_stepOn 72 = .ok (.isub, 1) := by decide +kernel
theorem dX6_stepOn_73 : decode cX6_stepOn 73 = .ok (.istore_n 2, 1) := by decide +kernel
theorem dX6_stepOn_74 : decode cX6_stepOn 74 = .ok (.iload_n 2, 1) := by decide +kernel
theorem dX6_stepOn_75 : decode cX6_stepOn 75 = .ok (.aload_n 0, 1) := by decide +kernel
theorem dX6_stepOn_76 : decode cX6_stepOn 76 = .ok (.getfield 13, 3) := by decide +kernel
theorem dX6_stepOn_79 : decode cX6_stepOn 79 = .ok (.if_icmp .lt 15, 3) := by decide +kernel
theorem dX6_stepOn_82 : decode cX6_stepOn 82 = .ok (.aload_n 0, 1) := by decide +kernel
theorem dX6_stepOn_83 : decode cX6_stepOn 83 = .ok (.aload_n 1, 1) := by decide +kernel
theorem dX6_stepOn_84 : decode cX6_stepOn 84 = .ok (.iload_n 2, 1) := by decide +kernel
theorem dX6_stepOn_85 : decode cX6_stepOn 85 = .ok (.invokevirtual 147, 3) := by decide +kernel
theorem dX6_stepOn_88 : decode cX6_stepOn 88 = .ok (.iinc 2 (-1), 3) := by decide +kernel
theorem dX6_stepOn_91 : decode cX6_stepOn 91 = .ok (.goto (-17), 3) := by decide +kernel
theorem dX6_stepOn_94 : decode cX6_stepOn 94 = .ok (.aload_n 0, 1) := by decide +kernel
theorem dX6_stepOn_95 : decode cX6_stepOn 95 = .ok (.aload_n 1, 1) := by decide +kernel
theorem dX6_stepOn_96 : decode cX6_stepOn 96 = .ok (.invokevirtual 150, 3) := by decide +kernel
theorem dX6_stepOn_99 : decode cX6_stepOn 99 = .ok (.aload_n 1, 1) := by decide +kernel
theorem dX6_stepOn_100 : decode cX6_stepOn 100 = .ok (.bipush 78, 2) := by decide +kernel
theorem dX6_stepOn_102 : decode cX6_stepOn 102 = .ok (.dup2, 1) := by decide +kernel
theorem dX6_stepOn_103 : decode cX6_stepOn 103 = .ok (.iaload, 1) := by decide +kernel
theorem dX6_stepOn_104 : decode cX6_stepOn 104 = .ok (.iconst 1, 1) := by decide +kernel
theorem dX6_stepOn_105 : decode cX6_stepOn 105 = .ok (.iadd, 1) := by decide +kernel
theorem dX6_stepOn_106 : decode cX6_stepOn 106 = .ok (.iastore, 1) := by decide +kernel
theorem dX6_stepOn_107 : decode cX6_stepOn 107 = .ok (.return_, 1) := by decide +kernel
theorem dX6_stepsOn_0 : decode cX6_stepsOn 0 = .ok (.iconst 0, 1) := by decide +kernel
theorem dX6_stepsOn_1 : decode cX6_stepsOn 1 = .ok (.istore_n 3, 1) := by decide +kernel
theorem dX6_stepsOn_2 : decode cX6_stepsOn 2 = .ok (.iload_n 3, 1) := by decide +kernel
theorem dX6_stepsOn_3 : decode cX6_stepsOn 3 = .ok (.iload_n 2, 1) := by decide +kernel
theorem dX6_stepsOn_4 : decode cX6_stepsOn 4 = .ok (.if_icmp .ge 14, 3) := by decide +kernel
theorem dX6_stepsOn_7 : decode cX6_stepsOn 7 = .ok (.aload_n 0, 1) := by decide +kernel
theorem dX6_stepsOn_8 : decode cX6_stepsOn 8 = .ok (.aload_n 1, 1) := by decide +kernel
theorem dX6_stepsOn_9 : decode cX6_stepsOn 9 = .ok (.invokevirtual 153, 3) := by decide +kernel
theorem dX6_stepsOn_12 : decode cX6_stepsOn 12 = .ok (.iinc 3 1, 3) := by decide +kernel
theorem dX6_stepsOn_15 : decode cX6_stepsOn 15 = .ok (.goto (-13), 3) := by decide +kernel
theorem dX6_stepsOn_18 : decode cX6_stepsOn 18 = .ok (.return_, 1) := by decide +kernel
theorem dX6_those_0 : decode cX6_those 0 = .ok (.iconst 0, 1) := by decide +kernel
theorem dX6_those_1 : decode cX6_those 1 = .ok (.istore_n 3, 1) := by decide +kernel
theorem dX6_those_2 : decode cX6_those 2 = .ok (.iconst 0, 1) := by decide +kernel
theorem dX6_those_3 : decode cX6_those 3 = .ok (.istore 4, 2) := by decide +kernel
theorem dX6_those_5 : decode cX6_those 5 = .ok (.iload 4, 2) := by decide +kernel
theorem dX6_those_7 : decode cX6_those 7 = .ok (.aload_n 0, 1) := by decide +kernel
theorem dX6_those_8 : decode cX6_those 8 = .ok (.invokevirtual 54, 3) := by decide +kernel
theorem dX6_those_11 : decode cX6_those 11 = .ok (.if_icmp .ge 32, 3) := by decide +kernel
theorem dX6_those_14 : decode cX6_those 14 = .ok (.iload_n 3, 1) := by decide +kernel
theorem dX6_those_15 : decode cX6_those 15 = .ok (.aload_n 1, 1) := by decide +kernel
theorem dX6_those_16 : decode cX6_those 16 = .ok (.bipush 6, 2) := by decide +kernel
theorem dX6_those_18 : decode cX6_those 18 = .ok (.iload 4, 2) := by decide +kernel
theorem dX6_those_20 : decode cX6_those 20 = .ok (.imul, 1) := by decide +kernel
theorem dX6_those_21 : decode cX6_those 21 = .ok (.iload_n 2, 1) := by decide +kernel
theorem dX6_those_22 : decode cX6_those 22 = .ok (.iadd, 1) := by decide +kernel
theorem dX6_those_23 : decode cX6_those 23 = .ok (.iaload, 1) := by decide +kernel
theorem dX6_those_24 : decode cX6_those 24 = .ok (.ifCond .le 10, 3) := by decide +kernel
theorem dX6_those_27 : decode cX6_those 27 = .ok (.iconst 1, 1) := by decide +kernel
theorem dX6_those_28 : decode cX6_those 28 = .ok (.iload 4, 2) := by decide +kernel
theorem dX6_those_30 : decode cX6_those 30 = .ok (.ishl, 1) := by decide +kernel
theorem dX6_those_31 : decode cX6_those 31 = .ok (.goto 4, 3) := by decide +kernel
theorem dX6_those_34 : decode cX6_those 34 = .ok (.iconst 0, 1) := by decide +kernel
theorem dX6_those_35 : decode cX6_those 35 = .ok (.ior, 1) := by decide +kernel
theorem dX6_those_36 : decode cX6_those 36 = .ok (.istore_n 3, 1) := by decide +kernel
theorem dX6_those_37 : decode cX6_those 37 = .ok (.iinc 4 1, 3) := by decide +kernel
theorem dX6_those_40 : decode cX6_those 40 = .ok (.goto (-35), 3) := by decide +kernel
theorem dX6_those_43 : decode cX6_those 43 = .ok (.iload_n 3, 1) := by decide +kernel
theorem dX6_those_44 : decode cX6_those 44 = .ok (.ireturn, 1) := by decide +kernel
theorem dX6_tellOf_0 : decode cX6_tellOf 0 = .ok (.bipush 6, 2) := by decide +kernel
theorem dX6_tellOf_2 : decode cX6_tellOf 2 = .ok (.iload_n 2, 1) := by decide +kernel
theorem dX6_tellOf_3 : decode cX6_tellOf 3 = .ok (.imul, 1) := by decide +kernel
theorem dX6_tellOf_4 : decode cX6_tellOf 4 = .ok (.istore 4, 2) := by decide +kernel
theorem dX6_tellOf_6 : decode cX6_tellOf 6 = .ok (.iload_n 3, 1) := by decide +kernel
theorem dX6_tellOf_7 : decode cX6_tellOf 7 = .ok (.tableswitch 67 0 2 #[25, 46, 53], 25) := by decide +kernel
theorem dX6_tellOf_32 : decode cX6_tellOf 32 = .ok (.aload_n 1, 1) := by decide +kernel
theorem dX6_tellOf_33 : decode cX6_tellOf 33 = .ok (.iload 4, 2) := by decide +kernel
theorem dX6_tellOf_35 : decode cX6_tellOf 35 = .ok (.iconst 0, 1) := by decide +kernel
theorem dX6_tellOf_36 : decode cX6_tellOf 36 = .ok (.iadd, 1) := by decide +kernel
theorem dX6_tellOf_37 : decode cX6_tellOf 37 = .ok (.iaload, 1) := by decide +kernel
theorem dX6_tellOf_38 : decode cX6_tellOf 38 = .ok (.ifCond .le 12, 3) := by decide +kernel
theorem dX6_tellOf_41 : decode cX6_tellOf 41 = .ok (.aload_n 1, 1) := by decide +kernel
theorem dX6_tellOf_42 : decode cX6_tellOf 42 = .ok (.iload 4, 2) := by decide +kernel
theorem dX6_tellOf_44 : decode cX6_tellOf 44 = .ok (.iconst 0, 1) := by decide +kernel
theorem dX6_tellOf_45 : decode cX6_tellOf 45 = .ok (.iadd, 1) := by decide +kernel
theorem dX6_tellOf_46 : decode cX6_tellOf 46 = .ok (.iaload, 1) := by decide +kernel
theorem dX6_tellOf_47 : decode cX6_tellOf 47 = .ok (.goto 5, 3) := by decide +kernel
theorem dX6_tellOf_50 : decode cX6_tellOf 50 = .ok (.bipush (-9), 2) := by decide +kernel
theorem dX6_tellOf_52 : decode cX6_tellOf 52 = .ok (.ireturn, 1) := by decide +kernel
theorem dX6_tellOf_53 : decode cX6_tellOf 53 = .ok (.aload_n 1, 1) := by decide +kernel
theorem dX6_tellOf_54 : decode cX6_tellOf 54 = .ok (.iload 4, 2) := by decide +kernel
theorem dX6_tellOf_56 : decode cX6_tellOf 56 = .ok (.iconst 1, 1) := by decide +kernel
theorem dX6_tellOf_57 : decode cX6_tellOf 57 = .ok (.iadd, 1) := by decide +kernel
theorem dX6_tellOf_58 : decode cX6_tellOf 58 = .ok (.iaload, 1) := by decide +kernel
theorem dX6_tellOf_59 : decode cX6_tellOf 59 = .ok (.ireturn, 1) := by decide +kernel
theorem dX6_tellOf_60 : decode cX6_tellOf 60 = .ok (.aload_n 1, 1) := by decide +kernel
theorem dX6_tellOf_61 : decode cX6_tellOf 61 = .ok (.iload_n 2, 1) := by decide +kernel
theorem dX6_tellOf_62 : decode cX6_tellOf 62 = .ok (.invokestatic 102, 3) := by decide +kernel
theorem dX6_tellOf_65 : decode cX6_tellOf 65 = .ok (.ifCond .eq 7, 3) := by decide +kernel
theorem dX6_tellOf_68 : decode cX6_tellOf 68 = .ok (.iconst 1, 1) := by decide +kernel
theorem dX6_tellOf_69 : decode cX6_tellOf 69 = .ok (.goto 4, 3) := by decide +kernel
theorem dX6_tellOf_72 : decode cX6_tellOf 72 = .ok (.iconst 0, 1) := by decide +kernel
theorem dX6_tellOf_73 : decode cX6_tellOf 73 = .ok (.ireturn, 1) := by decide +kernel
theorem dX6_tellOf_74 : decode cX6_tellOf 74 = .ok (.aload_n 1, 1) := by decide +kernel
theorem dX6_tellOf_75 : decode cX6_tellOf 75 = .ok (.iload 4, 2) := by decide +kernel
theorem dX6_tellOf_77 : decode cX6_tellOf 77 = .ok (.iload_n 3, 1) := by decide +kernel
theorem dX6_tellOf_78 : decode cX6_tellOf 78 = .ok (.iadd, 1) := by decide +kernel
theorem dX6_tellOf_79 : decode cX6_tellOf 79 = .ok (.iconst 1, 1) := by decide +kernel
theorem dX6_tellOf_80 : decode cX6_tellOf 80 = .ok (.isub, 1) := by decide +kernel
theorem dX6_tellOf_81 : decode cX6_tellOf 81 = .ok (.iaload, 1) := by decide +kernel
theorem dX6_tellOf_82 : decode cX6_tellOf 82 = .ok (.ireturn, 1) := by decide +kernel
theorem dX6_zone_0 : decode cX6_zone 0 = .ok (.aload_n 0, 1) := by decide +kernel
theorem dX6_zone_1 : decode cX6_zone 1 = .ok (.iconst 0, 1) := by decide +kernel
theorem dX6_zone_2 : decode cX6_zone 2 = .ok (.putfield 48, 3) := by decide +kernel
theorem dX6_zone_5 : decode cX6_zone 5 = .ok (.aload_n 0, 1) := by decide +kernel
theorem dX6_zone_6 : decode cX6_zone 6 = .ok (.iload_n 1, 1) := by decide +kernel
theorem dX6_zone_7 : decode cX6_zone 7 = .ok (.invokevirtual 156, 3) := by decide +kernel
theorem dX6_zone_10 : decode cX6_zone 10 = .ok (.ifCond .eq 5, 3) := by decide +kernel
theorem dX6_zone_13 : decode cX6_zone 13 = .ok (.iconst (-1), 1) := by decide +kernel
theorem dX6_zone_14 : decode cX6_zone 14 = .ok (.ireturn, 1) := by decide +kernel
theorem dX6_zone_15 : decode cX6_zone 15 = .ok (.iload_n 2, 1) := by decide +kernel
theorem dX6_zone_16 : decode cX6_zone 16 = .ok (.i2l, 1) := by decide +kernel
theorem dX6_zone_17 : decode cX6_zone 17 = .ok (.lconst 0, 1) := by decide +kernel
theorem dX6_zone_18 : decode cX6_zone 18 = .ok (.ldc2_w 159, 3) := by decide +kernel
theorem dX6_zone_21 : decode cX6_zone 21 = .ok (.invokestatic 58, 3) := by decide +kernel
theorem dX6_zone_24 : decode cX6_zone 24 = .ok (.ifCond .eq 16, 3) := by decide +kernel
theorem dX6_zone_27 : decode cX6_zone 27 = .ok (.aload_n 0, 1) := by decide +kernel
theorem dX6_zone_28 : decode cX6_zone 28 = .ok (.aload_n 0, 1) := by decide +kernel
theorem dX6_zone_29 : decode cX6_zone 29 = .ok (.getfield 23, 3) := by decide +kernel
theorem dX6_zone_32 : decode cX6_zone 32 = .ok (.iload_n 1, 1) := by decide +kernel
theorem dX6_zone_33 : decode cX6_zone 33 = .ok (.iload_n 2, 1) := by decide +kernel
theorem dX6_zone_34 : decode cX6_zone 34 = .ok (.invokevirtual 161, 3) := by decide +kernel
theorem dX6_zone_37 : decode cX6_zone 37 = .ok (.goto 5, 3) := by decide +kernel
theorem dX6_zone_40 : decode cX6_zone 40 = .ok (.bipush (-2), 2) := by decide +kernel
theorem dX6_zone_42 : decode cX6_zone 42 = .ok (.ireturn, 1) := by decide +kernel
theorem dX6_note_0 : decode cX6_note 0 = .ok (.aload_n 0, 1) := by decide +kernel
theorem dX6_note_1 : decode cX6_note 1 = .ok (.getfield 99, 3) := by decide +kernel
theorem dX6_note_4 : decode cX6_note 4 = .ok (.bipush 14, 2) := by decide +kernel
theorem dX6_note_6 : decode cX6_note 6 = .ok (.if_icmp .ne 43, 3) := by decide +kernel
theorem dX6_note_9 : decode cX6_note 9 = .ok (.iconst 0, 1) := by decide +kernel
theorem dX6_note_10 : decode cX6_note 10 = .ok (.istore_n 1, 1) := by decide +kernel
theorem dX6_note_11 : decode cX6_note 11 = .ok (.iload_n 1, 1) := by decide +kernel
theorem dX6_note_12 : decode cX6_note 12 = .ok (.sipush 1027, 3) := by decide +kernel
theorem dX6_note_15 : decode cX6_note 15 = .ok (.if_icmp .ge 24, 3) := by decide +kernel
theorem dX6_note_18 : decode cX6_note 18 = .ok (.aload_n 0, 1) := by decide +kernel
theorem dX6_note_19 : decode cX6_note 19 = .ok (.getfield 29, 3) := by decide +kernel
theorem dX6_note_22 : decode cX6_note 22 = .ok (.iload_n 1, 1) := by decide +kernel
theorem dX6_note_23 : decode cX6_note 23 = .ok (.aload_n 0, 1) := by decide +kernel
theorem dX6_note_24 : decode cX6_note 24 = .ok (.getfield 29, 3) := by decide +kernel
theorem dX6_note_27 : decode cX6_note 27 = .ok (.iload_n 1, 1) := by decide +kernel
theorem dX6_note_28 : decode cX6_note 28 = .ok (.bipush 79, 2) := by decide +kernel
theorem dX6_note_30 : decode cX6_note 30 = .ok (.iadd, 1) := by decide +kernel
theorem dX6_note_31 : decode cX6_note 31 = .ok (.iaload, 1) := by decide +kernel
theorem dX6_note_32 : decode cX6_note 32 = .ok (.iastore, 1) := by decide +kernel
theorem dX6_note_33 : decode cX6_note 33 = .ok (.iinc 1 1, 3) := by decide +kernel
theorem dX6_note_36 : decode cX6_note 36 = .ok (.goto (-25), 3) := by decide +kernel
theorem dX6_note_39 : decode cX6_note 39 = .ok (.aload_n 0, 1) := by decide +kernel
theorem dX6_note_40 : decode cX6_note 40 = .ok (.dup, 1) := by decide +kernel
theorem dX6_note_41 : decode cX6_note 41 = .ok (.getfield 99, 3) := by decide +kernel
theorem dX6_note_44 : decode cX6_note 44 = .ok (.iconst 1, 1) := by decide +kernel
theorem dX6_note_45 : decode cX6_note 45 = .ok (.isub, 1) := by decide +kernel
theorem dX6_note_46 : decode cX6_note 46 = .ok (.putfield 99, 3) := by decide +kernel
theorem dX6_note_49 : decode cX6_note 49 = .ok (.iconst 0, 1) := by decide +kernel
theorem dX6_note_50 : decode cX6_note 50 = .ok (.istore_n 1, 1) := by decide +kernel
theorem dX6_note_51 : decode cX6_note 51 = .ok (.iload_n 1, 1) := by decide +kernel
theorem dX6_note_52 : decode cX6_note 52 = .ok (.bipush 79, 2) := by decide +kernel
theorem dX6_note_54 : decode cX6_note 54 = .ok (.if_icmp .ge 29, 3) := by decide +kernel
theorem dX6_note_57 : decode cX6_note 57 = .ok (.aload_n 0, 1) := by decide +kernel
theorem dX6_note_58 : decode cX6_note 58 = .ok (.getfield 29, 3) := by decide +kernel
theorem dX6_note_61 : decode cX6_note 61 = .ok (.bipush 79, 2) := by decide +kernel
theorem dX6_note_63 : decode cX6_note 63 = .ok (.aload_n 0, 1) := by decide +kernel
theorem dX6_note_64 : decode cX6_note 64 = .ok (.getfield 99, 3) := by decide +kernel
theorem dX6_note_67 : decode cX6_note 67 = .ok (.imul, 1) := by decide +kernel
theorem dX6_note_68 : decode cX6_note 68 = .ok (.iload_n 1, 1) := by decide +kernel
theorem dX6_note_69 : decode cX6_note 69 = .ok (.iadd, 1) := by decide +kernel
theorem dX6_note_70 : decode cX6_note 70 = .ok (.aload_n 0, 1) := by decide +kernel
theorem dX6_note_71 : decode cX6_note 71 = .ok (.getfield 23, 3) := by decide +kernel
theorem dX6_note_74 : decode cX6_note 74 = .ok (.iload_n 1, 1) := by decide +kernel
theorem dX6_note_75 : decode cX6_note 75 = .ok (.iaload, 1) := by decide +kernel
theorem dX6_note_76 : decode cX6_note 76 = .ok (.iastore, 1) := by decide +kernel
theorem dX6_note_77 : decode cX6_note 77 = .ok (.iinc 1 1, 3) := by decide +kernel
theorem dX6_note_80 : decode cX6_note 80 = .ok (.goto (-29), 3) := by decide +kernel
theorem dX6_note_83 : decode cX6_note 83 = .ok (.aload_n 0, 1) := by decide +kernel
theorem dX6_note_84 : decode cX6_note 84 = .ok (.dup, 1) := by decide +kernel
theorem dX6_note_85 : decode cX6_note 85 = .ok (.getfield 99, 3) := by decide +kernel
theorem dX6_note_88 : decode cX6_note 88 = .ok (.iconst 1, 1) := by decide +kernel
theorem dX6_note_89 : decode cX6_note 89 = .ok (.iadd, 1) := by decide +kernel
theorem dX6_note_90 : decode cX6_note 90 = .ok (.putfield 99, 3) := by decide +kernel
theorem dX6_note_93 : decode cX6_note 93 = .ok (.return_, 1) := by decide +kernel
theorem dX6_noLine_0 : decode cX6_noLine 0 = .ok (.iload_n 1, 1) := by decide +kernel
theorem dX6_noLine_1 : decode cX6_noLine 1 = .ok (.ifCond .eq 19, 3) := by decide +kernel
theorem dX6_noLine_4 : decode cX6_noLine 4 = .ok (.iload_n 1, 1) := by decide +kernel
theorem dX6_noLine_5 : decode cX6_noLine 5 = .ok (.iconst 1, 1) := by decide +kernel
theorem dX6_noLine_6 : decode cX6_noLine 6 = .ok (.if_icmp .ne 10, 3) := by decide +kernel
theorem dX6_noLine_9 : decode cX6_noLine 9 = .ok (.aload_n 0, 1) := by decide +kernel
theorem dX6_noLine_10 : decode cX6_noLine 10 = .ok (.getfield 51, 3) := by decide +kernel
theorem dX6_noLine_13 : decode cX6_noLine 13 = .ok (.ifCond .gt 7, 3) := by decide +kernel
theorem dX6_noLine_16 : decode cX6_noLine 16 = .ok (.iconst 1, 1) := by decide +kernel
theorem dX6_noLine_17 : decode cX6_noLine 17 = .ok (.goto 4, 3) := by decide +kernel
theorem dX6_noLine_20 : decode cX6_noLine 20 = .ok (.iconst 0, 1) := by decide +kernel
theorem dX6_noLine_21 : decode cX6_noLine 21 = .ok (.ireturn, 1) := by decide +kernel
theorem dX6_entry_0 : decode cX6_entry 0 = .ok (.iload_n 1, 1) := by decide +kernel
theorem dX6_entry_1 : decode cX6_entry 1 = .ok (.ifCond .ne 7, 3) := by decide +kernel
theorem dX6_entry_4 : decode cX6_entry 4 = .ok (.iconst 0, 1) := by decide +kernel
theorem dX6_entry_5 : decode cX6_entry 5 = .ok (.goto 7, 3) := by decide +kernel
theorem dX6_entry_8 : decode cX6_entry 8 = .ok (.aload_n 0, 1) := by decide +kernel
theorem dX6_entry_9 : decode cX6_entry 9 = .ok (.getfield 13, 3) := by decide +kernel
theorem dX6_entry_12 : decode cX6_entry 12 = .ok (.ireturn, 1) := by decide +kernel
theorem dX6_feedOn_0 : decode cX6_feedOn 0 = .ok (.aload_n 1, 1) := by decide +kernel
theorem dX6_feedOn_1 : decode cX6_feedOn 1 = .ok (.bipush 76, 2) := by decide +kernel
theorem dX6_feedOn_3 : decode cX6_feedOn 3 = .ok (.dup2, 1) := by decide +kernel
theorem dX6_feedOn_4 : decode cX6_feedOn 4 = .ok (.iaload, 1) := by decide +kernel
theorem dX6_feedOn_5 : decode cX6_feedOn 5 = .ok (.iconst 1, 1) := by decide +kernel
theorem dX6_feedOn_6 : decode cX6_feedOn 6 = .ok (.iadd, 1) := by decide +kernel
theorem dX6_feedOn_7 : decode cX6_feedOn 7 = .ok (.iastore, 1) := by decide +kernel
theorem dX6_feedOn_8 : decode cX6_feedOn 8 = .ok (.aload_n 1, 1) := by decide +kernel
theorem dX6_feedOn_9 : decode cX6_feedOn 9 = .ok (.bipush 6, 2) := by decide +kernel
theorem dX6_feedOn_11 : decode cX6_feedOn 11 = .ok (.aload_n 0, 1) := by decide +kernel
theorem dX6_feedOn_12 : decode cX6_feedOn 12 = .ok (.iload_n 2, 1) := by decide +kernel
theorem dX6_feedOn_13 : decode cX6_feedOn 13 = .ok (.invokevirtual 165, 3) := by decide +kernel
theorem dX6_feedOn_16 : decode cX6_feedOn 16 = .ok (.imul, 1) := by decide +kernel
theorem dX6_feedOn_17 : decode cX6_feedOn 17 = .ok (.iconst 0, 1) := by decide +kernel
theorem dX6_feedOn_18 : decode cX6_feedOn 18 = .ok (.iadd, 1) := by decide +kernel
theorem dX6_feedOn_19 : decode cX6_feedOn 19 = .ok (.aload_n 1, 1) := by decide +kernel
theorem dX6_feedOn_20 : decode cX6_feedOn 20 = .ok (.bipush 76, 2) := by decide +kernel
theorem dX6_feedOn_22 : decode cX6_feedOn 22 = .ok (.iaload, 1) := by decide +kernel
theorem dX6_feedOn_23 : decode cX6_feedOn 23 = .ok (.iastore, 1) := by decide +kernel
theorem dX6_feedOn_24 : decode cX6_feedOn 24 = .ok (.return_, 1) := by decide +kernel
theorem dX6_feed_0 : decode cX6_feed 0 = .ok (.aload_n 0, 1) := by decide +kernel
theorem dX6_feed_1 : decode cX6_feed 1 = .ok (.iconst 0, 1) := by decide +kernel
theorem dX6_feed_2 : decode cX6_feed 2 = .ok (.putfield 48, 3) := by decide +kernel
theorem dX6_feed_5 : decode cX6_feed 5 = .ok (.aload_n 0, 1) := by decide +kernel
theorem dX6_feed_6 : decode cX6_feed 6 = .ok (.iload_n 1, 1) := by decide +kernel
theorem dX6_feed_7 : decode cX6_feed 7 = .ok (.invokevirtual 168, 3) := by decide +kernel
theorem dX6_feed_10 : decode cX6_feed 10 = .ok (.ifCond .eq 5, 3) := by decide +kernel
theorem dX6_feed_13 : decode cX6_feed 13 = .ok (.iconst (-1), 1) := by decide +kernel
theorem dX6_feed_14 : decode cX6_feed 14 = .ok (.ireturn, 1) := by decide +kernel
theorem dX6_feed_15 : decode cX6_feed 15 = .ok (.aload_n 0, 1) := by decide +kernel
theorem dX6_feed_16 : decode cX6_feed 16 = .ok (.getfield 23, 3) := by decide +kernel
theorem dX6_feed_19 : decode cX6_feed 19 = .ok (.bipush 6, 2) := by decide +kernel
theorem dX6_feed_21 : decode cX6_feed 21 = .ok (.aload_n 0, 1) := by decide +kernel
theorem dX6_feed_22 : decode cX6_feed 22 = .ok (.iload_n 1, 1) := by decide +kernel
theorem dX6_feed_23 : decode cX6_feed 23 = .ok (.invokevirtual 165, 3) := by decide +kernel
theorem dX6_feed_26 : decode cX6_feed 26 = .ok (.imul, 1) := by decide +kernel
theorem dX6_feed_27 : decode cX6_feed 27 = .ok (.iconst 0, 1) := by decide +kernel
theorem dX6_feed_28 : decode cX6_feed 28 = .ok (.iadd, 1) := by decide +kernel
theorem dX6_feed_29 : decode cX6_feed 29 = .ok (.iaload, 1) := by decide +kernel
theorem dX6_feed_30 : decode cX6_feed 30 = .ok (.ifCond .le 6, 3) := by decide +kernel
theorem dX6_feed_33 : decode cX6_feed 33 = .ok (.bipush (-3), 2) := by decide +kernel
theorem dX6_feed_35 : decode cX6_feed 35 = .ok (.ireturn, 1) := by decide +kernel
theorem dX6_feed_36 : decode cX6_feed 36 = .ok (.aload_n 0, 1) := by decide +kernel
theorem dX6_feed_37 : decode cX6_feed 37 = .ok (.getfield 23, 3) := by decide +kernel
theorem dX6_feed_40 : decode cX6_feed 40 = .ok (.bipush 76, 2) := by decide +kernel
theorem dX6_feed_42 : decode cX6_feed 42 = .ok (.iaload, 1) := by decide +kernel
theorem dX6_feed_43 : decode cX6_feed 43 = .ok (.bipush 99, 2) := by decide +kernel
theorem dX6_feed_45 : decode cX6_feed 45 = .ok (.if_icmp .ne 6, 3) := by decide +kernel
theorem dX6_feed_48 : decode cX6_feed 48 = .ok (.bipush (-4), 2) := by decide +kernel
theorem dX6_feed_50 : decode cX6_feed 50 = .ok (.ireturn, 1) := by decide +kernel
theorem dX6_feed_51 : decode cX6_feed 51 = .ok (.aload_n 0, 1) := by decide +kernel
theorem dX6_feed_52 : decode cX6_feed 52 = .ok (.invokevirtual 171, 3) := by decide +kernel
theorem dX6_feed_55 : decode cX6_feed 55 = .ok (.aload_n 0, 1) := by decide +kernel
theorem dX6_feed_56 : decode cX6_feed 56 = .ok (.aload_n 0, 1) := by decide +kernel
theorem dX6_feed_57 : decode cX6_feed 57 = .ok (.getfield 23, 3) := by decide +kernel
theorem dX6_feed_60 : decode cX6_feed 60 = .ok (.iload_n 1, 1) := by decide +kernel
theorem dX6_feed_61 : decode cX6_feed 61 = .ok (.invokevirtual 174, 3) := by decide +kernel
theorem dX6_feed_64 : decode cX6_feed 64 = .ok (.aload_n 0, 1) := by decide +kernel
theorem dX6_feed_65 : decode cX6_feed 65 = .ok (.getfield 23, 3) := by decide +kernel
theorem dX6_feed_68 : decode cX6_feed 68 = .ok (.bipush 76, 2) := by decide +kernel
theorem dX6_feed_70 : decode cX6_feed 70 = .ok (.iaload, 1) := by decide +kernel
theorem dX6_feed_71 : decode cX6_feed 71 = .ok (.ireturn, 1) := by decide +kernel
theorem dX6_liftOn_0 : decode cX6_liftOn 0 = .ok (.aload_n 0, 1) := by decide +kernel
theorem dX6_liftOn_1 : decode cX6_liftOn 1 = .ok (.bipush 6, 2) := by decide +kernel
theorem dX6_liftOn_3 : decode cX6_liftOn 3 = .ok (.iload_n 1, 1) := by decide +kernel
theorem dX6_liftOn_4 : decode cX6_liftOn 4 = .ok (.imul, 1) := by decide +kernel
theorem dX6_liftOn_5 : decode cX6_liftOn 5 = .ok (.iconst 0, 1) := by decide +kernel
theorem dX6_liftOn_6 : decode cX6_liftOn 6 = .ok (.iadd, 1) := by decide +kernel
theorem dX6_liftOn_7 : decode cX6_liftOn 7 = .ok (.iaload, 1) := by decide +kernel
theorem dX6_liftOn_8 : decode cX6_liftOn 8 = .ok (.istore_n 2, 1) := by decide +kernel
theorem dX6_liftOn_9 : decode cX6_liftOn 9 = .ok (.aload_n 0, 1) := by decide +kernel
theorem dX6_liftOn_10 : decode cX6_liftOn 10 = .ok (.bipush 6, 2) := by decide +kernel
theorem dX6_liftOn_12 : decode cX6_liftOn 12 = .ok (.iload_n 1, 1) := by decide +kernel
theorem dX6_liftOn_13 : decode cX6_liftOn 13 = .ok (.imul, 1) := by decide +kernel
theorem dX6_liftOn_14 : decode cX6_liftOn 14 = .ok (.iconst 0, 1) := by decide +kernel
theorem dX6_liftOn_15 : decode cX6_liftOn 15 = .ok (.iadd, 1) := by decide +kernel
theorem dX6_liftOn_16 : decode cX6_liftOn 16 = .ok (.iconst 0, 1) := by decide +kernel
theorem dX6_liftOn_17 : decode cX6_liftOn 17 = .ok (.iastore, 1) := by decide +kernel
theorem dX6_liftOn_18 : decode cX6_liftOn 18 = .ok (.aload_n 0, 1) := by decide +kernel
theorem dX6_liftOn_19 : decode cX6_liftOn 19 = .ok (.bipush 6, 2) := by decide +kernel
theorem dX6_liftOn_21 : decode cX6_liftOn 21 = .ok (.iload_n 1, 1) := by decide +kernel
theorem dX6_liftOn_22 : decode cX6_liftOn 22 = .ok (.imul, 1) := by decide +kernel
theorem dX6_liftOn_23 : decode cX6_liftOn 23 = .ok (.iconst 2, 1) := by decide +kernel
theorem dX6_liftOn_24 : decode cX6_liftOn 24 = .ok (.iadd, 1) := by decide +kernel
theorem dX6_liftOn_25 : decode cX6_liftOn 25 = .ok (.iconst 0, 1) := by decide +kernel
theorem dX6_liftOn_26 : decode cX6_liftOn 26 = .ok (.iastore, 1) := by decide +kernel
theorem dX6_liftOn_27 : decode cX6_liftOn 27 = .ok (.iload_n 2, 1) := by decide +kernel
theorem dX6_liftOn_28 : decode cX6_liftOn 28 = .ok (.ireturn, 1) := by decide +kernel
theorem dX6_lift_0 : decode cX6_lift 0 = .ok (.aload_n 0, 1) := by decide +kernel
theorem dX6_lift_1 : decode cX6_lift 1 = .ok (.iconst 0, 1) := by decide +kernel
theorem dX6_lift_2 : decode cX6_lift 2 = .ok (.putfield 48, 3) := by decide +kernel
theorem dX6_lift_5 : decode cX6_lift 5 = .ok (.aload_n 0, 1) := by decide +kernel
theorem dX6_lift_6 : decode cX6_lift 6 = .ok (.iload_n 1, 1) := by decide +kernel
theorem dX6_lift_7 : decode cX6_lift 7 = .ok (.invokevirtual 156, 3) := by decide +kernel
theorem dX6_lift_10 : decode cX6_lift 10 = .ok (.ifCond .eq 5, 3) := by decide +kernel
theorem dX6_lift_13 : decode cX6_lift 13 = .ok (.iconst (-1), 1) := by decide +kernel
theorem dX6_lift_14 : decode cX6_lift 14 = .ok (.ireturn, 1) := by decide +kernel
theorem dX6_lift_15 : decode cX6_lift 15 = .ok (.aload_n 0, 1) := by decide +kernel
theorem dX6_lift_16 : decode cX6_lift 16 = .ok (.getfield 23, 3) := by decide +kernel
theorem dX6_lift_19 : decode cX6_lift 19 = .ok (.bipush 6, 2) := by decide +kernel
theorem dX6_lift_21 : decode cX6_lift 21 = .ok (.iload_n 1, 1) := by decide +kernel
theorem dX6_lift_22 : decode cX6_lift 22 = .ok (.imul, 1) := by decide +kernel
theorem dX6_lift_23 : decode cX6_lift 23 = .ok (.iconst 0, 1) := by decide +kernel
theorem dX6_lift_24 : decode cX6_lift 24 = .ok (.iadd, 1) := by decide +kernel
theorem dX6_lift_25 : decode cX6_lift 25 = .ok (.iaload, 1) := by decide +kernel
theorem dX6_lift_26 : decode cX6_lift 26 = .ok (.ifCond .ne 6, 3) := by decide +kernel
theorem dX6_lift_29 : decode cX6_lift 29 = .ok (.bipush (-3), 2) := by decide +kernel
theorem dX6_lift_31 : decode cX6_lift 31 = .ok (.ireturn, 1) := by decide +kernel
theorem dX6_lift_32 : decode cX6_lift 32 = .ok (.aload_n 0, 1) := by decide +kernel
theorem dX6_lift_33 : decode cX6_lift 33 = .ok (.invokevirtual 171, 3) := by decide +kernel
theorem dX6_lift_36 : decode cX6_lift 36 = .ok (.aload_n 0, 1) := by decide +kernel
theorem dX6_lift_37 : decode cX6_lift 37 = .ok (.getfield 23, 3) := by decide +kernel
theorem dX6_lift_40 : decode cX6_lift 40 = .ok (.iload_n 1, 1) := by decide +kernel
theorem dX6_lift_41 : decode cX6_lift 41 = .ok (.invokestatic 177, 3) := by decide +kernel
theorem dX6_lift_44 : decode cX6_lift 44 = .ok (.ireturn, 1) := by decide +kernel
theorem dX6_turn_0 : decode cX6_turn 0 = .ok (.aload_n 0, 1) := by decide +kernel
theorem dX6_turn_1 : decode cX6_turn 1 = .ok (.iconst 0, 1) := by decide +kernel
theorem dX6_turn_2 : decode cX6_turn 2 = .ok (.putfield 48, 3) := by decide +kernel
theorem dX6_turn_5 : decode cX6_turn 5 = .ok (.aload_n 0, 1) := by decide +kernel
theorem dX6_turn_6 : decode cX6_turn 6 = .ok (.invokevirtual 171, 3) := by decide +kernel
theorem dX6_turn_9 : decode cX6_turn 9 = .ok (.aload_n 0, 1) := by decide +kernel
theorem dX6_turn_10 : decode cX6_turn 10 = .ok (.getfield 23, 3) := by decide +kernel
theorem dX6_turn_13 : decode cX6_turn 13 = .ok (.bipush 72, 2) := by decide +kernel
theorem dX6_turn_15 : decode cX6_turn 15 = .ok (.iconst 1, 1) := by decide +kernel
theorem dX6_turn_16 : decode cX6_turn 16 = .ok (.aload_n 0, 1) := by decide +kernel
theorem dX6_turn_17 : decode cX6_turn 17 = .ok (.getfield 23, 3) := by decide +kernel
theorem dX6_turn_20 : decode cX6_turn 20 = .ok (.bipush 72, 2) := by decide +kernel
theorem dX6_turn_22 : decode cX6_turn 22 = .ok (.iaload, 1) := by decide +kernel
theorem dX6_turn_23 : decode cX6_turn 23 = .ok (.isub, 1) := by decide +kernel
theorem dX6_turn_24 : decode cX6_turn 24 = .ok (.iastore, 1) := by decide +kernel
theorem dX6_turn_25 : decode cX6_turn 25 = .ok (.aload_n 0, 1) := by decide +kernel
theorem dX6_turn_26 : decode cX6_turn 26 = .ok (.getfield 23, 3) := by decide +kernel
theorem dX6_turn_29 : decode cX6_turn 29 = .ok (.bipush 72, 2) := by decide +kernel
theorem dX6_turn_31 : decode cX6_turn 31 = .ok (.iaload, 1) := by decide +kernel
theorem dX6_turn_32 : decode cX6_turn 32 = .ok (.ireturn, 1) := by decide +kernel
theorem dX6_eye_0 : decode cX6_eye 0 = .ok (.aload_n 0, 1) := by decide +kernel
theorem dX6_eye_1 : decode cX6_eye 1 = .ok (.iconst 0, 1) := by decide +kernel
theorem dX6_eye_2 : decode cX6_eye 2 = .ok (.putfield 48, 3) := by decide +kernel
theorem dX6_eye_5 : decode cX6_eye 5 = .ok (.aload_n 0, 1) := by decide +kernel
theorem dX6_eye_6 : decode cX6_eye 6 = .ok (.iload_n 1, 1) := by decide +kernel
theorem dX6_eye_7 : decode cX6_eye 7 = .ok (.invokevirtual 156, 3) := by decide +kernel
theorem dX6_eye_10 : decode cX6_eye 10 = .ok (.ifCond .eq 5, 3) := by decide +kernel
theorem dX6_eye_13 : decode cX6_eye 13 = .ok (.iconst (-1), 1) := by decide +kernel
theorem dX6_eye_14 : decode cX6_eye 14 = .ok (.ireturn, 1) := by decide +kernel
theorem dX6_eye_15 : decode cX6_eye 15 = .ok (.iload_n 2, 1) := by decide +kernel
theorem dX6_eye_16 : decode cX6_eye 16 = .ok (.i2l, 1) := by decide +kernel
theorem dX6_eye_17 : decode cX6_eye 17 = .ok (.lconst 0, 1) := by decide +kernel
theorem dX6_eye_18 : decode cX6_eye 18 = .ok (.ldc2_w 181, 3) := by decide +kernel
theorem dX6_eye_21 : decode cX6_eye 21 = .ok (.invokestatic 58, 3) := by decide +kernel
theorem dX6_eye_24 : decode cX6_eye 24 = .ok (.ifCond .ne 6, 3) := by decide +kernel
theorem dX6_eye_27 : decode cX6_eye 27 = .ok (.bipush (-2), 2) := by decide +kernel
theorem dX6_eye_29 : decode cX6_eye 29 = .ok (.ireturn, 1) := by decide +kernel
theorem dX6_eye_30 : decode cX6_eye 30 = .ok (.aload_n 0, 1) := by decide +kernel
theorem dX6_eye_31 : decode cX6_eye 31 = .ok (.invokevirtual 171, 3) := by decide +kernel
theorem dX6_eye_34 : decode cX6_eye 34 = .ok (.aload_n 0, 1) := by decide +kernel
theorem dX6_eye_35 : decode cX6_eye 35 = .ok (.getfield 23, 3) := by decide +kernel
theorem dX6_eye_38 : decode cX6_eye 38 = .ok (.bipush 6, 2) := by decide +kernel
theorem dX6_eye_40 : decode cX6_eye 40 = .ok (.iload_n 1, 1) := by decide +kernel
theorem dX6_eye_41 : decode cX6_eye 41 = .ok (.imul, 1) := by decide +kernel
theorem dX6_eye_42 : decode cX6_eye 42 = .ok (.iconst 1, 1) := by decide +kernel
theorem dX6_eye_43 : decode cX6_eye 43 = .ok (.iadd, 1) := by decide +kernel
theorem dX6_eye_44 : decode cX6_eye 44 = .ok (.iaload, 1) := by decide +kernel
theorem dX6_eye_45 : decode cX6_eye 45 = .ok (.istore_n 3, 1) := by decide +kernel
theorem dX6_eye_46 : decode cX6_eye 46 = .ok (.aload_n 0, 1) := by decide +kernel
theorem dX6_eye_47 : decode cX6_eye 47 = .ok (.getfield 23, 3) := by decide +kernel
theorem dX6_eye_50 : decode cX6_eye 50 = .ok (.bipush 6, 2) := by decide +kernel
theorem dX6_eye_52 : decode cX6_eye 52 = .ok (.iload_n 1, 1) := by decide +kernel
theorem dX6_eye_53 : decode cX6_eye 53 = .ok (.imul, 1) := by decide +kernel
theorem dX6_eye_54 : decode cX6_eye 54 = .ok (.iconst 1, 1) := by decide +kernel
theorem dX6_eye_55 : decode cX6_eye 55 = .ok (.iadd, 1) := by decide +kernel
theorem dX6_eye_56 : decode cX6_eye 56 = .ok (.iload_n 2, 1) := by decide +kernel
theorem dX6_eye_57 : decode cX6_eye 57 = .ok (.iastore, 1) := by decide +kernel
theorem dX6_eye_58 : decode cX6_eye 58 = .ok (.iload_n 3, 1) := by decide +kernel
theorem dX6_eye_59 : decode cX6_eye 59 = .ok (.ireturn, 1) := by decide +kernel
theorem dX6_make_0 : decode cX6_make 0 = .ok (.aload_n 0, 1) := by decide +kernel
theorem dX6_make_1 : decode cX6_make 1 = .ok (.iconst 0, 1) := by decide +kernel
theorem dX6_make_2 : decode cX6_make 2 = .ok (.putfield 48, 3) := by decide +kernel
theorem dX6_make_5 : decode cX6_make 5 = .ok (.iload_n 1, 1) := by decide +kernel
theorem dX6_make_6 : decode cX6_make 6 = .ok (.i2l, 1) := by decide +kernel
theorem dX6_make_7 : decode cX6_make 7 = .ok (.lconst 0, 1) := by decide +kernel
theorem dX6_make_8 : decode cX6_make 8 = .ok (.lconst 1, 1) := by decide +kernel
theorem dX6_make_9 : decode cX6_make 9 = .ok (.invokestatic 58, 3) := by decide +kernel
theorem dX6_make_12 : decode cX6_make 12 = .ok (.ifCond .eq 23, 3) := by decide +kernel
theorem dX6_make_15 : decode cX6_make 15 = .ok (.iload_n 2, 1) := by decide +kernel
theorem dX6_make_16 : decode cX6_make 16 = .ok (.i2l, 1) := by decide +kernel
theorem dX6_make_17 : decode cX6_make 17 = .ok (.lconst 0, 1) := by decide +kernel
theorem dX6_make_18 : decode cX6_make 18 = .ok (.iload_n 1, 1) := by decide +kernel
theorem dX6_make_19 : decode cX6_make 19 = .ok (.ifCond .ne 7, 3) := by decide +kernel
theorem dX6_make_22 : decode cX6_make 22 = .ok (.lconst 1, 1) := by decide +kernel
theorem dX6_make_23 : decode cX6_make 23 = .ok (.goto 6, 3) := by decide +kernel
theorem dX6_make_26 : decode cX6_make 26 = .ok (.ldc2_w 87, 3) := by decide +kernel
theorem dX6_make_29 : decode cX6_make 29 = .ok (.invokestatic 58, 3) := by decide +kernel
theorem dX6_make_32 : decode cX6_make 32 = .ok (.ifCond .ne 6, 3) := by decide +kernel
theorem dX6_make_35 : decode cX6_make 35 = .ok (.bipush (-2), 2) := by decide +kernel
theorem dX6_make_37 : decode cX6_make 37 = .ok (.ireturn, 1) := by decide +kernel
theorem dX6_make_38 : decode cX6_make 38 = .ok (.aload_n 0, 1) := by decide +kernel
theorem dX6_make_39 : decode cX6_make 39 = .ok (.invokevirtual 171, 3) := by decide +kernel
theorem dX6_make_42 : decode cX6_make 42 = .ok (.aload_n 0, 1) := by decide +kernel
theorem dX6_make_43 : decode cX6_make 43 = .ok (.getfield 23, 3) := by decide +kernel
theorem dX6_make_46 : decode cX6_make 46 = .ok (.bipush 73, 2) := by decide +kernel
theorem dX6_make_48 : decode cX6_make 48 = .ok (.iload_n 1, 1) := by decide +kernel
theorem dX6_make_49 : decode cX6_make 49 = .ok (.iadd, 1) := by decide +kernel
theorem dX6_make_50 : decode cX6_make 50 = .ok (.iaload, 1) := by decide +kernel
theorem dX6_make_51 : decode cX6_make 51 = .ok (.istore_n 3, 1) := by decide +kernel
theorem dX6_make_52 : decode cX6_make 52 = .ok (.aload_n 0, 1) := by decide +kernel
theorem dX6_make_53 : decode cX6_make 53 = .ok (.getfield 23, 3) := by decide +kernel
theorem dX6_make_56 : decode cX6_make 56 = .ok (.bipush 73, 2) := by decide +kernel
theorem dX6_make_58 : decode cX6_make 58 = .ok (.iload_n 1, 1) := by decide +kernel
theorem dX6_make_59 : decode cX6_make 59 = .ok (.iadd, 1) := by decide +kernel
theorem dX6_make_60 : decode cX6_make 60 = .ok (.iload_n 2, 1) := by decide +kernel
theorem dX6_make_61 : decode cX6_make 61 = .ok (.iastore, 1) := by decide +kernel
theorem dX6_make_62 : decode cX6_make 62 = .ok (.iload_n 3, 1) := by decide +kernel
theorem dX6_make_63 : decode cX6_make 63 = .ok (.ireturn, 1) := by decide +kernel
theorem dX6_clear_0 : decode cX6_clear 0 = .ok (.aload_n 0, 1) := by decide +kernel
theorem dX6_clear_1 : decode cX6_clear 1 = .ok (.iconst 0, 1) := by decide +kernel
theorem dX6_clear_2 : decode cX6_clear 2 = .ok (.putfield 48, 3) := by decide +kernel
theorem dX6_clear_5 : decode cX6_clear 5 = .ok (.aload_n 0, 1) := by decide +kernel
theorem dX6_clear_6 : decode cX6_clear 6 = .ok (.iload_n 1, 1) := by decide +kernel
theorem dX6_clear_7 : decode cX6_clear 7 = .ok (.invokevirtual 156, 3) := by decide +kernel
theorem dX6_clear_10 : decode cX6_clear 10 = .ok (.ifCond .eq 5, 3) := by decide +kernel
theorem dX6_clear_13 : decode cX6_clear 13 = .ok (.iconst (-1), 1) := by decide +kernel
theorem dX6_clear_14 : decode cX6_clear 14 = .ok (.ireturn, 1) := by decide +kernel
theorem dX6_clear_15 : decode cX6_clear 15 = .ok (.aload_n 0, 1) := by decide +kernel
theorem dX6_clear_16 : decode cX6_clear 16 = .ok (.getfield 23, 3) := by decide +kernel
theorem dX6_clear_19 : decode cX6_clear 19 = .ok (.bipush 6, 2) := by decide +kernel
theorem dX6_clear_21 : decode cX6_clear 21 = .ok (.iload_n 1, 1) := by decide +kernel
theorem dX6_clear_22 : decode cX6_clear 22 = .ok (.imul, 1) := by decide +kernel
theorem dX6_clear_23 : decode cX6_clear 23 = .ok (.iconst 2, 1) := by decide +kernel
theorem dX6_clear_24 : decode cX6_clear 24 = .ok (.iadd, 1) := by decide +kernel
theorem dX6_clear_25 : decode cX6_clear 25 = .ok (.iaload, 1) := by decide +kernel
theorem dX6_clear_26 : decode cX6_clear 26 = .ok (.ifCond .ne 6, 3) := by decide +kernel
theorem dX6_clear_29 : decode cX6_clear 29 = .ok (.bipush (-3), 2) := by decide +kernel
theorem dX6_clear_31 : decode cX6_clear 31 = .ok (.ireturn, 1) := by decide +kernel
theorem dX6_clear_32 : decode cX6_clear 32 = .ok (.aload_n 0, 1) := by decide +kernel
theorem dX6_clear_33 : decode cX6_clear 33 = .ok (.invokevirtual 171, 3) := by decide +kernel
theorem dX6_clear_36 : decode cX6_clear 36 = .ok (.aload_n 0, 1) := by decide +kernel
theorem dX6_clear_37 : decode cX6_clear 37 = .ok (.getfield 23, 3) := by decide +kernel
theorem dX6_clear_40 : decode cX6_clear 40 = .ok (.bipush 6, 2) := by decide +kernel
theorem dX6_clear_42 : decode cX6_clear 42 = .ok (.iload_n 1, 1) := by decide +kernel
theorem dX6_clear_43 : decode cX6_clear 43 = .ok (.imul, 1) := by decide +kernel
theorem dX6_clear_44 : decode cX6_clear 44 = .ok (.iconst 2, 1) := by decide +kernel
theorem dX6_clear_45 : decode cX6_clear 45 = .ok (.iadd, 1) := by decide +kernel
theorem dX6_clear_46 : decode cX6_clear 46 = .ok (.iconst 0, 1) := by decide +kernel
theorem dX6_clear_47 : decode cX6_clear 47 = .ok (.iastore, 1) := by decide +kernel
theorem dX6_clear_48 : decode cX6_clear 48 = .ok (.aload_n 0, 1) := by decide +kernel
theorem dX6_clear_49 : decode cX6_clear 49 = .ok (.aload_n 0, 1) := by decide +kernel
theorem dX6_clear_50 : decode cX6_clear 50 = .ok (.getfield 23, 3) := by decide +kernel
theorem dX6_clear_53 : decode cX6_clear 53 = .ok (.iconst 2, 1) := by decide +kernel
theorem dX6_clear_54 : decode cX6_clear 54 = .ok (.invokevirtual 183, 3) := by decide +kernel
theorem dX6_clear_57 : decode cX6_clear 57 = .ok (.invokestatic 186, 3) := by decide +kernel
theorem dX6_clear_60 : decode cX6_clear 60 = .ok (.ireturn, 1) := by decide +kernel
theorem dX6_step_0 : decode cX6_step 0 = .ok (.aload_n 0, 1) := by decide +kernel
theorem dX6_step_1 : decode cX6_step 1 = .ok (.iconst 0, 1) := by decide +kernel
theorem dX6_step_2 : decode cX6_step 2 = .ok (.putfield 48, 3) := by decide +kernel
theorem dX6_step_5 : decode cX6_step 5 = .ok (.iload_n 1, 1) := by decide +kernel
theorem dX6_step_6 : decode cX6_step 6 = .ok (.i2l, 1) := by decide +kernel
theorem dX6_step_7 : decode cX6_step 7 = .ok (.lconst 1, 1) := by decide +kernel
theorem dX6_step_8 : decode cX6_step 8 = .ok (.ldc2_w 189, 3) := by decide +kernel
theorem dX6_step_11 : decode cX6_step 11 = .ok (.invokestatic 58, 3) := by decide +kernel
theorem dX6_step_14 : decode cX6_step 14 = .ok (.ifCond .ne 6, 3) := by decide +kernel
theorem dX6_step_17 : decode cX6_step 17 = .ok (.bipush (-2), 2) := by decide +kernel
theorem dX6_step_19 : decode cX6_step 19 = .ok (.ireturn, 1) := by decide +kernel
theorem dX6_step_20 : decode cX6_step 20 = .ok (.aload_n 0, 1) := by decide +kernel
theorem dX6_step_21 : decode cX6_step 21 = .ok (.invokevirtual 171, 3) := by decide +kernel
theorem dX6_step_24 : decode cX6_step 24 = .ok (.aload_n 0, 1) := by decide +kernel
theorem dX6_step_25 : decode cX6_step 25 = .ok (.getfield 23, 3) := by decide +kernel
theorem dX6_step_28 : decode cX6_step 28 = .ok (.bipush 77, 2) := by decide +kernel
theorem dX6_step_30 : decode cX6_step 30 = .ok (.iaload, 1) := by decide +kernel
theorem dX6_step_31 : decode cX6_step 31 = .ok (.istore_n 2, 1) := by decide +kernel
theorem dX6_step_32 : decode cX6_step 32 = .ok (.aload_n 0, 1) := by decide +kernel
theorem dX6_step_33 : decode cX6_step 33 = .ok (.aload_n 0, 1) := by decide +kernel
theorem dX6_step_34 : decode cX6_step 34 = .ok (.getfield 23, 3) := by decide +kernel
theorem dX6_step_37 : decode cX6_step 37 = .ok (.iload_n 1, 1) := by decide +kernel
theorem dX6_step_38 : decode cX6_step 38 = .ok (.invokevirtual 191, 3) := by decide +kernel
theorem dX6_step_41 : decode cX6_step 41 = .ok (.aload_n 0, 1) := by decide +kernel
theorem dX6_step_42 : decode cX6_step 42 = .ok (.getfield 23, 3) := by decide +kernel
theorem dX6_step_45 : decode cX6_step 45 = .ok (.bipush 77, 2) := by decide +kernel
theorem dX6_step_47 : decode cX6_step 47 = .ok (.iaload, 1) := by decide +kernel
theorem dX6_step_48 : decode cX6_step 48 = .ok (.iload_n 2, 1) := by decide +kernel
theorem dX6_step_49 : decode cX6_step 49 = .ok (.isub, 1) := by decide +kernel
theorem dX6_step_50 : decode cX6_step 50 = .ok (.ireturn, 1) := by decide +kernel
theorem dX6_undo_0 : decode cX6_undo 0 = .ok (.aload_n 0, 1) := by decide +kernel
theorem dX6_undo_1 : decode cX6_undo 1 = .ok (.iconst 0, 1) := by decide +kernel
theorem dX6_undo_2 : decode cX6_undo 2 = .ok (.putfield 48, 3) := by decide +kernel
theorem dX6_undo_5 : decode cX6_undo 5 = .ok (.aload_n 0, 1) := by decide +kernel
theorem dX6_undo_6 : decode cX6_undo 6 = .ok (.getfield 99, 3) := by decide +kernel
theorem dX6_undo_9 : decode cX6_undo 9 = .ok (.ifCond .ne 6, 3) := by decide +kernel
theorem dX6_undo_12 : decode cX6_undo 12 = .ok (.bipush (-3), 2) := by decide +kernel
theorem dX6_undo_14 : decode cX6_undo 14 = .ok (.ireturn, 1) := by decide +kernel
theorem dX6_undo_15 : decode cX6_undo 15 = .ok (.aload_n 0, 1) := by decide +kernel
theorem dX6_undo_16 : decode cX6_undo 16 = .ok (.dup, 1) := by decide +kernel
theorem dX6_undo_17 : decode cX6_undo 17 = .ok (.getfield 99, 3) := by decide +kernel
theorem dX6_undo_20 : decode cX6_undo 20 = .ok (.iconst 1, 1) := by decide +kernel
theorem dX6_undo_21 : decode cX6_undo 21 = .ok (.isub, 1) := by decide +kernel
theorem dX6_undo_22 : decode cX6_undo 22 = .ok (.putfield 99, 3) := by decide +kernel
theorem dX6_undo_25 : decode cX6_undo 25 = .ok (.iconst 0, 1) := by decide +kernel
theorem dX6_undo_26 : decode cX6_undo 26 = .ok (.istore_n 1, 1) := by decide +kernel
theorem dX6_undo_27 : decode cX6_undo 27 = .ok (.iload_n 1, 1) := by decide +kernel
theorem dX6_undo_28 : decode cX6_undo 28 = .ok (.bipush 79, 2) := by decide +kernel
theorem dX6_undo_30 : decode cX6_undo 30 = .ok (.if_icmp .ge 29, 3) := by decide +kernel
theorem dX6_undo_33 : decode cX6_undo 33 = .ok (.aload_n 0, 1) := by decide +kernel
theorem dX6_undo_34 : decode cX6_undo 34 = .ok (.getfield 23, 3) := by decide +kernel
theorem dX6_undo_37 : decode cX6_undo 37 = .ok (.iload_n 1, 1) := by decide +kernel
theorem dX6_undo_38 : decode cX6_undo 38 = .ok (.aload_n 0, 1) := by decide +kernel
theorem dX6_undo_39 : decode cX6_undo 39 = .ok (.getfield 29, 3) := by decide +kernel
theorem dX6_undo_42 : decode cX6_undo 42 = .ok (.bipush 79, 2) := by decide +kernel
theorem dX6_undo_44 : decode cX6_undo 44 = .ok (.aload_n 0, 1) := by decide +kernel
theorem dX6_undo_45 : decode cX6_undo 45 = .ok (.getfield 99, 3) := by decide +kernel
theorem dX6_undo_48 : decode cX6_undo 48 = .ok (.imul, 1) := by decide +kernel
theorem dX6_undo_49 : decode cX6_undo 49 = .ok (.iload_n 1, 1) := by decide +kernel
theorem dX6_undo_50 : decode cX6_undo 50 = .ok (.iadd, 1) := by decide +kernel
theorem dX6_undo_51 : decode cX6_undo 51 = .ok (.iaload, 1) := by decide +kernel
theorem dX6_undo_52 : decode cX6_undo 52 = .ok (.iastore, 1) := by decide +kernel
theorem dX6_undo_53 : decode cX6_undo 53 = .ok (.iinc 1 1, 3) := by decide +kernel
theorem dX6_undo_56 : decode cX6_undo 56 = .ok (.goto (-29), 3) := by decide +kernel
theorem dX6_undo_59 : decode cX6_undo 59 = .ok (.aload_n 0, 1) := by decide +kernel
theorem dX6_undo_60 : decode cX6_undo 60 = .ok (.getfield 99, 3) := by decide +kernel
theorem dX6_undo_63 : decode cX6_undo 63 = .ok (.ireturn, 1) := by decide +kernel
theorem dX6_ahead_0 : decode cX6_ahead 0 = .ok (.aload_n 0, 1) := by decide +kernel
theorem dX6_ahead_1 : decode cX6_ahead 1 = .ok (.iconst 0, 1) := by decide +kernel
theorem dX6_ahead_2 : decode cX6_ahead 2 = .ok (.putfield 48, 3) := by decide +kernel
theorem dX6_ahead_5 : decode cX6_ahead 5 = .ok (.aload_n 0, 1) := by decide +kernel
theorem dX6_ahead_6 : decode cX6_ahead 6 = .ok (.iload_n 2, 1) := by decide +kernel
theorem dX6_ahead_7 : decode cX6_ahead 7 = .ok (.invokevirtual 156, 3) := by decide +kernel
theorem dX6_ahead_10 : decode cX6_ahead 10 = .ok (.ifCond .eq 5, 3) := by decide +kernel
theorem dX6_ahead_13 : decode cX6_ahead 13 = .ok (.iconst (-1), 1) := by decide +kernel
theorem dX6_ahead_14 : decode cX6_ahead 14 = .ok (.ireturn, 1) := by decide +kernel
theorem dX6_ahead_15 : decode cX6_ahead 15 = .ok (.iload_n 1, 1) := by decide +kernel
theorem dX6_ahead_16 : decode cX6_ahead 16 = .ok (.i2l, 1) := by decide +kernel
theorem dX6_ahead_17 : decode cX6_ahead 17 = .ok (.lconst 0, 1) := by decide +kernel
theorem dX6_ahead_18 : decode cX6_ahead 18 = .ok (.ldc2_w 189, 3) := by decide +kernel
theorem dX6_ahead_21 : decode cX6_ahead 21 = .ok (.invokestatic 58, 3) := by decide +kernel
theorem dX6_ahead_24 : decode cX6_ahead 24 = .ok (.ifCond .eq 15, 3) := by decide +kernel
theorem dX6_ahead_27 : decode cX6_ahead 27 = .ok (.iload_n 3, 1) := by decide +kernel
theorem dX6_ahead_28 : decode cX6_ahead 28 = .ok (.i2l, 1) := by decide +kernel
theorem dX6_ahead_29 : decode cX6_ahead 29 = .ok (.lconst 0, 1) := by decide +kernel
theorem dX6_ahead_30 : decode cX6_ahead 30 = .ok (.ldc2_w 159, 3) := by decide +kernel
theorem dX6_ahead_33 : decode cX6_ahead 33 = .ok (.invokestatic 58, 3) := by decide +kernel
theorem dX6_ahead_36 : decode cX6_ahead 36 = .ok (.ifCond .ne 6, 3) := by decide +kernel
theorem dX6_ahead_39 : decode cX6_ahead 39 = .ok (.bipush (-2), 2) := by decide +kernel
theorem dX6_ahead_41 : decode cX6_ahead 41 = .ok (.ireturn, 1) := by decide +kernel
theorem dX6_ahead_42 : decode cX6_ahead 42 = .ok (.aload_n 0, 1) := by decide +kernel
theorem dX6_ahead_43 : decode cX6_ahead 43 = .ok (.invokevirtual 194, 3) := by decide +kernel
theorem dX6_ahead_46 : decode cX6_ahead 46 = .ok (.aload_n 0, 1) := by decide +kernel
theorem dX6_ahead_47 : decode cX6_ahead 47 = .ok (.aload_n 0, 1) := by decide +kernel
theorem dX6_ahead_48 : decode cX6_ahead 48 = .ok (.getfield 26, 3) := by decide +kernel
theorem dX6_ahead_51 : decode cX6_ahead 51 = .ok (.iload_n 1, 1) := by decide +kernel
theorem dX6_ahead_52 : decode cX6_ahead 52 = .ok (.invokevirtual 191, 3) := by decide +kernel
theorem dX6_ahead_55 : decode cX6_ahead 55 = .ok (.aload_n 0, 1) := by decide +kernel
theorem dX6_ahead_56 : decode cX6_ahead 56 = .ok (.aload_n 0, 1) := by decide +kernel
theorem dX6_ahead_57 : decode cX6_ahead 57 = .ok (.getfield 26, 3) := by decide +kernel
theorem dX6_ahead_60 : decode cX6_ahead 60 = .ok (.iload_n 2, 1) := by decide +kernel
theorem dX6_ahead_61 : decode cX6_ahead 61 = .ok (.iload_n 3, 1) := by decide +kernel
theorem dX6_ahead_62 : decode cX6_ahead 62 = .ok (.invokevirtual 161, 3) := by decide +kernel
theorem dX6_ahead_65 : decode cX6_ahead 65 = .ok (.ireturn, 1) := by decide +kernel
theorem dX6_emptyOf_0 : decode cX6_emptyOf 0 = .ok (.iconst 0, 1) := by decide +kernel
theorem dX6_emptyOf_1 : decode cX6_emptyOf 1 = .ok (.istore_n 1, 1) := by decide +kernel
theorem dX6_emptyOf_2 : decode cX6_emptyOf 2 = .ok (.iload_n 1, 1) := by decide +kernel
theorem dX6_emptyOf_3 : decode cX6_emptyOf 3 = .ok (.bipush 60, 2) := by decide +kernel
theorem dX6_emptyOf_5 : decode cX6_emptyOf 5 = .ok (.if_icmp .gt 31, 3) := by decide +kernel
theorem dX6_emptyOf_8 : decode cX6_emptyOf 8 = .ok (.aload_n 0, 1) := by decide +kernel
theorem dX6_emptyOf_9 : decode cX6_emptyOf 9 = .ok (.aload_n 0, 1) := by decide +kernel
theorem dX6_emptyOf_10 : decode cX6_emptyOf 10 = .ok (.getfield 26, 3) := by decide +kernel
theorem dX6_emptyOf_13 : decode cX6_emptyOf 13 = .ok (.iconst 0, 1) := by decide +kernel
theorem dX6_emptyOf_14 : decode cX6_emptyOf 14 = .ok (.invokevirtual 183, 3) := by decide +kernel
theorem dX6_emptyOf_17 : decode cX6_emptyOf 17 = .ok (.ifCond .ne 5, 3) := by decide +kernel
theorem dX6_emptyOf_20 : decode cX6_emptyOf 20 = .ok (.iload_n 1, 1) := by decide +kernel
theorem dX6_emptyOf_21 : decode cX6_emptyOf 21 = .ok (.ireturn, 1) := by decide +kernel
theorem dX6_emptyOf_22 : decode cX6_emptyOf 22 = .ok (.aload_n 0, 1) := by decide +kernel
theorem dX6_emptyOf_23 : decode cX6_emptyOf 23 = .ok (.aload_n 0, 1) := by decide +kernel
theorem dX6_emptyOf_24 : decode cX6_emptyOf 24 = .ok (.getfield 26, 3) := by decide +kernel
theorem dX6_emptyOf_27 : decode cX6_emptyOf 27 = .ok (.invokevirtual 153, 3) := by decide +kernel
theorem dX6_emptyOf_30 : decode cX6_emptyOf 30 = .ok (.iinc 1 1, 3) := by decide +kernel
theorem dX6_emptyOf_33 : decode cX6_emptyOf 33 = .ok (.goto (-31), 3) := by decide +kernel
theorem dX6_emptyOf_36 : decode cX6_emptyOf 36 = .ok (.bipush (-9), 2) := by decide +kernel
theorem dX6_emptyOf_38 : decode cX6_emptyOf 38 = .ok (.ireturn, 1) := by decide +kernel
theorem dX6_bestRest_0 : decode cX6_bestRest 0 = .ok (.iconst 0, 1) := by decide +kernel
theorem dX6_bestRest_1 : decode cX6_bestRest 1 = .ok (.istore_n 1, 1) := by decide +kernel
theorem dX6_bestRest_2 : decode cX6_bestRest 2 = .ok (.bipush 61, 2) := by decide +kernel
theorem dX6_bestRest_4 : decode cX6_bestRest 4 = .ok (.istore_n 2, 1) := by decide +kernel
theorem dX6_bestRest_5 : decode cX6_bestRest 5 = .ok (.iconst 0, 1) := by decide +kernel
theorem dX6_bestRest_6 : decode cX6_bestRest 6 = .ok (.istore_n 3, 1) := by decide +kernel
theorem dX6_bestRest_7 : decode cX6_bestRest 7 = .ok (.iload_n 3, 1) := by decide +kernel
theorem dX6_bestRest_8 : decode cX6_bestRest 8 = .ok (.bipush 10, 2) := by decide +kernel
theorem dX6_bestRest_10 : decode cX6_bestRest 10 = .ok (.if_icmp .ge 45, 3) := by decide +kernel
theorem dX6_bestRest_13 : decode cX6_bestRest 13 = .ok (.aload_n 0, 1) := by decide +kernel
theorem dX6_bestRest_14 : decode cX6_bestRest 14 = .ok (.invokevirtual 194, 3) := by decide +kernel
theorem dX6_bestRest_17 : decode cX6_bestRest 17 = .ok (.aload_n 0, 1) := by decide +kernel
theorem dX6_bestRest_18 : decode cX6_bestRest 18 = .ok (.getfield 26, 3) := by decide +kernel
theorem dX6_bestRest_21 : decode cX6_bestRest 21 = .ok (.bipush 74, 2) := by decide +kernel
theorem dX6_bestRest_23 : decode cX6_bestRest 23 = .ok (.iload_n 3, 1) := by decide +kernel
theorem dX6_bestRest_24 : decode cX6_bestRest 24 = .ok (.iastore, 1) := by decide +kernel
theorem dX6_bestRest_25 : decode cX6_bestRest 25 = .ok (.aload_n 0, 1) := by decide +kernel
theorem dX6_bestRest_26 : decode cX6_bestRest 26 = .ok (.invokevirtual 197, 3) := by decide +kernel
theorem dX6_bestRest_29 : decode cX6_bestRest 29 = .ok (.istore 4, 2) := by decide +kernel
theorem dX6_bestRest_31 : decode cX6_bestRest 31 = .ok (.iload 4, 2) := by decide +kernel
theorem dX6_bestRest_33 : decode cX6_bestRest 33 = .ok (.bipush (-9), 2) := by decide +kernel
theorem dX6_bestRest_35 : decode cX6_bestRest 35 = .ok (.if_icmp .eq 14, 3) := by decide +kernel
theorem dX6_bestRest_38 : decode cX6_bestRest 38 = .ok (.iload 4, 2) := by decide +kernel
theorem dX6_bestRest_40 : decode cX6_bestRest 40 = .ok (.iload_n 2, 1) := by decide +kernel
theorem dX6_bestRest_41 : decode cX6_bestRest 41 = .ok (.if_icmp .ge 8, 3) := by decide +kernel
theorem dX6_bestRest_44 : decode cX6_bestRest 44 = .ok (.iload 4, 2) := by decide +kernel
theorem dX6_bestRest_46 : decode cX6_bestRest 46 = .ok (.istore_n 2, 1) := by decide +kernel
theorem dX6_bestRest_47 : decode cX6_bestRest 47 = .ok (.iload_n 3, 1) := by decide +kernel
theorem dX6_bestRest_48 : decode cX6_bestRest 48 = .ok (.istore_n 1, 1) := by decide +kernel
theorem dX6_bestRest_49 : decode cX6_bestRest 49 = .ok (.iinc 3 1, 3) := by decide +kernel
theorem dX6_bestRest_52 : decode cX6_bestRest 52 = .ok (.goto (-45), 3) := by decide +kernel
theorem dX6_bestRest_55 : decode cX6_bestRest 55 = .ok (.iload_n 1, 1) := by decide +kernel
theorem dX6_bestRest_56 : decode cX6_bestRest 56 = .ok (.ireturn, 1) := by decide +kernel
theorem dX6_rowAt_0 : decode cX6_rowAt 0 = .ok (.aload_n 0, 1) := by decide +kernel
theorem dX6_rowAt_1 : decode cX6_rowAt 1 = .ok (.invokevirtual 194, 3) := by decide +kernel
theorem dX6_rowAt_4 : decode cX6_rowAt 4 = .ok (.iconst 0, 1) := by decide +kernel
theorem dX6_rowAt_5 : decode cX6_rowAt 5 = .ok (.istore_n 2, 1) := by decide +kernel
theorem dX6_rowAt_6 : decode cX6_rowAt 6 = .ok (.iconst 0, 1) := by decide +kernel
theorem dX6_rowAt_7 : decode cX6_rowAt 7 = .ok (.istore_n 3, 1) := by decide +kernel
theorem dX6_rowAt_8 : decode cX6_rowAt 8 = .ok (.iload_n 3, 1) := by decide +kernel
theorem dX6_rowAt_9 : decode cX6_rowAt 9 = .ok (.bipush 60, 2) := by decide +kernel
theorem dX6_rowAt_11 : decode cX6_rowAt 11 = .ok (.if_icmp .ge 37, 3) := by decide +kernel
theorem dX6_rowAt_14 : decode cX6_rowAt 14 = .ok (.aload_n 0, 1) := by decide +kernel
theorem dX6_rowAt_15 : decode cX6_rowAt 15 = .ok (.aload_n 0, 1) := by decide +kernel
theorem dX6_rowAt_16 : decode cX6_rowAt 16 = .ok (.getfield 26, 3) := by decide +kernel
theorem dX6_rowAt_19 : decode cX6_rowAt 19 = .ok (.invokevirtual 153, 3) := by decide +kernel
theorem dX6_rowAt_22 : decode cX6_rowAt 22 = .ok (.aload_n 0, 1) := by decide +kernel
theorem dX6_rowAt_23 : decode cX6_rowAt 23 = .ok (.getfield 133, 3) := by decide +kernel
theorem dX6_rowAt_26 : decode cX6_rowAt 26 = .ok (.ifCond .le 16, 3) := by decide +kernel
theorem dX6_rowAt_29 : decode cX6_rowAt 29 = .ok (.iload_n 2, 1) := by decide +kernel
theorem dX6_rowAt_30 : decode cX6_rowAt 30 = .ok (.iload_n 1, 1) := by decide +kernel
theorem dX6_rowAt_31 : decode cX6_rowAt 31 = .ok (.if_icmp .ne 8, 3) := by decide +kernel
theorem dX6_rowAt_34 : decode cX6_rowAt 34 = .ok (.aload_n 0, 1) := by decide +kernel
theorem dX6_rowAt_35 : decode cX6_rowAt 35 = .ok (.getfield 133, 3) := by decide +kernel
theorem dX6_rowAt_38 : decode cX6_rowAt 38 = .ok (.ireturn, 1) := by decide +kernel
theorem dX6_rowAt_39 : decode cX6_rowAt 39 = .ok (.iinc 2 1, 3) := by decide +kernel
theorem dX6_rowAt_42 : decode cX6_rowAt 42 = .ok (.iinc 3 1, 3) := by decide +kernel
theorem dX6_rowAt_45 : decode cX6_rowAt 45 = .ok (.goto (-37), 3) := by decide +kernel
theorem dX6_rowAt_48 : decode cX6_rowAt 48 = .ok (.iload_n 2, 1) := by decide +kernel
theorem dX6_rowAt_49 : decode cX6_rowAt 49 = .ok (.ireturn, 1) := by decide +kernel
theorem dX6_manyOut_0 : decode cX6_manyOut 0 = .ok (.aload_n 0, 1) := by decide +kernel
theorem dX6_manyOut_1 : decode cX6_manyOut 1 = .ok (.invokevirtual 194, 3) := by decide +kernel
theorem dX6_manyOut_4 : decode cX6_manyOut 4 = .ok (.aload_n 0, 1) := by decide +kernel
theorem dX6_manyOut_5 : decode cX6_manyOut 5 = .ok (.aload_n 0, 1) := by decide +kernel
theorem dX6_manyOut_6 : decode cX6_manyOut 6 = .ok (.getfield 26, 3) := by decide +kernel
theorem dX6_manyOut_9 : decode cX6_manyOut 9 = .ok (.bipush 60, 2) := by decide +kernel
theorem dX6_manyOut_11 : decode cX6_manyOut 11 = .ok (.invokevirtual 191, 3) := by decide +kernel
theorem dX6_manyOut_14 : decode cX6_manyOut 14 = .ok (.aload_n 0, 1) := by decide +kernel
theorem dX6_manyOut_15 : decode cX6_manyOut 15 = .ok (.getfield 26, 3) := by decide +kernel
theorem dX6_manyOut_18 : decode cX6_manyOut 18 = .ok (.bipush 77, 2) := by decide +kernel
theorem dX6_manyOut_20 : decode cX6_manyOut 20 = .ok (.iaload, 1) := by decide +kernel
theorem dX6_manyOut_21 : decode cX6_manyOut 21 = .ok (.aload_n 0, 1) := by decide +kernel
theorem dX6_manyOut_22 : decode cX6_manyOut 22 = .ok (.getfield 23, 3) := by decide +kernel
theorem dX6_manyOut_25 : decode cX6_manyOut 25 = .ok (.bipush 77, 2) := by decide +kernel
theorem dX6_manyOut_27 : decode cX6_manyOut 27 = .ok (.iaload, 1) := by decide +kernel
theorem dX6_manyOut_28 : decode cX6_manyOut 28 = .ok (.isub, 1) := by decide +kernel
theorem dX6_manyOut_29 : decode cX6_manyOut 29 = .ok (.ireturn, 1) := by decide +kernel
theorem dX6_ask_0 : decode cX6_ask 0 = .ok (.aload_n 0, 1) := by decide +kernel
theorem dX6_ask_1 : decode cX6_ask 1 = .ok (.iconst 0, 1) := by decide +kernel
theorem dX6_ask_2 : decode cX6_ask 2 = .ok (.putfield 48, 3) := by decide +kernel
theorem dX6_ask_5 : decode cX6_ask 5 = .ok (.iload_n 1, 1) := by decide +kernel
theorem dX6_ask_6 : decode cX6_ask 6 = .ok (.tableswitch 45 0 2 #[26, 35, 40], 26) := by decide +kernel
theorem dX6_ask_32 : decode cX6_ask 32 = .ok (.aload_n 0, 1) := by decide +kernel
theorem dX6_ask_33 : decode cX6_ask 33 = .ok (.invokevirtual 194, 3) := by decide +kernel
theorem dX6_ask_36 : decode cX6_ask 36 = .ok (.aload_n 0, 1) := by decide +kernel
theorem dX6_ask_37 : decode cX6_ask 37 = .ok (.invokevirtual 197, 3) := by decide +kernel
theorem dX6_ask_40 : decode cX6_ask 40 = .ok (.ireturn, 1) := by decide +kernel
theorem dX6_ask_41 : decode cX6_ask 41 = .ok (.aload_n 0, 1) := by decide +kernel
theorem dX6_ask_42 : decode cX6_ask 42 = .ok (.invokevirtual 200, 3) := by decide +kernel
theorem dX6_ask_45 : decode cX6_ask 45 = .ok (.ireturn, 1) := by decide +kernel
theorem dX6_ask_46 : decode cX6_ask 46 = .ok (.aload_n 0, 1) := by decide +kernel
theorem dX6_ask_47 : decode cX6_ask 47 = .ok (.invokevirtual 203, 3) := by decide +kernel
theorem dX6_ask_50 : decode cX6_ask 50 = .ok (.ireturn, 1) := by decide +kernel
theorem dX6_ask_51 : decode cX6_ask 51 = .ok (.bipush (-2), 2) := by decide +kernel
theorem dX6_ask_53 : decode cX6_ask 53 = .ok (.ireturn, 1) := by decide +kernel
theorem dX6_row_0 : decode cX6_row 0 = .ok (.aload_n 0, 1) := by decide +kernel
theorem dX6_row_1 : decode cX6_row 1 = .ok (.iconst 0, 1) := by decide +kernel
theorem dX6_row_2 : decode cX6_row 2 = .ok (.putfield 48, 3) := by decide +kernel
theorem dX6_row_5 : decode cX6_row 5 = .ok (.iload_n 1, 1) := by decide +kernel
theorem dX6_row_6 : decode cX6_row 6 = .ok (.i2l, 1) := by decide +kernel
theorem dX6_row_7 : decode cX6_row 7 = .ok (.lconst 0, 1) := by decide +kernel
theorem dX6_row_8 : decode cX6_row 8 = .ok (.aload_n 0, 1) := by decide +kernel
theorem dX6_row_9 : decode cX6_row 9 = .ok (.invokevirtual 203, 3) := by decide +kernel
theorem dX6_row_12 : decode cX6_row 12 = .ok (.iconst 1, 1) := by decide +kernel
theorem dX6_row_13 : decode cX6_row 13 = .ok (.isub, 1) := by decide +kernel
theorem dX6_row_14 : decode cX6_row 14 = .ok (.i2l, 1) := by decide +kernel
theorem dX6_row_15 : decode cX6_row 15 = .ok (.invokestatic 58, 3) := by decide +kernel
theorem dX6_row_18 : decode cX6_row 18 = .ok (.ifCond .eq 11, 3) := by decide +kernel
theorem dX6_row_21 : decode cX6_row 21 = .ok (.aload_n 0, 1) := by decide +kernel
theorem dX6_row_22 : decode cX6_row 22 = .ok (.iload_n 1, 1) := by decide +kernel
theorem dX6_row_23 : decode cX6_row 23 = .ok (.invokevirtual 206, 3) := by decide +kernel
theorem dX6_row_26 : decode cX6_row 26 = .ok (.goto 5, 3) := by decide +kernel
theorem dX6_row_29 : decode cX6_row 29 = .ok (.bipush (-9), 2) := by decide +kernel
theorem dX6_row_31 : decode cX6_row 31 = .ok (.ireturn, 1) := by decide +kernel
theorem dX6_does_0 : decode cX6_does 0 = .ok (.iload_n 1, 1) := by decide +kernel
theorem dX6_does_1 : decode cX6_does 1 = .ok (.tableswitch 338 1 8 #[47, 76, 131, 174, 202, 231, 282, 304], 47) := by decide +kernel
theorem dX6_does_48 : decode cX6_does 48 = .ok (.aload_n 0, 1) := by decide +kernel
theorem dX6_does_49 : decode cX6_does 49 = .ok (.aload_n 0, 1) := by decide +kernel
theorem dX6_does_50 : decode cX6_does 50 = .ok (.getfield 26, 3) := by decide +kernel
theorem dX6_does_53 : decode cX6_does 53 = .ok (.bipush 10, 2) := by decide +kernel
theorem dX6_does_55 : decode cX6_does 55 = .ok (.iload_n 2, 1) := by decide +kernel
theorem dX6_does_56 : decode cX6_does 56 = .ok (.imul, 1) := by decide +kernel
theorem dX6_does_57 : decode cX6_does 57 = .ok (.iload_n 3, 1) := by decide +kernel
theorem dX6_does_58 : decode cX6_does 58 = .ok (.iadd, 1) := by decide +kernel
theorem dX6_does_59 : decode cX6_does 59 = .ok (.invokevirtual 191, 3) := by decide +kernel
theorem dX6_does_62 : decode cX6_does 62 = .ok (.bipush 10, 2) := by decide +kernel
theorem dX6_does_64 : decode cX6_does 64 = .ok (.iload_n 2, 1) := by decide +kernel
theorem dX6_does_65 : decode cX6_does 65 = .ok (.imul, 1) := by decide +kernel
theorem dX6_does_66 : decode cX6_does 66 = .ok (.iload_n 3, 1) := by decide +kernel
theorem dX6_does_67 : decode cX6_does 67 = .ok (.iadd, 1) := by decide +kernel
theorem dX6_does_68 : decode cX6_does 68 = .ok (.ifCond .le 7, 3) := by decide +kernel
theorem dX6_does_71 : decode cX6_does 71 = .ok (.iconst 1, 1) := by decide +kernel
theorem dX6_does_72 : decode cX6_does 72 = .ok (.goto 4, 3) := by decide +kernel
theorem dX6_does_75 : decode cX6_does 75 = .ok (.iconst 0, 1) := by decide +kernel
theorem dX6_does_76 : decode cX6_does 76 = .ok (.ireturn, 1) := by decide +kernel
theorem dX6_does_77 : decode cX6_does 77 = .ok (.iload_n 2, 1) := by decide +kernel
theorem dX6_does_78 : decode cX6_does 78 = .ok (.ifCond .ne 41, 3) := by decide +kernel
theorem dX6_does_81 : decode cX6_does 81 = .ok (.aload_n 0, 1) := by decide +kernel
theorem dX6_does_82 : decode cX6_does 82 = .ok (.iload_n 3, 1) := by decide +kernel
theorem dX6_does_83 : decode cX6_does 83 = .ok (.invokevirtual 168, 3) := by decide +kernel
theorem dX6_does_86 : decode cX6_does 86 = .ok (.ifCond .ne 33, 3) := by decide +kernel
theorem dX6_does_89 : decode cX6_does 89 = .ok (.aload_n 0, 1) := by decide +kernel
theorem dX6_does_90 : decode cX6_does 90 = .ok (.getfield 26, 3) := by decide +kernel
theorem dX6_does_93 : decode cX6_does 93 = .ok (.bipush 6, 2) := by decide +kernel
theorem dX6_does_95 : decode cX6_does 95 = .ok (.aload_n 0, 1) := by decide +kernel
theorem dX6_does_96 : decode cX6_does 96 = .ok (.iload_n 3, 1) := by decide +kernel
theorem dX6_does_97 : decode cX6_does 97 = .ok (.invokevirtual 165, 3) := by decide +kernel
theorem dX6_does_100 : decode cX6_does 100 = .ok (.imul, 1) := by decide +kernel
theorem dX6_does_101 : decode cX6_does 101 = .ok (.iconst 0, 1) := by decide +kernel
theorem dX6_does_102 : decode cX6_does 102 = .ok (.iadd, 1) := by decide +kernel
theorem dX6_does_103 : decode cX6_does 103 = .ok (.iaload, 1) := by decide +kernel
theorem dX6_does_104 : decode cX6_does 104 = .ok (.ifCond .gt 15, 3) := by decide +kernel
theorem dX6_does_107 : decode cX6_does 107 = .ok (.aload_n 0, 1) := by decide +kernel
theorem dX6_does_108 : decode cX6_does 108 = .ok (.getfield 26, 3) := by decide +kernel
theorem dX6_does_111 : decode cX6_does 111 = .ok (.bipush 76, 2) := by decide +kernel
theorem dX6_does_113 : decode cX6_does 113 = .ok (.iaload, 1) := by decide +kernel
theorem dX6_does_114 : decode cX6_does 114 = .ok (.bipush 99, 2) := by decide +kernel
theorem dX6_does_116 : decode cX6_does 116 = .ok (.if_icmp .ne 5, 3) := by decide +kernel
theorem dX6_does_119 : decode cX6_does 119 = .ok (.iconst 0, 1) := by decide +kernel
theorem dX6_does_120 : decode cX6_does 120 = .ok (.ireturn, 1) := by decide +kernel
theorem dX6_does_121 : decode cX6_does 121 = .ok (.aload_n 0, 1) := by decide +kernel
theorem dX6_does_122 : decode cX6_does 122 = .ok (.aload_n 0, 1) := by decide +kernel
theorem dX6_does_123 : decode cX6_does 123 = .ok (.getfield 26, 3) := by decide +kernel
theorem dX6_does_126 : decode cX6_does 126 = .ok (.iload_n 3, 1) := by decide +kernel
theorem dX6_does_127 : decode cX6_does 127 = .ok (.invokevirtual 174, 3) := by decide +kernel
theorem dX6_does_130 : decode cX6_does 130 = .ok (.iconst 1, 1) := by decide +kernel
theorem dX6_does_131 : decode cX6_does 131 = .ok (.ireturn, 1) := by decide +kernel
theorem dX6_does_132 : decode cX6_does 132 = .ok (.iload_n 2, 1) := by decide +kernel
theorem dX6_does_133 : decode cX6_does 133 = .ok (.ifCond .ne 40, 3) := by decide +kernel
theorem dX6_does_136 : decode cX6_does 136 = .ok (.aload_n 0, 1) := by decide +kernel
theorem dX6_does_137 : decode cX6_does 137 = .ok (.iload_n 3, 1) := by decide +kernel
theorem dX6_does_138 : decode cX6_does 138 = .ok (.invokevirtual 156, 3) := by decide +kernel
theorem dX6_does_141 : decode cX6_does 141 = .ok (.ifCond .ne 32, 3) := by decide +kernel
theorem dX6_does_144 : decode cX6_does 144 = .ok (.aload_n 0, 1) := by decide +kernel
theorem dX6_does_145 : decode cX6_does 145 = .ok (.getfield 26, 3) := by decide +kernel
theorem dX6_does_148 : decode cX6_does 148 = .ok (.bipush 6, 2) := by decide +kernel
theorem dX6_does_150 : decode cX6_does 150 = .ok (.iload_n 3, 1) := by decide +kernel
theorem dX6_does_151 : decode cX6_does 151 = .ok (.imul, 1) := by decide +kernel
theorem dX6_does_152 : decode cX6_does 152 = .ok (.iconst 0, 1) := by decide +kernel
theorem dX6_does_153 : decode cX6_does 153 = .ok (.iadd, 1) := by decide +kernel
theorem dX6_does_154 : decode cX6_does 154 = .ok (.iaload, 1) := by decide +kernel
theorem dX6_does_155 : decode cX6_does 155 = .ok (.ifCond .le 18, 3) := by decide +kernel
theorem dX6_does_158 : decode cX6_does 158 = .ok (.aload_n 0, 1) := by decide +kernel
theorem dX6_does_159 : decode cX6_does 159 = .ok (.getfield 26, 3) := by decide +kernel
theorem dX6_does_162 : decode cX6_does 162 = .ok (.iload_n 3, 1) := by decide +kernel
theorem dX6_does_163 : decode cX6_does 163 = .ok (.invokestatic 177, 3) := by decide +kernel
theorem dX6_does_166 : decode cX6_does 166 = .ok (.ifCond .le 7, 3) := by decide +kernel
theorem dX6_does_169 : decode cX6_does 169 = .ok (.iconst 1, 1) := by decide +kernel
theorem dX6_does_170 : decode cX6_does 170 = .ok (.goto 4, 3) := by decide +kernel
theorem dX6_does_173 : decode cX6_does 173 = .ok (.iconst 0, 1) := by decide +kernel
theorem dX6_does_174 : decode cX6_does 174 = .ok (.ireturn, 1) := by decide +kernel
theorem dX6_does_175 : decode cX6_does 175 = .ok (.iload_n 2, 1) := by decide +kernel
theorem dX6_does_176 : decode cX6_does 176 = .ok (.ifCond .ne 7, 3) := by decide +kernel
theorem dX6_does_179 : decode cX6_does 179 = .ok (.iload_n 3, 1) := by decide +kernel
theorem dX6_does_180 : decode cX6_does 180 = .ok (.ifCond .eq 5, 3) := by decide +kernel
theorem dX6_does_183 : decode cX6_does 183 = .ok (.iconst 0, 1) := by decide +kernel
theorem dX6_does_184 : decode cX6_does 184 = .ok (.ireturn, 1) := by decide +kernel
theorem dX6_does_185 : decode cX6_does 185 = .ok (.aload_n 0, 1) := by decide +kernel
theorem dX6_does_186 : decode cX6_does 186 = .ok (.getfield 26, 3) := by decide +kernel
theorem dX6_does_189 : decode cX6_does 189 = .ok (.bipush 72, 2) := by decide +kernel
theorem dX6_does_191 : decode cX6_does 191 = .ok (.iconst 1, 1) := by decide +kernel
theorem dX6_does_192 : decode cX6_does 192 = .ok (.aload_n 0, 1) := by decide +kernel
theorem dX6_does_193 : decode cX6_does 193 = .ok (.getfield 26, 3) := by decide +kernel
theorem dX6_does_196 : decode cX6_does 196 = .ok (.bipush 72, 2) := by decide +kernel
theorem dX6_does_198 : decode cX6_does 198 = .ok (.iaload, 1) := by decide +kernel
theorem dX6_does_199 : decode cX6_does 199 = .ok (.isub, 1) := by decide +kernel
theorem dX6_does_200 : decode cX6_does 200 = .ok (.iastore, 1) := by decide +kernel
theorem dX6_does_201 : decode cX6_does 201 = .ok (.iconst 1, 1) := by decide +kernel
theorem dX6_does_202 : decode cX6_does 202 = .ok (.ireturn, 1) := by decide +kernel
theorem dX6_does_203 : decode cX6_does 203 = .ok (.aload_n 0, 1) := by decide +kernel
theorem dX6_does_204 : decode cX6_does 204 = .ok (.iload_n 2, 1) := by decide +kernel
theorem dX6_does_205 : decode cX6_does 205 = .ok (.invokevirtual 156, 3) := by decide +kernel
theorem dX6_does_208 : decode cX6_does 208 = .ok (.ifCond .ne 8, 3) := by decide +kernel
theorem dX6_does_211 : decode cX6_does 211 = .ok (.iload_n 3, 1) := by decide +kernel
theorem dX6_does_212 : decode cX6_does 212 = .ok (.iconst 2, 1) := by decide +kernel
theorem dX6_does_213 : decode cX6_does 213 = .ok (.if_icmp .le 5, 3) := by decide +kernel
theorem dX6_does_216 : decode cX6_does 216 = .ok (.iconst 0, 1) := by decide +kernel
theorem dX6_does_217 : decode cX6_does 217 = .ok (.ireturn, 1) := by decide +kernel
theorem dX6_does_218 : decode cX6_does 218 = .ok (.aload_n 0, 1) := by decide +kernel
theorem dX6_does_219 : decode cX6_does 219 = .ok (.getfield 26, 3) := by decide +kernel
theorem dX6_does_222 : decode cX6_does 222 = .ok (.bipush 6, 2) := by decide +kernel
theorem dX6_does_224 : decode cX6_does 224 = .ok (.iload_n 2, 1) := by decide +kernel
theorem dX6_does_225 : decode cX6_does 225 = .ok (.imul, 1) := by decide +kernel
theorem dX6_does_226 : decode cX6_does 226 = .ok (.iconst 1, 1) := by decide +kernel
theorem dX6_does_227 : decode cX6_does 227 = .ok (.iadd, 1) := by decide +kernel
theorem dX6_does_228 : decode cX6_does 228 = .ok (.iload_n 3, 1) := by decide +kernel
theorem dX6_does_229 : decode cX6_does 229 = .ok (.iastore, 1) := by decide +kernel
theorem dX6_does_230 : decode cX6_does 230 = .ok (.iconst 1, 1) := by decide +kernel
theorem dX6_does_231 : decode cX6_does 231 = .ok (.ireturn, 1) := by decide +kernel
theorem dX6_does_232 : decode cX6_does 232 = .ok (.aload_n 0, 1) := by decide +kernel
theorem dX6_does_233 : decode cX6_does 233 = .ok (.iload_n 2, 1) := by decide +kernel
theorem dX6_does_234 : decode cX6_does 234 = .ok (.invokevirtual 156, 3) := by decide +kernel
theorem dX6_does_237 : decode cX6_does 237 = .ok (.ifCond .ne 44, 3) := by decide +kernel
theorem dX6_does_240 : decode cX6_does 240 = .ok (.iload_n 3, 1) := by decide +kernel
theorem dX6_does_241 : decode cX6_does 241 = .ok (.iconst 2, 1) := by decide +kernel
theorem dX6_does_242 : decode cX6_does 242 = .ok (.if_icmp .ge 39, 3) := by decide +kernel
theorem dX6_does_245 : decode cX6_does 245 = .ok (.aload_n 0, 1) := by decide +kernel
theorem dX6_does_246 : decode cX6_does 246 = .ok (.getfield 26, 3) := by decide +kernel
theorem dX6_does_249 : decode cX6_does 249 = .ok (.bipush 6, 2) := by decide +kernel
theorem dX6_does_251 : decode cX6_does 251 = .ok (.iload_n 2, 1) := by decide +kernel
theorem dX6_does_252 : decode cX6_does 252 = .ok (.imul, 1) := by decide +kernel
theorem dX6_does_253 : decode cX6_does 253 = .ok (.iconst 0, 1) := by decide +kernel
theorem dX6_does_254 : decode cX6_does 254 = .ok (.iadd, 1) := by decide +kernel
theorem dX6_does_255 : decode cX6_does 255 = .ok (.iaload, 1) := by decide +kernel
theorem dX6_does_256 : decode cX6_does 256 = .ok (.ifCond .le 7, 3) := by decide +kernel
theorem dX6_does_259 : decode cX6_does 259 = .ok (.iconst 1, 1) := by decide +kernel
theorem dX6_does_260 : decode cX6_does 260 = .ok (.goto 4, 3) := by decide +kernel
theorem dX6_does_263 : decode cX6_does 263 = .ok (.iconst 0, 1) := by decide +kernel
theorem dX6_does_264 : decode cX6_does 264 = .ok (.iload_n 3, 1) := by decide +kernel
theorem dX6_does_265 : decode cX6_does 265 = .ok (.iconst 1, 1) := by decide +kernel
theorem dX6_does_266 : decode cX6_does 266 = .ok (.if_icmp .ne 7, 3) := by decide +kernel
theorem dX6_does_269 : decode cX6_does 269 = .ok (.iconst 1, 1) := by decide +kernel
theorem dX6_does_270 : decode cX6_does 270 = .ok (.goto 4, 3) := by decide +kernel
theorem dX6_does_273 : decode cX6_does 273 = .ok (.iconst 0, 1) := by decide +kernel
theorem dX6_does_274 : decode cX6_does 274 = .ok (.if_icmp .ne 7, 3) := by decide +kernel
theorem dX6_does_277 : decode cX6_does 277 = .ok (.iconst 1, 1) := by decide +kernel
theorem dX6_does_278 : decode cX6_does 278 = .ok (.goto 4, 3) := by decide +kernel
theorem dX6_does_281 : decode cX6_does 281 = .ok (.iconst 0, 1) := by decide +kernel
theorem dX6_does_282 : decode cX6_does 282 = .ok (.ireturn, 1) := by decide +kernel
theorem dX6_does_283 : decode cX6_does 283 = .ok (.aload_n 0, 1) := by decide +kernel
theorem dX6_does_284 : decode cX6_does 284 = .ok (.getfield 26, 3) := by decide +kernel
theorem dX6_does_287 : decode cX6_does 287 = .ok (.bipush 77, 2) := by decide +kernel
theorem dX6_does_289 : decode cX6_does 289 = .ok (.iaload, 1) := by decide +kernel
theorem dX6_does_290 : decode cX6_does 290 = .ok (.bipush 10, 2) := by decide +kernel
theorem dX6_does_292 : decode cX6_does 292 = .ok (.iload_n 2, 1) := by decide +kernel
theorem dX6_does_293 : decode cX6_does 293 = .ok (.imul, 1) := by decide +kernel
theorem dX6_does_294 : decode cX6_does 294 = .ok (.iload_n 3, 1) := by decide +kernel
theorem dX6_does_295 : decode cX6_does 295 = .ok (.iadd, 1) := by decide +kernel
theorem dX6_does_296 : decode cX6_does 296 = .ok (.if_icmp .ne 7, 3) := by decide +kernel
theorem dX6_does_299 : decode cX6_does 299 = .ok (.iconst 1, 1) := by decide +kernel
theorem dX6_does_300 : decode cX6_does 300 = .ok (.goto 4, 3) := by decide +kernel
theorem dX6_does_303 : decode cX6_does 303 = .ok (.iconst 0, 1) := by decide +kernel
theorem dX6_does_304 : decode cX6_does 304 = .ok (.ireturn, 1) := by decide +kernel
theorem dX6_does_305 : decode cX6_does 305 = .ok (.aload_n 0, 1) := by decide +kernel
theorem dX6_does_306 : decode cX6_does 306 = .ok (.iload_n 2, 1) := by decide +kernel
theorem dX6_does_307 : decode cX6_does 307 = .ok (.invokevirtual 156, 3) := by decide +kernel
theorem dX6_does_310 : decode cX6_does 310 = .ok (.ifCond .ne 27, 3) := by decide +kernel
theorem dX6_does_313 : decode cX6_does 313 = .ok (.iload_n 3, 1) := by decide +kernel
theorem dX6_does_314 : decode cX6_does 314 = .ok (.iconst 2, 1) := by decide +kernel
theorem dX6_does_315 : decode cX6_does 315 = .ok (.if_icmp .ge 22, 3) := by decide +kernel
theorem dX6_does_318 : decode cX6_does 318 = .ok (.aload_n 0, 1) := by decide +kernel
theorem dX6_does_319 : decode cX6_does 319 = .ok (.getfield 26, 3) := by decide +kernel
theorem dX6_does_322 : decode cX6_does 322 = .ok (.bipush 6, 2) := by decide +kernel
theorem dX6_does_324 : decode cX6_does 324 = .ok (.iload_n 2, 1) := by decide +kernel
theorem dX6_does_325 : decode cX6_does 325 = .ok (.imul, 1) := by decide +kernel
theorem dX6_does_326 : decode cX6_does 326 = .ok (.iconst 2, 1) := by decide +kernel
theorem dX6_does_327 : decode cX6_does 327 = .ok (.iadd, 1) := by decide +kernel
theorem dX6_does_328 : decode cX6_does 328 = .ok (.iaload, 1) := by decide +kernel
theorem dX6_does_329 : decode cX6_does 329 = .ok (.iload_n 3, 1) := by decide +kernel
theorem dX6_does_330 : decode cX6_does 330 = .ok (.if_icmp .ne 7, 3) := by decide +kernel
theorem dX6_does_333 : decode cX6_does 333 = .ok (.iconst 1, 1) := by decide +kernel
end
section
theorem dX6_does_334 : decode cX6_does 334 = .ok (.goto 4, 3) := by decide +kernel
theorem dX6_does_337 : decode cX6_does 337 = .ok (.iconst 0, 1) := by decide +kernel
theorem dX6_does_338 : decode cX6_does 338 = .ok (.ireturn, 1) := by decide +kernel
theorem dX6_does_339 : decode cX6_does 339 = .ok (.iconst 0, 1) := by decide +kernel
theorem dX6_does_340 : decode cX6_does 340 = .ok (.ireturn, 1) := by decide +kernel
theorem dX6_longPower_0 : decode cX6_longPower 0 = .ok (.lconst 1, 1) := by decide +kernel
theorem dX6_longPower_1 : decode cX6_longPower 1 = .ok (.lstore_n 3, 1) := by decide +kernel
theorem dX6_longPower_2 : decode cX6_longPower 2 = .ok (.iconst 0, 1) := by decide +kernel
theorem dX6_longPower_3 : decode cX6_longPower 3 = .ok (.istore 5, 2) := by decide +kernel
theorem dX6_longPower_5 : decode cX6_longPower 5 = .ok (.iload 5, 2) := by decide +kernel
theorem dX6_longPower_7 : decode cX6_longPower 7 = .ok (.iload_n 2, 1) := by decide +kernel
theorem dX6_longPower_8 : decode cX6_longPower 8 = .ok (.if_icmp .ge 13, 3) := by decide +kernel
theorem dX6_longPower_11 : decode cX6_longPower 11 = .ok (.lload_n 3, 1) := by decide +kernel
theorem dX6_longPower_12 : decode cX6_longPower 12 = .ok (.lload_n 0, 1) := by decide +kernel
theorem dX6_longPower_13 : decode cX6_longPower 13 = .ok (.lmul, 1) := by decide +kernel
theorem dX6_longPower_14 : decode cX6_longPower 14 = .ok (.lstore_n 3, 1) := by decide +kernel
theorem dX6_longPower_15 : decode cX6_longPower 15 = .ok (.iinc 5 1, 3) := by decide +kernel
theorem dX6_longPower_18 : decode cX6_longPower 18 = .ok (.goto (-13), 3) := by decide +kernel
theorem dX6_longPower_21 : decode cX6_longPower 21 = .ok (.lload_n 3, 1) := by decide +kernel
theorem dX6_longPower_22 : decode cX6_longPower 22 = .ok (.lreturn, 1) := by decide +kernel
theorem dX6_judge_0 : decode cX6_judge 0 = .ok (.aload_n 0, 1) := by decide +kernel
theorem dX6_judge_1 : decode cX6_judge 1 = .ok (.iconst 0, 1) := by decide +kernel
theorem dX6_judge_2 : decode cX6_judge 2 = .ok (.putfield 48, 3) := by decide +kernel
theorem dX6_judge_5 : decode cX6_judge 5 = .ok (.iload_n 1, 1) := by decide +kernel
theorem dX6_judge_6 : decode cX6_judge 6 = .ok (.i2l, 1) := by decide +kernel
theorem dX6_judge_7 : decode cX6_judge 7 = .ok (.lconst 1, 1) := by decide +kernel
theorem dX6_judge_8 : decode cX6_judge 8 = .ok (.ldc2_w 209, 3) := by decide +kernel
theorem dX6_judge_11 : decode cX6_judge 11 = .ok (.invokestatic 58, 3) := by decide +kernel
theorem dX6_judge_14 : decode cX6_judge 14 = .ok (.ifCond .eq 20, 3) := by decide +kernel
theorem dX6_judge_17 : decode cX6_judge 17 = .ok (.lload_n 2, 1) := by decide +kernel
theorem dX6_judge_18 : decode cX6_judge 18 = .ok (.lconst 0, 1) := by decide +kernel
theorem dX6_judge_19 : decode cX6_judge 19 = .ok (.ldc2_w 211, 3) := by decide +kernel
theorem dX6_judge_22 : decode cX6_judge 22 = .ok (.iload_n 1, 1) := by decide +kernel
theorem dX6_judge_23 : decode cX6_judge 23 = .ok (.invokestatic 213, 3) := by decide +kernel
theorem dX6_judge_26 : decode cX6_judge 26 = .ok (.lconst 1, 1) := by decide +kernel
theorem dX6_judge_27 : decode cX6_judge 27 = .ok (.lsub, 1) := by decide +kernel
theorem dX6_judge_28 : decode cX6_judge 28 = .ok (.invokestatic 58, 3) := by decide +kernel
theorem dX6_judge_31 : decode cX6_judge 31 = .ok (.ifCond .ne 6, 3) := by decide +kernel
theorem dX6_judge_34 : decode cX6_judge 34 = .ok (.bipush (-2), 2) := by decide +kernel
theorem dX6_judge_36 : decode cX6_judge 36 = .ok (.ireturn, 1) := by decide +kernel
theorem dX6_judge_37 : decode cX6_judge 37 = .ok (.aload_n 0, 1) := by decide +kernel
theorem dX6_judge_38 : decode cX6_judge 38 = .ok (.invokevirtual 194, 3) := by decide +kernel
theorem dX6_judge_41 : decode cX6_judge 41 = .ok (.iconst 0, 1) := by decide +kernel
theorem dX6_judge_42 : decode cX6_judge 42 = .ok (.istore 4, 2) := by decide +kernel
theorem dX6_judge_44 : decode cX6_judge 44 = .ok (.iload 4, 2) := by decide +kernel
theorem dX6_judge_46 : decode cX6_judge 46 = .ok (.iload_n 1, 1) := by decide +kernel
theorem dX6_judge_47 : decode cX6_judge 47 = .ok (.if_icmp .ge 58, 3) := by decide +kernel
theorem dX6_judge_50 : decode cX6_judge 50 = .ok (.lload_n 2, 1) := by decide +kernel
theorem dX6_judge_51 : decode cX6_judge 51 = .ok (.ldc2_w 211, 3) := by decide +kernel
theorem dX6_judge_54 : decode cX6_judge 54 = .ok (.iload_n 1, 1) := by decide +kernel
theorem dX6_judge_55 : decode cX6_judge 55 = .ok (.iconst 1, 1) := by decide +kernel
theorem dX6_judge_56 : decode cX6_judge 56 = .ok (.isub, 1) := by decide +kernel
theorem dX6_judge_57 : decode cX6_judge 57 = .ok (.iload 4, 2) := by decide +kernel
theorem dX6_judge_59 : decode cX6_judge 59 = .ok (.isub, 1) := by decide +kernel
theorem dX6_judge_60 : decode cX6_judge 60 = .ok (.invokestatic 213, 3) := by decide +kernel
theorem dX6_judge_63 : decode cX6_judge 63 = .ok (.ldiv, 1) := by decide +kernel
theorem dX6_judge_64 : decode cX6_judge 64 = .ok (.ldc2_w 211, 3) := by decide +kernel
theorem dX6_judge_67 : decode cX6_judge 67 = .ok (.lrem, 1) := by decide +kernel
theorem dX6_judge_68 : decode cX6_judge 68 = .ok (.l2i, 1) := by decide +kernel
theorem dX6_judge_69 : decode cX6_judge 69 = .ok (.istore 5, 2) := by decide +kernel
theorem dX6_judge_71 : decode cX6_judge 71 = .ok (.aload_n 0, 1) := by decide +kernel
theorem dX6_judge_72 : decode cX6_judge 72 = .ok (.iload 5, 2) := by decide +kernel
theorem dX6_judge_74 : decode cX6_judge 74 = .ok (.bipush 100, 2) := by decide +kernel
theorem dX6_judge_76 : decode cX6_judge 76 = .ok (.idiv, 1) := by decide +kernel
theorem dX6_judge_77 : decode cX6_judge 77 = .ok (.iload 5, 2) := by decide +kernel
theorem dX6_judge_79 : decode cX6_judge 79 = .ok (.bipush 10, 2) := by decide +kernel
theorem dX6_judge_81 : decode cX6_judge 81 = .ok (.idiv, 1) := by decide +kernel
theorem dX6_judge_82 : decode cX6_judge 82 = .ok (.bipush 10, 2) := by decide +kernel
theorem dX6_judge_84 : decode cX6_judge 84 = .ok (.irem, 1) := by decide +kernel
theorem dX6_judge_85 : decode cX6_judge 85 = .ok (.iload 5, 2) := by decide +kernel
theorem dX6_judge_87 : decode cX6_judge 87 = .ok (.bipush 10, 2) := by decide +kernel
theorem dX6_judge_89 : decode cX6_judge 89 = .ok (.irem, 1) := by decide +kernel
theorem dX6_judge_90 : decode cX6_judge 90 = .ok (.invokevirtual 217, 3) := by decide +kernel
theorem dX6_judge_93 : decode cX6_judge 93 = .ok (.ifCond .ne 6, 3) := by decide +kernel
theorem dX6_judge_96 : decode cX6_judge 96 = .ok (.iload 4, 2) := by decide +kernel
theorem dX6_judge_98 : decode cX6_judge 98 = .ok (.ireturn, 1) := by decide +kernel
theorem dX6_judge_99 : decode cX6_judge 99 = .ok (.iinc 4 1, 3) := by decide +kernel
theorem dX6_judge_102 : decode cX6_judge 102 = .ok (.goto (-58), 3) := by decide +kernel
theorem dX6_judge_105 : decode cX6_judge 105 = .ok (.bipush (-9), 2) := by decide +kernel
theorem dX6_judge_107 : decode cX6_judge 107 = .ok (.ireturn, 1) := by decide +kernel
theorem dX6_see_0 : decode cX6_see 0 = .ok (.aload_n 0, 1) := by decide +kernel
theorem dX6_see_1 : decode cX6_see 1 = .ok (.iconst 0, 1) := by decide +kernel
theorem dX6_see_2 : decode cX6_see 2 = .ok (.putfield 48, 3) := by decide +kernel
theorem dX6_see_5 : decode cX6_see 5 = .ok (.iload_n 1, 1) := by decide +kernel
theorem dX6_see_6 : decode cX6_see 6 = .ok (.i2l, 1) := by decide +kernel
theorem dX6_see_7 : decode cX6_see 7 = .ok (.lconst 0, 1) := by decide +kernel
theorem dX6_see_8 : decode cX6_see 8 = .ok (.ldc2_w 221, 3) := by decide +kernel
theorem dX6_see_11 : decode cX6_see 11 = .ok (.invokestatic 58, 3) := by decide +kernel
theorem dX6_see_14 : decode cX6_see 14 = .ok (.ifCond .eq 25, 3) := by decide +kernel
theorem dX6_see_17 : decode cX6_see 17 = .ok (.iload_n 2, 1) := by decide +kernel
theorem dX6_see_18 : decode cX6_see 18 = .ok (.i2l, 1) := by decide +kernel
theorem dX6_see_19 : decode cX6_see 19 = .ok (.lconst 0, 1) := by decide +kernel
theorem dX6_see_20 : decode cX6_see 20 = .ok (.ldc2_w 189, 3) := by decide +kernel
theorem dX6_see_23 : decode cX6_see 23 = .ok (.invokestatic 58, 3) := by decide +kernel
theorem dX6_see_26 : decode cX6_see 26 = .ok (.ifCond .eq 13, 3) := by decide +kernel
theorem dX6_see_29 : decode cX6_see 29 = .ok (.iload_n 3, 1) := by decide +kernel
theorem dX6_see_30 : decode cX6_see 30 = .ok (.i2l, 1) := by decide +kernel
theorem dX6_see_31 : decode cX6_see 31 = .ok (.lconst 0, 1) := by decide +kernel
theorem dX6_see_32 : decode cX6_see 32 = .ok (.lconst 1, 1) := by decide +kernel
theorem dX6_see_33 : decode cX6_see 33 = .ok (.invokestatic 58, 3) := by decide +kernel
theorem dX6_see_36 : decode cX6_see 36 = .ok (.ifCond .ne 6, 3) := by decide +kernel
theorem dX6_see_39 : decode cX6_see 39 = .ok (.bipush (-2), 2) := by decide +kernel
theorem dX6_see_41 : decode cX6_see 41 = .ok (.ireturn, 1) := by decide +kernel
theorem dX6_see_42 : decode cX6_see 42 = .ok (.aload_n 0, 1) := by decide +kernel
theorem dX6_see_43 : decode cX6_see 43 = .ok (.getfield 223, 3) := by decide +kernel
theorem dX6_see_46 : decode cX6_see 46 = .ok (.bipush 6, 2) := by decide +kernel
theorem dX6_see_48 : decode cX6_see 48 = .ok (.if_icmp .ne 6, 3) := by decide +kernel
theorem dX6_see_51 : decode cX6_see 51 = .ok (.bipush (-4), 2) := by decide +kernel
theorem dX6_see_53 : decode cX6_see 53 = .ok (.ireturn, 1) := by decide +kernel
theorem dX6_see_54 : decode cX6_see 54 = .ok (.aload_n 0, 1) := by decide +kernel
theorem dX6_see_55 : decode cX6_see 55 = .ok (.getfield 39, 3) := by decide +kernel
theorem dX6_see_58 : decode cX6_see 58 = .ok (.aload_n 0, 1) := by decide +kernel
theorem dX6_see_59 : decode cX6_see 59 = .ok (.getfield 223, 3) := by decide +kernel
theorem dX6_see_62 : decode cX6_see 62 = .ok (.iload_n 1, 1) := by decide +kernel
theorem dX6_see_63 : decode cX6_see 63 = .ok (.iastore, 1) := by decide +kernel
theorem dX6_see_64 : decode cX6_see 64 = .ok (.aload_n 0, 1) := by decide +kernel
theorem dX6_see_65 : decode cX6_see 65 = .ok (.getfield 42, 3) := by decide +kernel
theorem dX6_see_68 : decode cX6_see 68 = .ok (.aload_n 0, 1) := by decide +kernel
theorem dX6_see_69 : decode cX6_see 69 = .ok (.getfield 223, 3) := by decide +kernel
theorem dX6_see_72 : decode cX6_see 72 = .ok (.iload_n 2, 1) := by decide +kernel
theorem dX6_see_73 : decode cX6_see 73 = .ok (.iastore, 1) := by decide +kernel
theorem dX6_see_74 : decode cX6_see 74 = .ok (.aload_n 0, 1) := by decide +kernel
theorem dX6_see_75 : decode cX6_see 75 = .ok (.getfield 45, 3) := by decide +kernel
theorem dX6_see_78 : decode cX6_see 78 = .ok (.aload_n 0, 1) := by decide +kernel
theorem dX6_see_79 : decode cX6_see 79 = .ok (.getfield 223, 3) := by decide +kernel
theorem dX6_see_82 : decode cX6_see 82 = .ok (.iload_n 3, 1) := by decide +kernel
theorem dX6_see_83 : decode cX6_see 83 = .ok (.iastore, 1) := by decide +kernel
theorem dX6_see_84 : decode cX6_see 84 = .ok (.aload_n 0, 1) := by decide +kernel
theorem dX6_see_85 : decode cX6_see 85 = .ok (.dup, 1) := by decide +kernel
theorem dX6_see_86 : decode cX6_see 86 = .ok (.getfield 223, 3) := by decide +kernel
theorem dX6_see_89 : decode cX6_see 89 = .ok (.iconst 1, 1) := by decide +kernel
theorem dX6_see_90 : decode cX6_see 90 = .ok (.iadd, 1) := by decide +kernel
theorem dX6_see_91 : decode cX6_see 91 = .ok (.putfield 223, 3) := by decide +kernel
theorem dX6_see_94 : decode cX6_see 94 = .ok (.aload_n 0, 1) := by decide +kernel
theorem dX6_see_95 : decode cX6_see 95 = .ok (.getfield 223, 3) := by decide +kernel
theorem dX6_see_98 : decode cX6_see 98 = .ok (.ireturn, 1) := by decide +kernel
theorem dX6_unsee_0 : decode cX6_unsee 0 = .ok (.aload_n 0, 1) := by decide +kernel
theorem dX6_unsee_1 : decode cX6_unsee 1 = .ok (.iconst 0, 1) := by decide +kernel
theorem dX6_unsee_2 : decode cX6_unsee 2 = .ok (.putfield 48, 3) := by decide +kernel
theorem dX6_unsee_5 : decode cX6_unsee 5 = .ok (.aload_n 0, 1) := by decide +kernel
theorem dX6_unsee_6 : decode cX6_unsee 6 = .ok (.getfield 223, 3) := by decide +kernel
theorem dX6_unsee_9 : decode cX6_unsee 9 = .ok (.istore_n 1, 1) := by decide +kernel
theorem dX6_unsee_10 : decode cX6_unsee 10 = .ok (.aload_n 0, 1) := by decide +kernel
theorem dX6_unsee_11 : decode cX6_unsee 11 = .ok (.iconst 0, 1) := by decide +kernel
theorem dX6_unsee_12 : decode cX6_unsee 12 = .ok (.putfield 223, 3) := by decide +kernel
theorem dX6_unsee_15 : decode cX6_unsee 15 = .ok (.iload_n 1, 1) := by decide +kernel
theorem dX6_unsee_16 : decode cX6_unsee 16 = .ok (.ireturn, 1) := by decide +kernel
theorem dX6_isSo_0 : decode cX6_isSo 0 = .ok (.aload_n 0, 1) := by decide +kernel
theorem dX6_isSo_1 : decode cX6_isSo 1 = .ok (.invokevirtual 194, 3) := by decide +kernel
theorem dX6_isSo_4 : decode cX6_isSo 4 = .ok (.aload_n 0, 1) := by decide +kernel
theorem dX6_isSo_5 : decode cX6_isSo 5 = .ok (.getfield 26, 3) := by decide +kernel
theorem dX6_isSo_8 : decode cX6_isSo 8 = .ok (.bipush 6, 2) := by decide +kernel
theorem dX6_isSo_10 : decode cX6_isSo 10 = .ok (.iload_n 1, 1) := by decide +kernel
theorem dX6_isSo_11 : decode cX6_isSo 11 = .ok (.imul, 1) := by decide +kernel
theorem dX6_isSo_12 : decode cX6_isSo 12 = .ok (.iconst 1, 1) := by decide +kernel
theorem dX6_isSo_13 : decode cX6_isSo 13 = .ok (.iadd, 1) := by decide +kernel
theorem dX6_isSo_14 : decode cX6_isSo 14 = .ok (.iconst 1, 1) := by decide +kernel
theorem dX6_isSo_15 : decode cX6_isSo 15 = .ok (.iastore, 1) := by decide +kernel
theorem dX6_isSo_16 : decode cX6_isSo 16 = .ok (.aload_n 0, 1) := by decide +kernel
theorem dX6_isSo_17 : decode cX6_isSo 17 = .ok (.aload_n 0, 1) := by decide +kernel
theorem dX6_isSo_18 : decode cX6_isSo 18 = .ok (.getfield 26, 3) := by decide +kernel
theorem dX6_isSo_21 : decode cX6_isSo 21 = .ok (.aload_n 0, 1) := by decide +kernel
theorem dX6_isSo_22 : decode cX6_isSo 22 = .ok (.getfield 39, 3) := by decide +kernel
theorem dX6_isSo_25 : decode cX6_isSo 25 = .ok (.iload_n 2, 1) := by decide +kernel
theorem dX6_isSo_26 : decode cX6_isSo 26 = .ok (.iaload, 1) := by decide +kernel
theorem dX6_isSo_27 : decode cX6_isSo 27 = .ok (.invokevirtual 191, 3) := by decide +kernel
theorem dX6_isSo_30 : decode cX6_isSo 30 = .ok (.aload_n 0, 1) := by decide +kernel
theorem dX6_isSo_31 : decode cX6_isSo 31 = .ok (.getfield 26, 3) := by decide +kernel
theorem dX6_isSo_34 : decode cX6_isSo 34 = .ok (.bipush 77, 2) := by decide +kernel
theorem dX6_isSo_36 : decode cX6_isSo 36 = .ok (.iaload, 1) := by decide +kernel
theorem dX6_isSo_37 : decode cX6_isSo 37 = .ok (.aload_n 0, 1) := by decide +kernel
theorem dX6_isSo_38 : decode cX6_isSo 38 = .ok (.getfield 42, 3) := by decide +kernel
theorem dX6_isSo_41 : decode cX6_isSo 41 = .ok (.iload_n 2, 1) := by decide +kernel
theorem dX6_isSo_42 : decode cX6_isSo 42 = .ok (.iaload, 1) := by decide +kernel
theorem dX6_isSo_43 : decode cX6_isSo 43 = .ok (.if_icmp .ne 7, 3) := by decide +kernel
theorem dX6_isSo_46 : decode cX6_isSo 46 = .ok (.iconst 1, 1) := by decide +kernel
theorem dX6_isSo_47 : decode cX6_isSo 47 = .ok (.goto 4, 3) := by decide +kernel
theorem dX6_isSo_50 : decode cX6_isSo 50 = .ok (.iconst 0, 1) := by decide +kernel
theorem dX6_isSo_51 : decode cX6_isSo 51 = .ok (.aload_n 0, 1) := by decide +kernel
theorem dX6_isSo_52 : decode cX6_isSo 52 = .ok (.getfield 45, 3) := by decide +kernel
theorem dX6_isSo_55 : decode cX6_isSo 55 = .ok (.iload_n 2, 1) := by decide +kernel
theorem dX6_isSo_56 : decode cX6_isSo 56 = .ok (.iaload, 1) := by decide +kernel
theorem dX6_isSo_57 : decode cX6_isSo 57 = .ok (.iconst 1, 1) := by decide +kernel
theorem dX6_isSo_58 : decode cX6_isSo 58 = .ok (.if_icmp .ne 7, 3) := by decide +kernel
theorem dX6_isSo_61 : decode cX6_isSo 61 = .ok (.iconst 1, 1) := by decide +kernel
theorem dX6_isSo_62 : decode cX6_isSo 62 = .ok (.goto 4, 3) := by decide +kernel
theorem dX6_isSo_65 : decode cX6_isSo 65 = .ok (.iconst 0, 1) := by decide +kernel
theorem dX6_isSo_66 : decode cX6_isSo 66 = .ok (.if_icmp .ne 7, 3) := by decide +kernel
theorem dX6_isSo_69 : decode cX6_isSo 69 = .ok (.iconst 1, 1) := by decide +kernel
theorem dX6_isSo_70 : decode cX6_isSo 70 = .ok (.goto 4, 3) := by decide +kernel
theorem dX6_isSo_73 : decode cX6_isSo 73 = .ok (.iconst 0, 1) := by decide +kernel
theorem dX6_isSo_74 : decode cX6_isSo 74 = .ok (.ireturn, 1) := by decide +kernel
theorem dX6_which_0 : decode cX6_which 0 = .ok (.aload_n 0, 1) := by decide +kernel
theorem dX6_which_1 : decode cX6_which 1 = .ok (.iconst 0, 1) := by decide +kernel
theorem dX6_which_2 : decode cX6_which 2 = .ok (.putfield 48, 3) := by decide +kernel
theorem dX6_which_5 : decode cX6_which 5 = .ok (.iconst 0, 1) := by decide +kernel
theorem dX6_which_6 : decode cX6_which 6 = .ok (.istore_n 1, 1) := by decide +kernel
theorem dX6_which_7 : decode cX6_which 7 = .ok (.iconst 0, 1) := by decide +kernel
theorem dX6_which_8 : decode cX6_which 8 = .ok (.istore_n 2, 1) := by decide +kernel
theorem dX6_which_9 : decode cX6_which 9 = .ok (.iload_n 2, 1) := by decide +kernel
theorem dX6_which_10 : decode cX6_which 10 = .ok (.aload_n 0, 1) := by decide +kernel
theorem dX6_which_11 : decode cX6_which 11 = .ok (.invokevirtual 54, 3) := by decide +kernel
theorem dX6_which_14 : decode cX6_which 14 = .ok (.if_icmp .ge 81, 3) := by decide +kernel
theorem dX6_which_17 : decode cX6_which 17 = .ok (.aload_n 0, 1) := by decide +kernel
theorem dX6_which_18 : decode cX6_which 18 = .ok (.getfield 23, 3) := by decide +kernel
theorem dX6_which_21 : decode cX6_which 21 = .ok (.bipush 6, 2) := by decide +kernel
theorem dX6_which_23 : decode cX6_which 23 = .ok (.iload_n 2, 1) := by decide +kernel
theorem dX6_which_24 : decode cX6_which 24 = .ok (.imul, 1) := by decide +kernel
theorem dX6_which_25 : decode cX6_which 25 = .ok (.iconst 1, 1) := by decide +kernel
theorem dX6_which_26 : decode cX6_which 26 = .ok (.iadd, 1) := by decide +kernel
theorem dX6_which_27 : decode cX6_which 27 = .ok (.iaload, 1) := by decide +kernel
theorem dX6_which_28 : decode cX6_which 28 = .ok (.ifCond .ne 7, 3) := by decide +kernel
theorem dX6_which_31 : decode cX6_which 31 = .ok (.iconst 1, 1) := by decide +kernel
theorem dX6_which_32 : decode cX6_which 32 = .ok (.goto 4, 3) := by decide +kernel
theorem dX6_which_35 : decode cX6_which 35 = .ok (.iconst 0, 1) := by decide +kernel
theorem dX6_which_36 : decode cX6_which 36 = .ok (.istore_n 3, 1) := by decide +kernel
theorem dX6_which_37 : decode cX6_which 37 = .ok (.iconst 0, 1) := by decide +kernel
theorem dX6_which_38 : decode cX6_which 38 = .ok (.istore 4, 2) := by decide +kernel
theorem dX6_which_40 : decode cX6_which 40 = .ok (.iload 4, 2) := by decide +kernel
theorem dX6_which_42 : decode cX6_which 42 = .ok (.aload_n 0, 1) := by decide +kernel
theorem dX6_which_43 : decode cX6_which 43 = .ok (.getfield 223, 3) := by decide +kernel
theorem dX6_which_46 : decode cX6_which 46 = .ok (.if_icmp .ge 29, 3) := by decide +kernel
theorem dX6_which_49 : decode cX6_which 49 = .ok (.iload_n 3, 1) := by decide +kernel
theorem dX6_which_50 : decode cX6_which 50 = .ok (.ifCond .eq 17, 3) := by decide +kernel
theorem dX6_which_53 : decode cX6_which 53 = .ok (.aload_n 0, 1) := by decide +kernel
theorem dX6_which_54 : decode cX6_which 54 = .ok (.iload_n 2, 1) := by decide +kernel
theorem dX6_which_55 : decode cX6_which 55 = .ok (.iload 4, 2) := by decide +kernel
theorem dX6_which_57 : decode cX6_which 57 = .ok (.invokevirtual 226, 3) := by decide +kernel
theorem dX6_which_60 : decode cX6_which 60 = .ok (.ifCond .eq 7, 3) := by decide +kernel
theorem dX6_which_63 : decode cX6_which 63 = .ok (.iconst 1, 1) := by decide +kernel
theorem dX6_which_64 : decode cX6_which 64 = .ok (.goto 4, 3) := by decide +kernel
theorem dX6_which_67 : decode cX6_which 67 = .ok (.iconst 0, 1) := by decide +kernel
theorem dX6_which_68 : decode cX6_which 68 = .ok (.istore_n 3, 1) := by decide +kernel
theorem dX6_which_69 : decode cX6_which 69 = .ok (.iinc 4 1, 3) := by decide +kernel
theorem dX6_which_72 : decode cX6_which 72 = .ok (.goto (-32), 3) := by decide +kernel
theorem dX6_which_75 : decode cX6_which 75 = .ok (.iload_n 1, 1) := by decide +kernel
theorem dX6_which_76 : decode cX6_which 76 = .ok (.iload_n 3, 1) := by decide +kernel
theorem dX6_which_77 : decode cX6_which 77 = .ok (.ifCond .eq 9, 3) := by decide +kernel
theorem dX6_which_80 : decode cX6_which 80 = .ok (.iconst 1, 1) := by decide +kernel
theorem dX6_which_81 : decode cX6_which 81 = .ok (.iload_n 2, 1) := by decide +kernel
theorem dX6_which_82 : decode cX6_which 82 = .ok (.ishl, 1) := by decide +kernel
theorem dX6_which_83 : decode cX6_which 83 = .ok (.goto 4, 3) := by decide +kernel
theorem dX6_which_86 : decode cX6_which 86 = .ok (.iconst 0, 1) := by decide +kernel
theorem dX6_which_87 : decode cX6_which 87 = .ok (.ior, 1) := by decide +kernel
theorem dX6_which_88 : decode cX6_which 88 = .ok (.istore_n 1, 1) := by decide +kernel
theorem dX6_which_89 : decode cX6_which 89 = .ok (.iinc 2 1, 3) := by decide +kernel
theorem dX6_which_92 : decode cX6_which 92 = .ok (.goto (-83), 3) := by decide +kernel
theorem dX6_which_95 : decode cX6_which 95 = .ok (.iload_n 1, 1) := by decide +kernel
theorem dX6_which_96 : decode cX6_which 96 = .ok (.ireturn, 1) := by decide +kernel
theorem dX6_divisor_0 : decode cX6_divisor 0 = .ok (.iload_n 0, 1) := by decide +kernel
theorem dX6_divisor_1 : decode cX6_divisor 1 = .ok (.ifCond .ge 8, 3) := by decide +kernel
theorem dX6_divisor_4 : decode cX6_divisor 4 = .ok (.iload_n 0, 1) := by decide +kernel
theorem dX6_divisor_5 : decode cX6_divisor 5 = .ok (.ineg, 1) := by decide +kernel
theorem dX6_divisor_6 : decode cX6_divisor 6 = .ok (.goto 4, 3) := by decide +kernel
theorem dX6_divisor_9 : decode cX6_divisor 9 = .ok (.iload_n 0, 1) := by decide +kernel
theorem dX6_divisor_10 : decode cX6_divisor 10 = .ok (.istore_n 2, 1) := by decide +kernel
theorem dX6_divisor_11 : decode cX6_divisor 11 = .ok (.iload_n 1, 1) := by decide +kernel
theorem dX6_divisor_12 : decode cX6_divisor 12 = .ok (.istore_n 3, 1) := by decide +kernel
theorem dX6_divisor_13 : decode cX6_divisor 13 = .ok (.iload_n 3, 1) := by decide +kernel
theorem dX6_divisor_14 : decode cX6_divisor 14 = .ok (.ifCond .eq 16, 3) := by decide +kernel
theorem dX6_divisor_17 : decode cX6_divisor 17 = .ok (.iload_n 2, 1) := by decide +kernel
theorem dX6_divisor_18 : decode cX6_divisor 18 = .ok (.iload_n 3, 1) := by decide +kernel
theorem dX6_divisor_19 : decode cX6_divisor 19 = .ok (.irem, 1) := by decide +kernel
theorem dX6_divisor_20 : decode cX6_divisor 20 = .ok (.istore 4, 2) := by decide +kernel
theorem dX6_divisor_22 : decode cX6_divisor 22 = .ok (.iload_n 3, 1) := by decide +kernel
theorem dX6_divisor_23 : decode cX6_divisor 23 = .ok (.istore_n 2, 1) := by decide +kernel
theorem dX6_divisor_24 : decode cX6_divisor 24 = .ok (.iload 4, 2) := by decide +kernel
theorem dX6_divisor_26 : decode cX6_divisor 26 = .ok (.istore_n 3, 1) := by decide +kernel
theorem dX6_divisor_27 : decode cX6_divisor 27 = .ok (.goto (-14), 3) := by decide +kernel
theorem dX6_divisor_30 : decode cX6_divisor 30 = .ok (.iload_n 2, 1) := by decide +kernel
theorem dX6_divisor_31 : decode cX6_divisor 31 = .ok (.ireturn, 1) := by decide +kernel
theorem dX6_fraction_0 : decode cX6_fraction 0 = .ok (.iload_n 0, 1) := by decide +kernel
theorem dX6_fraction_1 : decode cX6_fraction 1 = .ok (.iload_n 1, 1) := by decide +kernel
theorem dX6_fraction_2 : decode cX6_fraction 2 = .ok (.invokestatic 229, 3) := by decide +kernel
theorem dX6_fraction_5 : decode cX6_fraction 5 = .ok (.istore_n 3, 1) := by decide +kernel
theorem dX6_fraction_6 : decode cX6_fraction 6 = .ok (.iload_n 2, 1) := by decide +kernel
theorem dX6_fraction_7 : decode cX6_fraction 7 = .ok (.ifCond .eq 9, 3) := by decide +kernel
theorem dX6_fraction_10 : decode cX6_fraction 10 = .ok (.iload_n 0, 1) := by decide +kernel
theorem dX6_fraction_11 : decode cX6_fraction 11 = .ok (.iload_n 3, 1) := by decide +kernel
theorem dX6_fraction_12 : decode cX6_fraction 12 = .ok (.idiv, 1) := by decide +kernel
theorem dX6_fraction_13 : decode cX6_fraction 13 = .ok (.goto 6, 3) := by decide +kernel
theorem dX6_fraction_16 : decode cX6_fraction 16 = .ok (.iload_n 1, 1) := by decide +kernel
theorem dX6_fraction_17 : decode cX6_fraction 17 = .ok (.iload_n 3, 1) := by decide +kernel
theorem dX6_fraction_18 : decode cX6_fraction 18 = .ok (.idiv, 1) := by decide +kernel
theorem dX6_fraction_19 : decode cX6_fraction 19 = .ok (.ireturn, 1) := by decide +kernel
theorem dX6_factorial_0 : decode cX6_factorial 0 = .ok (.iconst 1, 1) := by decide +kernel
theorem dX6_factorial_1 : decode cX6_factorial 1 = .ok (.istore_n 1, 1) := by decide +kernel
theorem dX6_factorial_2 : decode cX6_factorial 2 = .ok (.iconst 2, 1) := by decide +kernel
theorem dX6_factorial_3 : decode cX6_factorial 3 = .ok (.istore_n 2, 1) := by decide +kernel
theorem dX6_factorial_4 : decode cX6_factorial 4 = .ok (.iload_n 2, 1) := by decide +kernel
theorem dX6_factorial_5 : decode cX6_factorial 5 = .ok (.iload_n 0, 1) := by decide +kernel
theorem dX6_factorial_6 : decode cX6_factorial 6 = .ok (.if_icmp .gt 13, 3) := by decide +kernel
theorem dX6_factorial_9 : decode cX6_factorial 9 = .ok (.iload_n 1, 1) := by decide +kernel
theorem dX6_factorial_10 : decode cX6_factorial 10 = .ok (.iload_n 2, 1) := by decide +kernel
theorem dX6_factorial_11 : decode cX6_factorial 11 = .ok (.imul, 1) := by decide +kernel
theorem dX6_factorial_12 : decode cX6_factorial 12 = .ok (.istore_n 1, 1) := by decide +kernel
theorem dX6_factorial_13 : decode cX6_factorial 13 = .ok (.iinc 2 1, 3) := by decide +kernel
theorem dX6_factorial_16 : decode cX6_factorial 16 = .ok (.goto (-12), 3) := by decide +kernel
theorem dX6_factorial_19 : decode cX6_factorial 19 = .ok (.iload_n 1, 1) := by decide +kernel
theorem dX6_factorial_20 : decode cX6_factorial 20 = .ok (.ireturn, 1) := by decide +kernel
theorem dX6_goneBy_0 : decode cX6_goneBy 0 = .ok (.aload_n 0, 1) := by decide +kernel
theorem dX6_goneBy_1 : decode cX6_goneBy 1 = .ok (.invokevirtual 194, 3) := by decide +kernel
theorem dX6_goneBy_4 : decode cX6_goneBy 4 = .ok (.iconst 0, 1) := by decide +kernel
theorem dX6_goneBy_5 : decode cX6_goneBy 5 = .ok (.istore_n 2, 1) := by decide +kernel
theorem dX6_goneBy_6 : decode cX6_goneBy 6 = .ok (.iload_n 2, 1) := by decide +kernel
theorem dX6_goneBy_7 : decode cX6_goneBy 7 = .ok (.aload_n 0, 1) := by decide +kernel
theorem dX6_goneBy_8 : decode cX6_goneBy 8 = .ok (.invokevirtual 54, 3) := by decide +kernel
theorem dX6_goneBy_11 : decode cX6_goneBy 11 = .ok (.if_icmp .ge 43, 3) := by decide +kernel
theorem dX6_goneBy_14 : decode cX6_goneBy 14 = .ok (.aload_n 0, 1) := by decide +kernel
theorem dX6_goneBy_15 : decode cX6_goneBy 15 = .ok (.getfield 26, 3) := by decide +kernel
theorem dX6_goneBy_18 : decode cX6_goneBy 18 = .ok (.bipush 6, 2) := by decide +kernel
theorem dX6_goneBy_20 : decode cX6_goneBy 20 = .ok (.iload_n 2, 1) := by decide +kernel
theorem dX6_goneBy_21 : decode cX6_goneBy 21 = .ok (.imul, 1) := by decide +kernel
theorem dX6_goneBy_22 : decode cX6_goneBy 22 = .ok (.iconst 1, 1) := by decide +kernel
theorem dX6_goneBy_23 : decode cX6_goneBy 23 = .ok (.iadd, 1) := by decide +kernel
theorem dX6_goneBy_24 : decode cX6_goneBy 24 = .ok (.iload_n 1, 1) := by decide +kernel
theorem dX6_goneBy_25 : decode cX6_goneBy 25 = .ok (.iload_n 2, 1) := by decide +kernel
theorem dX6_goneBy_26 : decode cX6_goneBy 26 = .ok (.invokestatic 119, 3) := by decide +kernel
theorem dX6_goneBy_29 : decode cX6_goneBy 29 = .ok (.ifCond .eq 7, 3) := by decide +kernel
theorem dX6_goneBy_32 : decode cX6_goneBy 32 = .ok (.iconst 0, 1) := by decide +kernel
theorem dX6_goneBy_33 : decode cX6_goneBy 33 = .ok (.goto 14, 3) := by decide +kernel
theorem dX6_goneBy_36 : decode cX6_goneBy 36 = .ok (.aload_n 0, 1) := by decide +kernel
theorem dX6_goneBy_37 : decode cX6_goneBy 37 = .ok (.getfield 26, 3) := by decide +kernel
theorem dX6_goneBy_40 : decode cX6_goneBy 40 = .ok (.bipush 6, 2) := by decide +kernel
theorem dX6_goneBy_42 : decode cX6_goneBy 42 = .ok (.iload_n 2, 1) := by decide +kernel
theorem dX6_goneBy_43 : decode cX6_goneBy 43 = .ok (.imul, 1) := by decide +kernel
theorem dX6_goneBy_44 : decode cX6_goneBy 44 = .ok (.iconst 1, 1) := by decide +kernel
theorem dX6_goneBy_45 : decode cX6_goneBy 45 = .ok (.iadd, 1) := by decide +kernel
theorem dX6_goneBy_46 : decode cX6_goneBy 46 = .ok (.iaload, 1) := by decide +kernel
theorem dX6_goneBy_47 : decode cX6_goneBy 47 = .ok (.iastore, 1) := by decide +kernel
theorem dX6_goneBy_48 : decode cX6_goneBy 48 = .ok (.iinc 2 1, 3) := by decide +kernel
theorem dX6_goneBy_51 : decode cX6_goneBy 51 = .ok (.goto (-45), 3) := by decide +kernel
theorem dX6_goneBy_54 : decode cX6_goneBy 54 = .ok (.aload_n 0, 1) := by decide +kernel
theorem dX6_goneBy_55 : decode cX6_goneBy 55 = .ok (.aload_n 0, 1) := by decide +kernel
theorem dX6_goneBy_56 : decode cX6_goneBy 56 = .ok (.getfield 26, 3) := by decide +kernel
theorem dX6_goneBy_59 : decode cX6_goneBy 59 = .ok (.bipush 20, 2) := by decide +kernel
theorem dX6_goneBy_61 : decode cX6_goneBy 61 = .ok (.invokevirtual 191, 3) := by decide +kernel
theorem dX6_goneBy_64 : decode cX6_goneBy 64 = .ok (.aload_n 0, 1) := by decide +kernel
theorem dX6_goneBy_65 : decode cX6_goneBy 65 = .ok (.getfield 26, 3) := by decide +kernel
theorem dX6_goneBy_68 : decode cX6_goneBy 68 = .ok (.bipush 77, 2) := by decide +kernel
theorem dX6_goneBy_70 : decode cX6_goneBy 70 = .ok (.iaload, 1) := by decide +kernel
theorem dX6_goneBy_71 : decode cX6_goneBy 71 = .ok (.ireturn, 1) := by decide +kernel
theorem dX6_share_0 : decode cX6_share 0 = .ok (.aload_n 0, 1) := by decide +kernel
theorem dX6_share_1 : decode cX6_share 1 = .ok (.iconst 0, 1) := by decide +kernel
theorem dX6_share_2 : decode cX6_share 2 = .ok (.putfield 48, 3) := by decide +kernel
theorem dX6_share_5 : decode cX6_share 5 = .ok (.aload_n 0, 1) := by decide +kernel
theorem dX6_share_6 : decode cX6_share 6 = .ok (.iload_n 1, 1) := by decide +kernel
theorem dX6_share_7 : decode cX6_share 7 = .ok (.invokevirtual 156, 3) := by decide +kernel
theorem dX6_share_10 : decode cX6_share 10 = .ok (.ifCond .eq 5, 3) := by decide +kernel
theorem dX6_share_13 : decode cX6_share 13 = .ok (.iconst (-1), 1) := by decide +kernel
theorem dX6_share_14 : decode cX6_share 14 = .ok (.ireturn, 1) := by decide +kernel
theorem dX6_share_15 : decode cX6_share 15 = .ok (.aload_n 0, 1) := by decide +kernel
theorem dX6_share_16 : decode cX6_share 16 = .ok (.aload_n 0, 1) := by decide +kernel
theorem dX6_share_17 : decode cX6_share 17 = .ok (.getfield 23, 3) := by decide +kernel
theorem dX6_share_20 : decode cX6_share 20 = .ok (.iconst 1, 1) := by decide +kernel
theorem dX6_share_21 : decode cX6_share 21 = .ok (.invokevirtual 183, 3) := by decide +kernel
theorem dX6_share_24 : decode cX6_share 24 = .ok (.istore_n 3, 1) := by decide +kernel
theorem dX6_share_25 : decode cX6_share 25 = .ok (.iload_n 3, 1) := by decide +kernel
theorem dX6_share_26 : decode cX6_share 26 = .ok (.invokestatic 186, 3) := by decide +kernel
theorem dX6_share_29 : decode cX6_share 29 = .ok (.istore 4, 2) := by decide +kernel
theorem dX6_share_31 : decode cX6_share 31 = .ok (.iload_n 3, 1) := by decide +kernel
theorem dX6_share_32 : decode cX6_share 32 = .ok (.iload_n 1, 1) := by decide +kernel
theorem dX6_share_33 : decode cX6_share 33 = .ok (.invokestatic 119, 3) := by decide +kernel
theorem dX6_share_36 : decode cX6_share 36 = .ok (.ifCond .eq 10, 3) := by decide +kernel
theorem dX6_share_39 : decode cX6_share 39 = .ok (.iload 4, 2) := by decide +kernel
theorem dX6_share_41 : decode cX6_share 41 = .ok (.bipush 6, 2) := by decide +kernel
theorem dX6_share_43 : decode cX6_share 43 = .ok (.if_icmp .le 6, 3) := by decide +kernel
theorem dX6_share_46 : decode cX6_share 46 = .ok (.bipush (-3), 2) := by decide +kernel
theorem dX6_share_48 : decode cX6_share 48 = .ok (.ireturn, 1) := by decide +kernel
theorem dX6_share_49 : decode cX6_share 49 = .ok (.iconst 0, 1) := by decide +kernel
theorem dX6_share_50 : decode cX6_share 50 = .ok (.istore 5, 2) := by decide +kernel
theorem dX6_share_52 : decode cX6_share 52 = .ok (.iconst 0, 1) := by decide +kernel
theorem dX6_share_53 : decode cX6_share 53 = .ok (.istore 6, 2) := by decide +kernel
theorem dX6_share_55 : decode cX6_share 55 = .ok (.iload 6, 2) := by decide +kernel
theorem dX6_share_57 : decode cX6_share 57 = .ok (.iload_n 3, 1) := by decide +kernel
theorem dX6_share_58 : decode cX6_share 58 = .ok (.if_icmp .gt 73, 3) := by decide +kernel
theorem dX6_share_61 : decode cX6_share 61 = .ok (.iload 6, 2) := by decide +kernel
theorem dX6_share_63 : decode cX6_share 63 = .ok (.iload_n 3, 1) := by decide +kernel
theorem dX6_share_64 : decode cX6_share 64 = .ok (.iconst (-1), 1) := by decide +kernel
theorem dX6_share_65 : decode cX6_share 65 = .ok (.ixor, 1) := by decide +kernel
theorem dX6_share_66 : decode cX6_share 66 = .ok (.iand, 1) := by decide +kernel
theorem dX6_share_67 : decode cX6_share 67 = .ok (.ifCond .ne 58, 3) := by decide +kernel
theorem dX6_share_70 : decode cX6_share 70 = .ok (.iload 6, 2) := by decide +kernel
theorem dX6_share_72 : decode cX6_share 72 = .ok (.iload_n 1, 1) := by decide +kernel
theorem dX6_share_73 : decode cX6_share 73 = .ok (.invokestatic 119, 3) := by decide +kernel
theorem dX6_share_76 : decode cX6_share 76 = .ok (.ifCond .ne 49, 3) := by decide +kernel
theorem dX6_share_79 : decode cX6_share 79 = .ok (.iload 6, 2) := by decide +kernel
theorem dX6_share_81 : decode cX6_share 81 = .ok (.invokestatic 186, 3) := by decide +kernel
theorem dX6_share_84 : decode cX6_share 84 = .ok (.istore 7, 2) := by decide +kernel
theorem dX6_share_86 : decode cX6_share 86 = .ok (.iload 5, 2) := by decide +kernel
theorem dX6_share_88 : decode cX6_share 88 = .ok (.iload 7, 2) := by decide +kernel
theorem dX6_share_90 : decode cX6_share 90 = .ok (.invokestatic 232, 3) := by decide +kernel
theorem dX6_share_93 : decode cX6_share 93 = .ok (.iload 4, 2) := by decide +kernel
theorem dX6_share_95 : decode cX6_share 95 = .ok (.iconst 1, 1) := by decide +kernel
theorem dX6_share_96 : decode cX6_share 96 = .ok (.isub, 1) := by decide +kernel
theorem dX6_share_97 : decode cX6_share 97 = .ok (.iload 7, 2) := by decide +kernel
theorem dX6_share_99 : decode cX6_share 99 = .ok (.isub, 1) := by decide +kernel
theorem dX6_share_100 : decode cX6_share 100 = .ok (.invokestatic 232, 3) := by decide +kernel
theorem dX6_share_103 : decode cX6_share 103 = .ok (.imul, 1) := by decide +kernel
theorem dX6_share_104 : decode cX6_share 104 = .ok (.aload_n 0, 1) := by decide +kernel
theorem dX6_share_105 : decode cX6_share 105 = .ok (.iload 6, 2) := by decide +kernel
theorem dX6_share_107 : decode cX6_share 107 = .ok (.iconst 1, 1) := by decide +kernel
theorem dX6_share_108 : decode cX6_share 108 = .ok (.iload_n 1, 1) := by decide +kernel
theorem dX6_share_109 : decode cX6_share 109 = .ok (.ishl, 1) := by decide +kernel
theorem dX6_share_110 : decode cX6_share 110 = .ok (.ior, 1) := by decide +kernel
theorem dX6_share_111 : decode cX6_share 111 = .ok (.invokevirtual 235, 3) := by decide +kernel
theorem dX6_share_114 : decode cX6_share 114 = .ok (.aload_n 0, 1) := by decide +kernel
theorem dX6_share_115 : decode cX6_share 115 = .ok (.iload 6, 2) := by decide +kernel
theorem dX6_share_117 : decode cX6_share 117 = .ok (.invokevirtual 235, 3) := by decide +kernel
theorem dX6_share_120 : decode cX6_share 120 = .ok (.isub, 1) := by decide +kernel
theorem dX6_share_121 : decode cX6_share 121 = .ok (.imul, 1) := by decide +kernel
theorem dX6_share_122 : decode cX6_share 122 = .ok (.iadd, 1) := by decide +kernel
theorem dX6_share_123 : decode cX6_share 123 = .ok (.istore 5, 2) := by decide +kernel
theorem dX6_share_125 : decode cX6_share 125 = .ok (.iinc 6 1, 3) := by decide +kernel
theorem dX6_share_128 : decode cX6_share 128 = .ok (.goto (-73), 3) := by decide +kernel
theorem dX6_share_131 : decode cX6_share 131 = .ok (.iload 5, 2) := by decide +kernel
theorem dX6_share_133 : decode cX6_share 133 = .ok (.iload 4, 2) := by decide +kernel
theorem dX6_share_135 : decode cX6_share 135 = .ok (.invokestatic 232, 3) := by decide +kernel
theorem dX6_share_138 : decode cX6_share 138 = .ok (.iload_n 2, 1) := by decide +kernel
theorem dX6_share_139 : decode cX6_share 139 = .ok (.invokestatic 238, 3) := by decide +kernel
theorem dX6_share_142 : decode cX6_share 142 = .ok (.ireturn, 1) := by decide +kernel
theorem dX6_shut_0 : decode cX6_shut 0 = .ok (.aload_n 0, 1) := by decide +kernel
theorem dX6_shut_1 : decode cX6_shut 1 = .ok (.iconst 0, 1) := by decide +kernel
theorem dX6_shut_2 : decode cX6_shut 2 = .ok (.putfield 48, 3) := by decide +kernel
theorem dX6_shut_5 : decode cX6_shut 5 = .ok (.iload_n 1, 1) := by decide +kernel
theorem dX6_shut_6 : decode cX6_shut 6 = .ok (.i2l, 1) := by decide +kernel
theorem dX6_shut_7 : decode cX6_shut 7 = .ok (.lconst 1, 1) := by decide +kernel
theorem dX6_shut_8 : decode cX6_shut 8 = .ok (.ldc2_w 242, 3) := by decide +kernel
theorem dX6_shut_11 : decode cX6_shut 11 = .ok (.invokestatic 58, 3) := by decide +kernel
theorem dX6_shut_14 : decode cX6_shut 14 = .ok (.ifCond .eq 15, 3) := by decide +kernel
theorem dX6_shut_17 : decode cX6_shut 17 = .ok (.iload_n 2, 1) := by decide +kernel
theorem dX6_shut_18 : decode cX6_shut 18 = .ok (.i2l, 1) := by decide +kernel
theorem dX6_shut_19 : decode cX6_shut 19 = .ok (.lconst 0, 1) := by decide +kernel
theorem dX6_shut_20 : decode cX6_shut 20 = .ok (.ldc2_w 244, 3) := by decide +kernel
theorem dX6_shut_23 : decode cX6_shut 23 = .ok (.invokestatic 58, 3) := by decide +kernel
theorem dX6_shut_26 : decode cX6_shut 26 = .ok (.ifCond .ne 6, 3) := by decide +kernel
theorem dX6_shut_29 : decode cX6_shut 29 = .ok (.bipush (-2), 2) := by decide +kernel
theorem dX6_shut_31 : decode cX6_shut 31 = .ok (.ireturn, 1) := by decide +kernel
theorem dX6_shut_32 : decode cX6_shut 32 = .ok (.iconst 0, 1) := by decide +kernel
theorem dX6_shut_33 : decode cX6_shut 33 = .ok (.istore 4, 2) := by decide +kernel
theorem dX6_shut_35 : decode cX6_shut 35 = .ok (.iconst 0, 1) := by decide +kernel
theorem dX6_shut_36 : decode cX6_shut 36 = .ok (.istore 5, 2) := by decide +kernel
theorem dX6_shut_38 : decode cX6_shut 38 = .ok (.iload 5, 2) := by decide +kernel
theorem dX6_shut_40 : decode cX6_shut 40 = .ok (.iconst 1, 1) := by decide +kernel
theorem dX6_shut_41 : decode cX6_shut 41 = .ok (.iload_n 1, 1) := by decide +kernel
theorem dX6_shut_42 : decode cX6_shut 42 = .ok (.ishl, 1) := by decide +kernel
theorem dX6_shut_43 : decode cX6_shut 43 = .ok (.if_icmp .ge 103, 3) := by decide +kernel
theorem dX6_shut_46 : decode cX6_shut 46 = .ok (.aload_n 0, 1) := by decide +kernel
theorem dX6_shut_47 : decode cX6_shut 47 = .ok (.invokevirtual 194, 3) := by decide +kernel
theorem dX6_shut_50 : decode cX6_shut 50 = .ok (.iconst 0, 1) := by decide +kernel
theorem dX6_shut_51 : decode cX6_shut 51 = .ok (.istore 6, 2) := by decide +kernel
theorem dX6_shut_53 : decode cX6_shut 53 = .ok (.iload 6, 2) := by decide +kernel
theorem dX6_shut_55 : decode cX6_shut 55 = .ok (.iload_n 1, 1) := by decide +kernel
theorem dX6_shut_56 : decode cX6_shut 56 = .ok (.if_icmp .ge 39, 3) := by decide +kernel
theorem dX6_shut_59 : decode cX6_shut 59 = .ok (.aload_n 0, 1) := by decide +kernel
theorem dX6_shut_60 : decode cX6_shut 60 = .ok (.getfield 26, 3) := by decide +kernel
theorem dX6_shut_63 : decode cX6_shut 63 = .ok (.bipush 72, 2) := by decide +kernel
theorem dX6_shut_65 : decode cX6_shut 65 = .ok (.iload 5, 2) := by decide +kernel
theorem dX6_shut_67 : decode cX6_shut 67 = .ok (.iload 6, 2) := by decide +kernel
theorem dX6_shut_69 : decode cX6_shut 69 = .ok (.invokestatic 119, 3) := by decide +kernel
theorem dX6_shut_72 : decode cX6_shut 72 = .ok (.ifCond .eq 7, 3) := by decide +kernel
theorem dX6_shut_75 : decode cX6_shut 75 = .ok (.iconst 0, 1) := by decide +kernel
theorem dX6_shut_76 : decode cX6_shut 76 = .ok (.goto 4, 3) := by decide +kernel
theorem dX6_shut_79 : decode cX6_shut 79 = .ok (.iconst 1, 1) := by decide +kernel
theorem dX6_shut_80 : decode cX6_shut 80 = .ok (.iastore, 1) := by decide +kernel
theorem dX6_shut_81 : decode cX6_shut 81 = .ok (.aload_n 0, 1) := by decide +kernel
theorem dX6_shut_82 : decode cX6_shut 82 = .ok (.aload_n 0, 1) := by decide +kernel
theorem dX6_shut_83 : decode cX6_shut 83 = .ok (.getfield 26, 3) := by decide +kernel
theorem dX6_shut_86 : decode cX6_shut 86 = .ok (.invokevirtual 153, 3) := by decide +kernel
theorem dX6_shut_89 : decode cX6_shut 89 = .ok (.iinc 6 1, 3) := by decide +kernel
theorem dX6_shut_92 : decode cX6_shut 92 = .ok (.goto (-39), 3) := by decide +kernel
theorem dX6_shut_95 : decode cX6_shut 95 = .ok (.iload 4, 2) := by decide +kernel
theorem dX6_shut_97 : decode cX6_shut 97 = .ok (.aload_n 0, 1) := by decide +kernel
theorem dX6_shut_98 : decode cX6_shut 98 = .ok (.aload_n 0, 1) := by decide +kernel
theorem dX6_shut_99 : decode cX6_shut 99 = .ok (.getfield 26, 3) := by decide +kernel
theorem dX6_shut_102 : decode cX6_shut 102 = .ok (.iconst 0, 1) := by decide +kernel
theorem dX6_shut_103 : decode cX6_shut 103 = .ok (.invokevirtual 183, 3) := by decide +kernel
theorem dX6_shut_106 : decode cX6_shut 106 = .ok (.ifCond .ne 30, 3) := by decide +kernel
theorem dX6_shut_109 : decode cX6_shut 109 = .ok (.iload_n 2, 1) := by decide +kernel
theorem dX6_shut_110 : decode cX6_shut 110 = .ok (.iload 5, 2) := by decide +kernel
theorem dX6_shut_112 : decode cX6_shut 112 = .ok (.invokestatic 186, 3) := by decide +kernel
theorem dX6_shut_115 : decode cX6_shut 115 = .ok (.invokestatic 246, 3) := by decide +kernel
theorem dX6_shut_118 : decode cX6_shut 118 = .ok (.bipush 10, 2) := by decide +kernel
theorem dX6_shut_120 : decode cX6_shut 120 = .ok (.iload_n 2, 1) := by decide +kernel
theorem dX6_shut_121 : decode cX6_shut 121 = .ok (.isub, 1) := by decide +kernel
theorem dX6_shut_122 : decode cX6_shut 122 = .ok (.iload_n 1, 1) := by decide +kernel
theorem dX6_shut_123 : decode cX6_shut 123 = .ok (.iload 5, 2) := by decide +kernel
theorem dX6_shut_125 : decode cX6_shut 125 = .ok (.invokestatic 186, 3) := by decide +kernel
theorem dX6_shut_128 : decode cX6_shut 128 = .ok (.isub, 1) := by decide +kernel
theorem dX6_shut_129 : decode cX6_shut 129 = .ok (.invokestatic 246, 3) := by decide +kernel
theorem dX6_shut_132 : decode cX6_shut 132 = .ok (.imul, 1) := by decide +kernel
theorem dX6_shut_133 : decode cX6_shut 133 = .ok (.goto 4, 3) := by decide +kernel
theorem dX6_shut_136 : decode cX6_shut 136 = .ok (.iconst 0, 1) := by decide +kernel
theorem dX6_shut_137 : decode cX6_shut 137 = .ok (.iadd, 1) := by decide +kernel
theorem dX6_shut_138 : decode cX6_shut 138 = .ok (.istore 4, 2) := by decide +kernel
theorem dX6_shut_140 : decode cX6_shut 140 = .ok (.iinc 5 1, 3) := by decide +kernel
theorem dX6_shut_143 : decode cX6_shut 143 = .ok (.goto (-105), 3) := by decide +kernel
theorem dX6_shut_146 : decode cX6_shut 146 = .ok (.iload 4, 2) := by decide +kernel
theorem dX6_shut_148 : decode cX6_shut 148 = .ok (.bipush 10, 2) := by decide +kernel
theorem dX6_shut_150 : decode cX6_shut 150 = .ok (.iload_n 1, 1) := by decide +kernel
theorem dX6_shut_151 : decode cX6_shut 151 = .ok (.invokestatic 246, 3) := by decide +kernel
theorem dX6_shut_154 : decode cX6_shut 154 = .ok (.iload_n 3, 1) := by decide +kernel
theorem dX6_shut_155 : decode cX6_shut 155 = .ok (.invokestatic 238, 3) := by decide +kernel
theorem dX6_shut_158 : decode cX6_shut 158 = .ok (.ireturn, 1) := by decide +kernel
theorem dX6_seed_0 : decode cX6_seed 0 = .ok (.aload_n 0, 1) := by decide +kernel
theorem dX6_seed_1 : decode cX6_seed 1 = .ok (.iconst 0, 1) := by decide +kernel
theorem dX6_seed_2 : decode cX6_seed 2 = .ok (.putfield 48, 3) := by decide +kernel
theorem dX6_seed_5 : decode cX6_seed 5 = .ok (.aload_n 0, 1) := by decide +kernel
theorem dX6_seed_6 : decode cX6_seed 6 = .ok (.getfield 249, 3) := by decide +kernel
theorem dX6_seed_9 : decode cX6_seed 9 = .ok (.lstore_n 3, 1) := by decide +kernel
theorem dX6_seed_10 : decode cX6_seed 10 = .ok (.aload_n 0, 1) := by decide +kernel
theorem dX6_seed_11 : decode cX6_seed 11 = .ok (.lload_n 1, 1) := by decide +kernel
theorem dX6_seed_12 : decode cX6_seed 12 = .ok (.putfield 249, 3) := by decide +kernel
theorem dX6_seed_15 : decode cX6_seed 15 = .ok (.lload_n 3, 1) := by decide +kernel
theorem dX6_seed_16 : decode cX6_seed 16 = .ok (.lreturn, 1) := by decide +kernel
theorem dX6_drawn_0 : decode cX6_drawn 0 = .ok (.aload_n 0, 1) := by decide +kernel
theorem dX6_drawn_1 : decode cX6_drawn 1 = .ok (.iconst 0, 1) := by decide +kernel
theorem dX6_drawn_2 : decode cX6_drawn 2 = .ok (.putfield 48, 3) := by decide +kernel
theorem dX6_drawn_5 : decode cX6_drawn 5 = .ok (.iload_n 1, 1) := by decide +kernel
theorem dX6_drawn_6 : decode cX6_drawn 6 = .ok (.i2l, 1) := by decide +kernel
theorem dX6_drawn_7 : decode cX6_drawn 7 = .ok (.lconst 1, 1) := by decide +kernel
theorem dX6_drawn_8 : decode cX6_drawn 8 = .ok (.ldc2_w 253, 3) := by decide +kernel
theorem dX6_drawn_11 : decode cX6_drawn 11 = .ok (.invokestatic 58, 3) := by decide +kernel
theorem dX6_drawn_14 : decode cX6_drawn 14 = .ok (.ifCond .ne 6, 3) := by decide +kernel
theorem dX6_drawn_17 : decode cX6_drawn 17 = .ok (.bipush (-2), 2) := by decide +kernel
theorem dX6_drawn_19 : decode cX6_drawn 19 = .ok (.ireturn, 1) := by decide +kernel
theorem dX6_drawn_20 : decode cX6_drawn 20 = .ok (.aload_n 0, 1) := by decide +kernel
theorem dX6_drawn_21 : decode cX6_drawn 21 = .ok (.invokevirtual 194, 3) := by decide +kernel
theorem dX6_drawn_24 : decode cX6_drawn 24 = .ok (.iconst 0, 1) := by decide +kernel
theorem dX6_drawn_25 : decode cX6_drawn 25 = .ok (.istore_n 2, 1) := by decide +kernel
theorem dX6_drawn_26 : decode cX6_drawn 26 = .ok (.iload_n 2, 1) := by decide +kernel
theorem dX6_drawn_27 : decode cX6_drawn 27 = .ok (.iload_n 1, 1) := by decide +kernel
theorem dX6_drawn_28 : decode cX6_drawn 28 = .ok (.if_icmp .ge 91, 3) := by decide +kernel
theorem dX6_drawn_31 : decode cX6_drawn 31 = .ok (.aload_n 0, 1) := by decide +kernel
theorem dX6_drawn_32 : decode cX6_drawn 32 = .ok (.aload_n 0, 1) := by decide +kernel
theorem dX6_drawn_33 : decode cX6_drawn 33 = .ok (.getfield 249, 3) := by decide +kernel
theorem dX6_drawn_36 : decode cX6_drawn 36 = .ok (.ldc2_w 255, 3) := by decide +kernel
theorem dX6_drawn_39 : decode cX6_drawn 39 = .ok (.lmul, 1) := by decide +kernel
theorem dX6_drawn_40 : decode cX6_drawn 40 = .ok (.ldc2_w 257, 3) := by decide +kernel
theorem dX6_drawn_43 : decode cX6_drawn 43 = .ok (.ladd, 1) := by decide +kernel
theorem dX6_drawn_44 : decode cX6_drawn 44 = .ok (.putfield 249, 3) := by decide +kernel
theorem dX6_drawn_47 : decode cX6_drawn 47 = .ok (.aload_n 0, 1) := by decide +kernel
theorem dX6_drawn_48 : decode cX6_drawn 48 = .ok (.getfield 249, 3) := by decide +kernel
theorem dX6_drawn_51 : decode cX6_drawn 51 = .ok (.bipush 33, 2) := by decide +kernel
theorem dX6_drawn_53 : decode cX6_drawn 53 = .ok (.lushr, 1) := by decide +kernel
theorem dX6_drawn_54 : decode cX6_drawn 54 = .ok (.l2i, 1) := by decide +kernel
theorem dX6_drawn_55 : decode cX6_drawn 55 = .ok (.iconst 3, 1) := by decide +kernel
theorem dX6_drawn_56 : decode cX6_drawn 56 = .ok (.irem, 1) := by decide +kernel
theorem dX6_drawn_57 : decode cX6_drawn 57 = .ok (.istore_n 3, 1) := by decide +kernel
theorem dX6_drawn_58 : decode cX6_drawn 58 = .ok (.aload_n 0, 1) := by decide +kernel
theorem dX6_drawn_59 : decode cX6_drawn 59 = .ok (.iload_n 3, 1) := by decide +kernel
theorem dX6_drawn_60 : decode cX6_drawn 60 = .ok (.invokevirtual 168, 3) := by decide +kernel
theorem dX6_drawn_63 : decode cX6_drawn 63 = .ok (.ifCond .ne 42, 3) := by decide +kernel
theorem dX6_drawn_66 : decode cX6_drawn 66 = .ok (.aload_n 0, 1) := by decide +kernel
theorem dX6_drawn_67 : decode cX6_drawn 67 = .ok (.getfield 26, 3) := by decide +kernel
theorem dX6_drawn_70 : decode cX6_drawn 70 = .ok (.bipush 6, 2) := by decide +kernel
theorem dX6_drawn_72 : decode cX6_drawn 72 = .ok (.aload_n 0, 1) := by decide +kernel
theorem dX6_drawn_73 : decode cX6_drawn 73 = .ok (.iload_n 3, 1) := by decide +kernel
theorem dX6_drawn_74 : decode cX6_drawn 74 = .ok (.invokevirtual 165, 3) := by decide +kernel
theorem dX6_drawn_77 : decode cX6_drawn 77 = .ok (.imul, 1) := by decide +kernel
theorem dX6_drawn_78 : decode cX6_drawn 78 = .ok (.iconst 0, 1) := by decide +kernel
theorem dX6_drawn_79 : decode cX6_drawn 79 = .ok (.iadd, 1) := by decide +kernel
theorem dX6_drawn_80 : decode cX6_drawn 80 = .ok (.iaload, 1) := by decide +kernel
theorem dX6_drawn_81 : decode cX6_drawn 81 = .ok (.ifCond .ne 24, 3) := by decide +kernel
theorem dX6_drawn_84 : decode cX6_drawn 84 = .ok (.aload_n 0, 1) := by decide +kernel
theorem dX6_drawn_85 : decode cX6_drawn 85 = .ok (.getfield 26, 3) := by decide +kernel
theorem dX6_drawn_88 : decode cX6_drawn 88 = .ok (.bipush 76, 2) := by decide +kernel
theorem dX6_drawn_90 : decode cX6_drawn 90 = .ok (.iaload, 1) := by decide +kernel
theorem dX6_drawn_91 : decode cX6_drawn 91 = .ok (.bipush 99, 2) := by decide +kernel
theorem dX6_drawn_93 : decode cX6_drawn 93 = .ok (.if_icmp .ge 12, 3) := by decide +kernel
theorem dX6_drawn_96 : decode cX6_drawn 96 = .ok (.aload_n 0, 1) := by decide +kernel
theorem dX6_drawn_97 : decode cX6_drawn 97 = .ok (.aload_n 0, 1) := by decide +kernel
theorem dX6_drawn_98 : decode cX6_drawn 98 = .ok (.getfield 26, 3) := by decide +kernel
theorem dX6_drawn_101 : decode cX6_drawn 101 = .ok (.iload_n 3, 1) := by decide +kernel
theorem dX6_drawn_102 : decode cX6_drawn 102 = .ok (.invokevirtual 174, 3) := by decide +kernel
theorem dX6_drawn_105 : decode cX6_drawn 105 = .ok (.aload_n 0, 1) := by decide +kernel
theorem dX6_drawn_106 : decode cX6_drawn 106 = .ok (.aload_n 0, 1) := by decide +kernel
theorem dX6_drawn_107 : decode cX6_drawn 107 = .ok (.getfield 26, 3) := by decide +kernel
theorem dX6_drawn_110 : decode cX6_drawn 110 = .ok (.invokevirtual 153, 3) := by decide +kernel
theorem dX6_drawn_113 : decode cX6_drawn 113 = .ok (.iinc 2 1, 3) := by decide +kernel
theorem dX6_drawn_116 : decode cX6_drawn 116 = .ok (.goto (-90), 3) := by decide +kernel
theorem dX6_drawn_119 : decode cX6_drawn 119 = .ok (.aload_n 0, 1) := by decide +kernel
theorem dX6_drawn_120 : decode cX6_drawn 120 = .ok (.getfield 26, 3) := by decide +kernel
theorem dX6_drawn_123 : decode cX6_drawn 123 = .ok (.bipush 77, 2) := by decide +kernel
theorem dX6_drawn_125 : decode cX6_drawn 125 = .ok (.iaload, 1) := by decide +kernel
theorem dX6_drawn_126 : decode cX6_drawn 126 = .ok (.aload_n 0, 1) := by decide +kernel
theorem dX6_drawn_127 : decode cX6_drawn 127 = .ok (.getfield 23, 3) := by decide +kernel
theorem dX6_drawn_130 : decode cX6_drawn 130 = .ok (.bipush 77, 2) := by decide +kernel
theorem dX6_drawn_132 : decode cX6_drawn 132 = .ok (.iaload, 1) := by decide +kernel
theorem dX6_drawn_133 : decode cX6_drawn 133 = .ok (.isub, 1) := by decide +kernel
theorem dX6_drawn_134 : decode cX6_drawn 134 = .ok (.ireturn, 1) := by decide +kernel
theorem dX6_keep_0 : decode cX6_keep 0 = .ok (.aload_n 0, 1) := by decide +kernel
theorem dX6_keep_1 : decode cX6_keep 1 = .ok (.iconst 0, 1) := by decide +kernel
theorem dX6_keep_2 : decode cX6_keep 2 = .ok (.putfield 48, 3) := by decide +kernel
theorem dX6_keep_5 : decode cX6_keep 5 = .ok (.iload_n 1, 1) := by decide +kernel
theorem dX6_keep_6 : decode cX6_keep 6 = .ok (.i2l, 1) := by decide +kernel
theorem dX6_keep_7 : decode cX6_keep 7 = .ok (.lconst 0, 1) := by decide +kernel
theorem dX6_keep_8 : decode cX6_keep 8 = .ok (.lconst 1, 1) := by decide +kernel
theorem dX6_keep_9 : decode cX6_keep 9 = .ok (.invokestatic 58, 3) := by decide +kernel
theorem dX6_keep_12 : decode cX6_keep 12 = .ok (.ifCond .ne 5, 3) := by decide +kernel
theorem dX6_keep_15 : decode cX6_keep 15 = .ok (.iconst (-1), 1) := by decide +kernel
theorem dX6_keep_16 : decode cX6_keep 16 = .ok (.ireturn, 1) := by decide +kernel
theorem dX6_keep_17 : decode cX6_keep 17 = .ok (.aload_n 0, 1) := by decide +kernel
theorem dX6_keep_18 : decode cX6_keep 18 = .ok (.getfield 35, 3) := by decide +kernel
theorem dX6_keep_21 : decode cX6_keep 21 = .ok (.iload_n 1, 1) := by decide +kernel
theorem dX6_keep_22 : decode cX6_keep 22 = .ok (.iconst 1, 1) := by decide +kernel
theorem dX6_keep_23 : decode cX6_keep 23 = .ok (.bastore, 1) := by decide +kernel
theorem dX6_keep_24 : decode cX6_keep 24 = .ok (.iconst 0, 1) := by decide +kernel
theorem dX6_keep_25 : decode cX6_keep 25 = .ok (.istore_n 2, 1) := by decide +kernel
theorem dX6_keep_26 : decode cX6_keep 26 = .ok (.iload_n 2, 1) := by decide +kernel
theorem dX6_keep_27 : decode cX6_keep 27 = .ok (.bipush 79, 2) := by decide +kernel
theorem dX6_keep_29 : decode cX6_keep 29 = .ok (.if_icmp .ge 26, 3) := by decide +kernel
theorem dX6_keep_32 : decode cX6_keep 32 = .ok (.aload_n 0, 1) := by decide +kernel
theorem dX6_keep_33 : decode cX6_keep 33 = .ok (.getfield 32, 3) := by decide +kernel
theorem dX6_keep_36 : decode cX6_keep 36 = .ok (.bipush 79, 2) := by decide +kernel
theorem dX6_keep_38 : decode cX6_keep 38 = .ok (.iload_n 1, 1) := by decide +kernel
theorem dX6_keep_39 : decode cX6_keep 39 = .ok (.imul, 1) := by decide +kernel
theorem dX6_keep_40 : decode cX6_keep 40 = .ok (.iload_n 2, 1) := by decide +kernel
theorem dX6_keep_41 : decode cX6_keep 41 = .ok (.iadd, 1) := by decide +kernel
theorem dX6_keep_42 : decode cX6_keep 42 = .ok (.aload_n 0, 1) := by decide +kernel
theorem dX6_keep_43 : decode cX6_keep 43 = .ok (.getfield 23, 3) := by decide +kernel
theorem dX6_keep_46 : decode cX6_keep 46 = .ok (.iload_n 2, 1) := by decide +kernel
theorem dX6_keep_47 : decode cX6_keep 47 = .ok (.iaload, 1) := by decide +kernel
theorem dX6_keep_48 : decode cX6_keep 48 = .ok (.iastore, 1) := by decide +kernel
theorem dX6_keep_49 : decode cX6_keep 49 = .ok (.iinc 2 1, 3) := by decide +kernel
theorem dX6_keep_52 : decode cX6_keep 52 = .ok (.goto (-26), 3) := by decide +kernel
theorem dX6_keep_55 : decode cX6_keep 55 = .ok (.aload_n 0, 1) := by decide +kernel
theorem dX6_keep_56 : decode cX6_keep 56 = .ok (.getfield 23, 3) := by decide +kernel
theorem dX6_keep_59 : decode cX6_keep 59 = .ok (.bipush 78, 2) := by decide +kernel
theorem dX6_keep_61 : decode cX6_keep 61 = .ok (.iaload, 1) := by decide +kernel
theorem dX6_keep_62 : decode cX6_keep 62 = .ok (.ireturn, 1) := by decide +kernel
theorem dX6_again_0 : decode cX6_again 0 = .ok (.aload_n 0, 1) := by decide +kernel
theorem dX6_again_1 : decode cX6_again 1 = .ok (.iconst 0, 1) := by decide +kernel
theorem dX6_again_2 : decode cX6_again 2 = .ok (.putfield 48, 3) := by decide +kernel
theorem dX6_again_5 : decode cX6_again 5 = .ok (.iload_n 1, 1) := by decide +kernel
theorem dX6_again_6 : decode cX6_again 6 = .ok (.i2l, 1) := by decide +kernel
theorem dX6_again_7 : decode cX6_again 7 = .ok (.lconst 0, 1) := by decide +kernel
theorem dX6_again_8 : decode cX6_again 8 = .ok (.lconst 1, 1) := by decide +kernel
theorem dX6_again_9 : decode cX6_again 9 = .ok (.invokestatic 58, 3) := by decide +kernel
theorem dX6_again_12 : decode cX6_again 12 = .ok (.ifCond .ne 5, 3) := by decide +kernel
theorem dX6_again_15 : decode cX6_again 15 = .ok (.iconst (-1), 1) := by decide +kernel
theorem dX6_again_16 : decode cX6_again 16 = .ok (.ireturn, 1) := by decide +kernel
theorem dX6_again_17 : decode cX6_again 17 = .ok (.aload_n 0, 1) := by decide +kernel
theorem dX6_again_18 : decode cX6_again 18 = .ok (.getfield 35, 3) := by decide +kernel
theorem dX6_again_21 : decode cX6_again 21 = .ok (.iload_n 1, 1) := by decide +kernel
theorem dX6_again_22 : decode cX6_again 22 = .ok (.baload, 1) := by decide +kernel
theorem dX6_again_23 : decode cX6_again 23 = .ok (.ifCond .ne 6, 3) := by decide +kernel
theorem dX6_again_26 : decode cX6_again 26 = .ok (.bipush (-3), 2) := by decide +kernel
theorem dX6_again_28 : decode cX6_again 28 = .ok (.ireturn, 1) := by decide +kernel
theorem dX6_again_29 : decode cX6_again 29 = .ok (.iconst 0, 1) := by decide +kernel
theorem dX6_again_30 : decode cX6_again 30 = .ok (.istore_n 2, 1) := by decide +kernel
theorem dX6_again_31 : decode cX6_again 31 = .ok (.iload_n 2, 1) := by decide +kernel
theorem dX6_again_32 : decode cX6_again 32 = .ok (.bipush 79, 2) := by decide +kernel
theorem dX6_again_34 : decode cX6_again 34 = .ok (.if_icmp .ge 26, 3) := by decide +kernel
theorem dX6_again_37 : decode cX6_again 37 = .ok (.aload_n 0, 1) := by decide +kernel
theorem dX6_again_38 : decode cX6_again 38 = .ok (.getfield 23, 3) := by decide +kernel
theorem dX6_again_41 : decode cX6_again 41 = .ok (.iload_n 2, 1) := by decide +kernel
theorem dX6_again_42 : decode cX6_again 42 = .ok (.aload_n 0, 1) := by decide +kernel
theorem dX6_again_43 : decode cX6_again 43 = .ok (.getfield 32, 3) := by decide +kernel
theorem dX6_again_46 : decode cX6_again 46 = .ok (.bipush 79, 2) := by decide +kernel
theorem dX6_again_48 : decode cX6_again 48 = .ok (.iload_n 1, 1) := by decide +kernel
theorem dX6_again_49 : decode cX6_again 49 = .ok (.imul, 1) := by decide +kernel
theorem dX6_again_50 : decode cX6_again 50 = .ok (.iload_n 2, 1) := by decide +kernel
theorem dX6_again_51 : decode cX6_again 51 = .ok (.iadd, 1) := by decide +kernel
theorem dX6_again_52 : decode cX6_again 52 = .ok (.iaload, 1) := by decide +kernel
theorem dX6_again_53 : decode cX6_again 53 = .ok (.iastore, 1) := by decide +kernel
theorem dX6_again_54 : decode cX6_again 54 = .ok (.iinc 2 1, 3) := by decide +kernel
theorem dX6_again_57 : decode cX6_again 57 = .ok (.goto (-26), 3) := by decide +kernel
theorem dX6_again_60 : decode cX6_again 60 = .ok (.aload_n 0, 1) := by decide +kernel
theorem dX6_again_61 : decode cX6_again 61 = .ok (.iconst 0, 1) := by decide +kernel
theorem dX6_again_62 : decode cX6_again 62 = .ok (.putfield 99, 3) := by decide +kernel
theorem dX6_again_65 : decode cX6_again 65 = .ok (.aload_n 0, 1) := by decide +kernel
theorem dX6_again_66 : decode cX6_again 66 = .ok (.getfield 23, 3) := by decide +kernel
theorem dX6_again_69 : decode cX6_again 69 = .ok (.bipush 78, 2) := by decide +kernel
theorem dX6_again_71 : decode cX6_again 71 = .ok (.iaload, 1) := by decide +kernel
theorem dX6_again_72 : decode cX6_again 72 = .ok (.ireturn, 1) := by decide +kernel
theorem dX6_count_0 : decode cX6_count 0 = .ok (.aload_n 0, 1) := by decide +kernel
theorem dX6_count_1 : decode cX6_count 1 = .ok (.iconst 0, 1) := by decide +kernel
theorem dX6_count_2 : decode cX6_count 2 = .ok (.putfield 48, 3) := by decide +kernel
theorem dX6_count_5 : decode cX6_count 5 = .ok (.iload_n 1, 1) := by decide +kernel
theorem dX6_count_6 : decode cX6_count 6 = .ok (.tableswitch 178 0 14 #[74, 79, 84, 89, 94, 94, 106, 114, 122, 130, 138, 148, 158, 168, 173], 74) := by decide +kernel
theorem dX6_count_80 : decode cX6_count 80 = .ok (.aload_n 0, 1) := by decide +kernel
theorem dX6_count_81 : decode cX6_count 81 = .ok (.getfield 64, 3) := by decide +kernel
theorem dX6_count_84 : decode cX6_count 84 = .ok (.ireturn, 1) := by decide +kernel
theorem dX6_count_85 : decode cX6_count 85 = .ok (.aload_n 0, 1) := by decide +kernel
theorem dX6_count_86 : decode cX6_count 86 = .ok (.getfield 13, 3) := by decide +kernel
theorem dX6_count_89 : decode cX6_count 89 = .ok (.ireturn, 1) := by decide +kernel
theorem dX6_count_90 : decode cX6_count 90 = .ok (.aload_n 0, 1) := by decide +kernel
theorem dX6_count_91 : decode cX6_count 91 = .ok (.getfield 51, 3) := by decide +kernel
theorem dX6_count_94 : decode cX6_count 94 = .ok (.ireturn, 1) := by decide +kernel
theorem dX6_count_95 : decode cX6_count 95 = .ok (.aload_n 0, 1) := by decide +kernel
theorem dX6_count_96 : decode cX6_count 96 = .ok (.getfield 17, 3) := by decide +kernel
theorem dX6_count_99 : decode cX6_count 99 = .ok (.ireturn, 1) := by decide +kernel
theorem dX6_count_100 : decode cX6_count 100 = .ok (.aload_n 0, 1) := by decide +kernel
theorem dX6_count_101 : decode cX6_count 101 = .ok (.getfield 23, 3) := by decide +kernel
theorem dX6_count_104 : decode cX6_count 104 = .ok (.bipush 73, 2) := by decide +kernel
theorem dX6_count_106 : decode cX6_count 106 = .ok (.iload_n 1, 1) := by decide +kernel
theorem dX6_count_107 : decode cX6_count 107 = .ok (.iadd, 1) := by decide +kernel
theorem dX6_count_108 : decode cX6_count 108 = .ok (.iconst 4, 1) := by decide +kernel
theorem dX6_count_109 : decode cX6_count 109 = .ok (.isub, 1) := by decide +kernel
theorem dX6_count_110 : decode cX6_count 110 = .ok (.iaload, 1) := by decide +kernel
theorem dX6_count_111 : decode cX6_count 111 = .ok (.ireturn, 1) := by decide +kernel
theorem dX6_count_112 : decode cX6_count 112 = .ok (.aload_n 0, 1) := by decide +kernel
theorem dX6_count_113 : decode cX6_count 113 = .ok (.getfield 23, 3) := by decide +kernel
theorem dX6_count_116 : decode cX6_count 116 = .ok (.bipush 72, 2) := by decide +kernel
theorem dX6_count_118 : decode cX6_count 118 = .ok (.iaload, 1) := by decide +kernel
theorem dX6_count_119 : decode cX6_count 119 = .ok (.ireturn, 1) := by decide +kernel
theorem dX6_count_120 : decode cX6_count 120 = .ok (.aload_n 0, 1) := by decide +kernel
theorem dX6_count_121 : decode cX6_count 121 = .ok (.getfield 23, 3) := by decide +kernel
theorem dX6_count_124 : decode cX6_count 124 = .ok (.bipush 78, 2) := by decide +kernel
theorem dX6_count_126 : decode cX6_count 126 = .ok (.iaload, 1) := by decide +kernel
theorem dX6_count_127 : decode cX6_count 127 = .ok (.ireturn, 1) := by decide +kernel
theorem dX6_count_128 : decode cX6_count 128 = .ok (.aload_n 0, 1) := by decide +kernel
theorem dX6_count_129 : decode cX6_count 129 = .ok (.getfield 23, 3) := by decide +kernel
theorem dX6_count_132 : decode cX6_count 132 = .ok (.bipush 76, 2) := by decide +kernel
theorem dX6_count_134 : decode cX6_count 134 = .ok (.iaload, 1) := by decide +kernel
theorem dX6_count_135 : decode cX6_count 135 = .ok (.ireturn, 1) := by decide +kernel
theorem dX6_count_136 : decode cX6_count 136 = .ok (.aload_n 0, 1) := by decide +kernel
theorem dX6_count_137 : decode cX6_count 137 = .ok (.getfield 23, 3) := by decide +kernel
theorem dX6_count_140 : decode cX6_count 140 = .ok (.bipush 77, 2) := by decide +kernel
theorem dX6_count_142 : decode cX6_count 142 = .ok (.iaload, 1) := by decide +kernel
theorem dX6_count_143 : decode cX6_count 143 = .ok (.ireturn, 1) := by decide +kernel
theorem dX6_count_144 : decode cX6_count 144 = .ok (.aload_n 0, 1) := by decide +kernel
theorem dX6_count_145 : decode cX6_count 145 = .ok (.aload_n 0, 1) := by decide +kernel
theorem dX6_count_146 : decode cX6_count 146 = .ok (.getfield 23, 3) := by decide +kernel
theorem dX6_count_149 : decode cX6_count 149 = .ok (.iconst 0, 1) := by decide +kernel
theorem dX6_count_150 : decode cX6_count 150 = .ok (.invokevirtual 183, 3) := by decide +kernel
theorem dX6_count_153 : decode cX6_count 153 = .ok (.ireturn, 1) := by decide +kernel
theorem dX6_count_154 : decode cX6_count 154 = .ok (.aload_n 0, 1) := by decide +kernel
theorem dX6_count_155 : decode cX6_count 155 = .ok (.aload_n 0, 1) := by decide +kernel
theorem dX6_count_156 : decode cX6_count 156 = .ok (.getfield 23, 3) := by decide +kernel
theorem dX6_count_159 : decode cX6_count 159 = .ok (.iconst 2, 1) := by decide +kernel
theorem dX6_count_160 : decode cX6_count 160 = .ok (.invokevirtual 183, 3) := by decide +kernel
theorem dX6_count_163 : decode cX6_count 163 = .ok (.ireturn, 1) := by decide +kernel
theorem dX6_count_164 : decode cX6_count 164 = .ok (.aload_n 0, 1) := by decide +kernel
theorem dX6_count_165 : decode cX6_count 165 = .ok (.aload_n 0, 1) := by decide +kernel
theorem dX6_count_166 : decode cX6_count 166 = .ok (.getfield 23, 3) := by decide +kernel
theorem dX6_count_169 : decode cX6_count 169 = .ok (.iconst 3, 1) := by decide +kernel
theorem dX6_count_170 : decode cX6_count 170 = .ok (.invokevirtual 183, 3) := by decide +kernel
theorem dX6_count_173 : decode cX6_count 173 = .ok (.ireturn, 1) := by decide +kernel
theorem dX6_count_174 : decode cX6_count 174 = .ok (.aload_n 0, 1) := by decide +kernel
theorem dX6_count_175 : decode cX6_count 175 = .ok (.getfield 99, 3) := by decide +kernel
theorem dX6_count_178 : decode cX6_count 178 = .ok (.ireturn, 1) := by decide +kernel
theorem dX6_count_179 : decode cX6_count 179 = .ok (.aload_n 0, 1) := by decide +kernel
theorem dX6_count_180 : decode cX6_count 180 = .ok (.getfield 223, 3) := by decide +kernel
theorem dX6_count_183 : decode cX6_count 183 = .ok (.ireturn, 1) := by decide +kernel
theorem dX6_count_184 : decode cX6_count 184 = .ok (.bipush (-2), 2) := by decide +kernel
theorem dX6_count_186 : decode cX6_count 186 = .ok (.ireturn, 1) := by decide +kernel
theorem dJ6_bitCount_0f7a4_0 : decode cJ6_bitCount_0f7a4 0 = .ok (.iload_n 0, 1) := by decide +kernel
theorem dJ6_bitCount_0f7a4_1 : decode cJ6_bitCount_0f7a4 1 = .ok (.iload_n 0, 1) := by decide +kernel
theorem dJ6_bitCount_0f7a4_2 : decode cJ6_bitCount_0f7a4 2 = .ok (.iconst 1, 1) := by decide +kernel
theorem dJ6_bitCount_0f7a4_3 : decode cJ6_bitCount_0f7a4 3 = .ok (.iushr, 1) := by decide +kernel
theorem dJ6_bitCount_0f7a4_4 : decode cJ6_bitCount_0f7a4 4 = .ok (.ldc_w 265, 3) := by decide +kernel
theorem dJ6_bitCount_0f7a4_7 : decode cJ6_bitCount_0f7a4 7 = .ok (.iand, 1) := by decide +kernel
theorem dJ6_bitCount_0f7a4_8 : decode cJ6_bitCount_0f7a4 8 = .ok (.isub, 1) := by decide +kernel
theorem dJ6_bitCount_0f7a4_9 : decode cJ6_bitCount_0f7a4 9 = .ok (.istore_n 0, 1) := by decide +kernel
theorem dJ6_bitCount_0f7a4_10 : decode cJ6_bitCount_0f7a4 10 = .ok (.iload_n 0, 1) := by decide +kernel
theorem dJ6_bitCount_0f7a4_11 : decode cJ6_bitCount_0f7a4 11 = .ok (.ldc_w 266, 3) := by decide +kernel
theorem dJ6_bitCount_0f7a4_14 : decode cJ6_bitCount_0f7a4 14 = .ok (.iand, 1) := by decide +kernel
theorem dJ6_bitCount_0f7a4_15 : decode cJ6_bitCount_0f7a4 15 = .ok (.iload_n 0, 1) := by decide +kernel
theorem dJ6_bitCount_0f7a4_16 : decode cJ6_bitCount_0f7a4 16 = .ok (.iconst 2, 1) := by decide +kernel
theorem dJ6_bitCount_0f7a4_17 : decode cJ6_bitCount_0f7a4 17 = .ok (.iushr, 1) := by decide +kernel
theorem dJ6_bitCount_0f7a4_18 : decode cJ6_bitCount_0f7a4 18 = .ok (.ldc_w 266, 3) := by decide +kernel
theorem dJ6_bitCount_0f7a4_21 : decode cJ6_bitCount_0f7a4 21 = .ok (.iand, 1) := by decide +kernel
theorem dJ6_bitCount_0f7a4_22 : decode cJ6_bitCount_0f7a4 22 = .ok (.iadd, 1) := by decide +kernel
theorem dJ6_bitCount_0f7a4_23 : decode cJ6_bitCount_0f7a4 23 = .ok (.istore_n 0, 1) := by decide +kernel
theorem dJ6_bitCount_0f7a4_24 : decode cJ6_bitCount_0f7a4 24 = .ok (.iload_n 0, 1) := by decide +kernel
theorem dJ6_bitCount_0f7a4_25 : decode cJ6_bitCount_0f7a4 25 = .ok (.iload_n 0, 1) := by decide +kernel
theorem dJ6_bitCount_0f7a4_26 : decode cJ6_bitCount_0f7a4 26 = .ok (.iconst 4, 1) := by decide +kernel
theorem dJ6_bitCount_0f7a4_27 : decode cJ6_bitCount_0f7a4 27 = .ok (.iushr, 1) := by decide +kernel
theorem dJ6_bitCount_0f7a4_28 : decode cJ6_bitCount_0f7a4 28 = .ok (.iadd, 1) := by decide +kernel
theorem dJ6_bitCount_0f7a4_29 : decode cJ6_bitCount_0f7a4 29 = .ok (.ldc_w 267, 3) := by decide +kernel
theorem dJ6_bitCount_0f7a4_32 : decode cJ6_bitCount_0f7a4 32 = .ok (.iand, 1) := by decide +kernel
theorem dJ6_bitCount_0f7a4_33 : decode cJ6_bitCount_0f7a4 33 = .ok (.istore_n 0, 1) := by decide +kernel
theorem dJ6_bitCount_0f7a4_34 : decode cJ6_bitCount_0f7a4 34 = .ok (.iload_n 0, 1) := by decide +kernel
theorem dJ6_bitCount_0f7a4_35 : decode cJ6_bitCount_0f7a4 35 = .ok (.iload_n 0, 1) := by decide +kernel
theorem dJ6_bitCount_0f7a4_36 : decode cJ6_bitCount_0f7a4 36 = .ok (.bipush 8, 2) := by decide +kernel
theorem dJ6_bitCount_0f7a4_38 : decode cJ6_bitCount_0f7a4 38 = .ok (.iushr, 1) := by decide +kernel
theorem dJ6_bitCount_0f7a4_39 : decode cJ6_bitCount_0f7a4 39 = .ok (.iadd, 1) := by decide +kernel
theorem dJ6_bitCount_0f7a4_40 : decode cJ6_bitCount_0f7a4 40 = .ok (.istore_n 0, 1) := by decide +kernel
theorem dJ6_bitCount_0f7a4_41 : decode cJ6_bitCount_0f7a4 41 = .ok (.iload_n 0, 1) := by decide +kernel
theorem dJ6_bitCount_0f7a4_42 : decode cJ6_bitCount_0f7a4 42 = .ok (.iload_n 0, 1) := by decide +kernel
theorem dJ6_bitCount_0f7a4_43 : decode cJ6_bitCount_0f7a4 43 = .ok (.bipush 16, 2) := by decide +kernel
theorem dJ6_bitCount_0f7a4_45 : decode cJ6_bitCount_0f7a4 45 = .ok (.iushr, 1) := by decide +kernel
theorem dJ6_bitCount_0f7a4_46 : decode cJ6_bitCount_0f7a4 46 = .ok (.iadd, 1) := by decide +kernel
theorem dJ6_bitCount_0f7a4_47 : decode cJ6_bitCount_0f7a4 47 = .ok (.istore_n 0, 1) := by decide +kernel
theorem dJ6_bitCount_0f7a4_48 : decode cJ6_bitCount_0f7a4 48 = .ok (.iload_n 0, 1) := by decide +kernel
theorem dJ6_bitCount_0f7a4_49 : decode cJ6_bitCount_0f7a4 49 = .ok (.bipush 63, 2) := by decide +kernel
theorem dJ6_bitCount_0f7a4_51 : decode cJ6_bitCount_0f7a4 51 = .ok (.iand, 1) := by decide +kernel
theorem dJ6_bitCount_0f7a4_52 : decode cJ6_bitCount_0f7a4 52 = .ok (.ireturn, 1) := by decide +kernel
theorem dJ9_abs_0f7a4_0 : decode cJ9_abs_0f7a4 0 = .ok (.iload_n 0, 1) := by decide +kernel
theorem dJ9_abs_0f7a4_1 : decode cJ9_abs_0f7a4 1 = .ok (.ifCond .ge 8, 3) := by decide +kernel
theorem dJ9_abs_0f7a4_4 : decode cJ9_abs_0f7a4 4 = .ok (.iload_n 0, 1) := by decide +kernel
theorem dJ9_abs_0f7a4_5 : decode cJ9_abs_0f7a4 5 = .ok (.ineg, 1) := by decide +kernel
theorem dJ9_abs_0f7a4_6 : decode cJ9_abs_0f7a4 6 = .ok (.goto 4, 3) := by decide +kernel
theorem dJ9_abs_0f7a4_9 : decode cJ9_abs_0f7a4 9 = .ok (.iload_n 0, 1) := by decide +kernel
theorem dJ9_abs_0f7a4_10 : decode cJ9_abs_0f7a4 10 = .ok (.ireturn, 1) := by decide +kernel
theorem dJ9_max_7cf53_0 : decode cJ9_max_7cf53 0 = .ok (.iload_n 0, 1) := by decide +kernel
theorem dJ9_max_7cf53_1 : decode cJ9_max_7cf53 1 = .ok (.iload_n 1, 1) := by decide +kernel
theorem dJ9_max_7cf53_2 : decode cJ9_max_7cf53 2 = .ok (.if_icmp .lt 7, 3) := by decide +kernel
theorem dJ9_max_7cf53_5 : decode cJ9_max_7cf53 5 = .ok (.iload_n 0, 1) := by decide +kernel
theorem dJ9_max_7cf53_6 : decode cJ9_max_7cf53 6 = .ok (.goto 4, 3) := by decide +kernel
theorem dJ9_max_7cf53_9 : decode cJ9_max_7cf53 9 = .ok (.iload_n 1, 1) := by decide +kernel
theorem dJ9_max_7cf53_10 : decode cJ9_max_7cf53 10 = .ok (.ireturn, 1) := by decide +kernel
theorem dJ9_min_7cf53_0 : decode cJ9_min_7cf53 0 = .ok (.iload_n 0, 1) := by decide +kernel
theorem dJ9_min_7cf53_1 : decode cJ9_min_7cf53 1 = .ok (.iload_n 1, 1) := by decide +kernel
theorem dJ9_min_7cf53_2 : decode cJ9_min_7cf53 2 = .ok (.if_icmp .gt 7, 3) := by decide +kernel
theorem dJ9_min_7cf53_5 : decode cJ9_min_7cf53 5 = .ok (.iload_n 0, 1) := by decide +kernel
theorem dJ9_min_7cf53_6 : decode cJ9_min_7cf53 6 = .ok (.goto 4, 3) := by decide +kernel
theorem dJ9_min_7cf53_9 : decode cJ9_min_7cf53 9 = .ok (.iload_n 1, 1) := by decide +kernel
theorem dJ9_min_7cf53_10 : decode cJ9_min_7cf53 10 = .ok (.ireturn, 1) := by decide +kernel
theorem dL_law_0 : decode cL_law 0 = .ok (.new 7, 3) := by decide +kernel
theorem dL_law_3 : decode cL_law 3 = .ok (.dup, 1) := by decide +kernel
theorem dL_law_4 : decode cL_law 4 = .ok (.invokespecial 9, 3) := by decide +kernel
theorem dL_law_7 : decode cL_law 7 = .ok (.astore_n 1, 1) := by decide +kernel
theorem dL_law_8 : decode cL_law 8 = .ok (.new 10, 3) := by decide +kernel
theorem dL_law_11 : decode cL_law 11 = .ok (.dup, 1) := by decide +kernel
theorem dL_law_12 : decode cL_law 12 = .ok (.invokespecial 12, 3) := by decide +kernel
theorem dL_law_15 : decode cL_law 15 = .ok (.astore_n 2, 1) := by decide +kernel
theorem dL_law_16 : decode cL_law 16 = .ok (.iconst 0, 1) := by decide +kernel
theorem dL_law_17 : decode cL_law 17 = .ok (.istore_n 3, 1) := by decide +kernel
theorem dL_law_18 : decode cL_law 18 = .ok (.iload_n 3, 1) := by decide +kernel
theorem dL_law_19 : decode cL_law 19 = .ok (.aload_n 0, 1) := by decide +kernel
theorem dL_law_20 : decode cL_law 20 = .ok (.arraylength, 1) := by decide +kernel
theorem dL_law_21 : decode cL_law 21 = .ok (.iconst 4, 1) := by decide +kernel
theorem dL_law_22 : decode cL_law 22 = .ok (.isub, 1) := by decide +kernel
theorem dL_law_23 : decode cL_law 23 = .ok (.if_icmp .gt 893, 3) := by decide +kernel
theorem dL_law_26 : decode cL_law 26 = .ok (.aload_n 0, 1) := by decide +kernel
theorem dL_law_27 : decode cL_law 27 = .ok (.iload_n 3, 1) := by decide +kernel
theorem dL_law_28 : decode cL_law 28 = .ok (.iaload, 1) := by decide +kernel
theorem dL_law_29 : decode cL_law 29 = .ok (.bipush 31, 2) := by decide +kernel
theorem dL_law_31 : decode cL_law 31 = .ok (.iand, 1) := by decide +kernel
theorem dL_law_32 : decode cL_law 32 = .ok (.tableswitch 878 0 26 #[124, 147, 160, 173, 186, 219, 242, 265, 278, 311, 344, 367, 390, 403, 446, 469, 492, 555, 598, 611, 624, 673, 732, 786, 809, 832, 855], 124) := by decide +kernel
theorem dL_law_156 : decode cL_law 156 = .ok (.aload_n 1, 1) := by decide +kernel
theorem dL_law_157 : decode cL_law 157 = .ok (.aload_n 0, 1) := by decide +kernel
theorem dL_law_158 : decode cL_law 158 = .ok (.iload_n 3, 1) := by decide +kernel
theorem dL_law_159 : decode cL_law 159 = .ok (.iconst 1, 1) := by decide +kernel
theorem dL_law_160 : decode cL_law 160 = .ok (.iadd, 1) := by decide +kernel
theorem dL_law_161 : decode cL_law 161 = .ok (.iaload, 1) := by decide +kernel
theorem dL_law_162 : decode cL_law 162 = .ok (.invokevirtual 13, 3) := by decide +kernel
theorem dL_law_165 : decode cL_law 165 = .ok (.aload_n 2, 1) := by decide +kernel
theorem dL_law_166 : decode cL_law 166 = .ok (.aload_n 0, 1) := by decide +kernel
theorem dL_law_167 : decode cL_law 167 = .ok (.iload_n 3, 1) := by decide +kernel
theorem dL_law_168 : decode cL_law 168 = .ok (.iconst 1, 1) := by decide +kernel
theorem dL_law_169 : decode cL_law 169 = .ok (.iadd, 1) := by decide +kernel
theorem dL_law_170 : decode cL_law 170 = .ok (.iaload, 1) := by decide +kernel
theorem dL_law_171 : decode cL_law 171 = .ok (.invokevirtual 17, 3) := by decide +kernel
theorem dL_law_174 : decode cL_law 174 = .ok (.if_icmp .eq 736, 3) := by decide +kernel
theorem dL_law_177 : decode cL_law 177 = .ok (.iconst 0, 1) := by decide +kernel
theorem dL_law_178 : decode cL_law 178 = .ok (.ireturn, 1) := by decide +kernel
theorem dL_law_179 : decode cL_law 179 = .ok (.aload_n 1, 1) := by decide +kernel
theorem dL_law_180 : decode cL_law 180 = .ok (.invokevirtual 18, 3) := by decide +kernel
theorem dL_law_183 : decode cL_law 183 = .ok (.aload_n 2, 1) := by decide +kernel
theorem dL_law_184 : decode cL_law 184 = .ok (.invokevirtual 22, 3) := by decide +kernel
theorem dL_law_187 : decode cL_law 187 = .ok (.if_icmp .eq 723, 3) := by decide +kernel
theorem dL_law_190 : decode cL_law 190 = .ok (.iconst 0, 1) := by decide +kernel
theorem dL_law_191 : decode cL_law 191 = .ok (.ireturn, 1) := by decide +kernel
theorem dL_law_192 : decode cL_law 192 = .ok (.aload_n 1, 1) := by decide +kernel
theorem dL_law_193 : decode cL_law 193 = .ok (.invokevirtual 23, 3) := by decide +kernel
theorem dL_law_196 : decode cL_law 196 = .ok (.aload_n 2, 1) := by decide +kernel
theorem dL_law_197 : decode cL_law 197 = .ok (.invokevirtual 26, 3) := by decide +kernel
theorem dL_law_200 : decode cL_law 200 = .ok (.if_icmp .eq 710, 3) := by decide +kernel
theorem dL_law_203 : decode cL_law 203 = .ok (.iconst 0, 1) := by decide +kernel
theorem dL_law_204 : decode cL_law 204 = .ok (.ireturn, 1) := by decide +kernel
theorem dL_law_205 : decode cL_law 205 = .ok (.aload_n 1, 1) := by decide +kernel
theorem dL_law_206 : decode cL_law 206 = .ok (.invokevirtual 27, 3) := by decide +kernel
theorem dL_law_209 : decode cL_law 209 = .ok (.aload_n 2, 1) := by decide +kernel
theorem dL_law_210 : decode cL_law 210 = .ok (.invokevirtual 30, 3) := by decide +kernel
theorem dL_law_213 : decode cL_law 213 = .ok (.if_icmp .eq 697, 3) := by decide +kernel
theorem dL_law_216 : decode cL_law 216 = .ok (.iconst 0, 1) := by decide +kernel
theorem dL_law_217 : decode cL_law 217 = .ok (.ireturn, 1) := by decide +kernel
theorem dL_law_218 : decode cL_law 218 = .ok (.aload_n 1, 1) := by decide +kernel
theorem dL_law_219 : decode cL_law 219 = .ok (.aload_n 0, 1) := by decide +kernel
theorem dL_law_220 : decode cL_law 220 = .ok (.iload_n 3, 1) := by decide +kernel
theorem dL_law_221 : decode cL_law 221 = .ok (.iconst 1, 1) := by decide +kernel
theorem dL_law_222 : decode cL_law 222 = .ok (.iadd, 1) := by decide +kernel
theorem dL_law_223 : decode cL_law 223 = .ok (.iaload, 1) := by decide +kernel
theorem dL_law_224 : decode cL_law 224 = .ok (.aload_n 0, 1) := by decide +kernel
theorem dL_law_225 : decode cL_law 225 = .ok (.iload_n 3, 1) := by decide +kernel
theorem dL_law_226 : decode cL_law 226 = .ok (.iconst 2, 1) := by decide +kernel
theorem dL_law_227 : decode cL_law 227 = .ok (.iadd, 1) := by decide +kernel
theorem dL_law_228 : decode cL_law 228 = .ok (.iaload, 1) := by decide +kernel
theorem dL_law_229 : decode cL_law 229 = .ok (.invokevirtual 31, 3) := by decide +kernel
theorem dL_law_232 : decode cL_law 232 = .ok (.aload_n 2, 1) := by decide +kernel
theorem dL_law_233 : decode cL_law 233 = .ok (.aload_n 0, 1) := by decide +kernel
theorem dL_law_234 : decode cL_law 234 = .ok (.iload_n 3, 1) := by decide +kernel
theorem dL_law_235 : decode cL_law 235 = .ok (.iconst 1, 1) := by decide +kernel
theorem dL_law_236 : decode cL_law 236 = .ok (.iadd, 1) := by decide +kernel
theorem dL_law_237 : decode cL_law 237 = .ok (.iaload, 1) := by decide +kernel
theorem dL_law_238 : decode cL_law 238 = .ok (.aload_n 0, 1) := by decide +kernel
theorem dL_law_239 : decode cL_law 239 = .ok (.iload_n 3, 1) := by decide +kernel
theorem dL_law_240 : decode cL_law 240 = .ok (.iconst 2, 1) := by decide +kernel
theorem dL_law_241 : decode cL_law 241 = .ok (.iadd, 1) := by decide +kernel
theorem dL_law_242 : decode cL_law 242 = .ok (.iaload, 1) := by decide +kernel
theorem dL_law_243 : decode cL_law 243 = .ok (.invokevirtual 35, 3) := by decide +kernel
theorem dL_law_246 : decode cL_law 246 = .ok (.if_icmp .eq 664, 3) := by decide +kernel
theorem dL_law_249 : decode cL_law 249 = .ok (.iconst 0, 1) := by decide +kernel
theorem dL_law_250 : decode cL_law 250 = .ok (.ireturn, 1) := by decide +kernel
theorem dL_law_251 : decode cL_law 251 = .ok (.aload_n 1, 1) := by decide +kernel
theorem dL_law_252 : decode cL_law 252 = .ok (.aload_n 0, 1) := by decide +kernel
theorem dL_law_253 : decode cL_law 253 = .ok (.iload_n 3, 1) := by decide +kernel
theorem dL_law_254 : decode cL_law 254 = .ok (.iconst 1, 1) := by decide +kernel
theorem dL_law_255 : decode cL_law 255 = .ok (.iadd, 1) := by decide +kernel
theorem dL_law_256 : decode cL_law 256 = .ok (.iaload, 1) := by decide +kernel
theorem dL_law_257 : decode cL_law 257 = .ok (.invokevirtual 36, 3) := by decide +kernel
theorem dL_law_260 : decode cL_law 260 = .ok (.aload_n 2, 1) := by decide +kernel
theorem dL_law_261 : decode cL_law 261 = .ok (.aload_n 0, 1) := by decide +kernel
theorem dL_law_262 : decode cL_law 262 = .ok (.iload_n 3, 1) := by decide +kernel
theorem dL_law_263 : decode cL_law 263 = .ok (.iconst 1, 1) := by decide +kernel
theorem dL_law_264 : decode cL_law 264 = .ok (.iadd, 1) := by decide +kernel
theorem dL_law_265 : decode cL_law 265 = .ok (.iaload, 1) := by decide +kernel
theorem dL_law_266 : decode cL_law 266 = .ok (.invokevirtual 39, 3) := by decide +kernel
theorem dL_law_269 : decode cL_law 269 = .ok (.if_icmp .eq 641, 3) := by decide +kernel
theorem dL_law_272 : decode cL_law 272 = .ok (.iconst 0, 1) := by decide +kernel
theorem dL_law_273 : decode cL_law 273 = .ok (.ireturn, 1) := by decide +kernel
theorem dL_law_274 : decode cL_law 274 = .ok (.aload_n 1, 1) := by decide +kernel
theorem dL_law_275 : decode cL_law 275 = .ok (.aload_n 0, 1) := by decide +kernel
theorem dL_law_276 : decode cL_law 276 = .ok (.iload_n 3, 1) := by decide +kernel
theorem dL_law_277 : decode cL_law 277 = .ok (.iconst 1, 1) := by decide +kernel
theorem dL_law_278 : decode cL_law 278 = .ok (.iadd, 1) := by decide +kernel
theorem dL_law_279 : decode cL_law 279 = .ok (.iaload, 1) := by decide +kernel
theorem dL_law_280 : decode cL_law 280 = .ok (.invokevirtual 40, 3) := by decide +kernel
theorem dL_law_283 : decode cL_law 283 = .ok (.aload_n 2, 1) := by decide +kernel
theorem dL_law_284 : decode cL_law 284 = .ok (.aload_n 0, 1) := by decide +kernel
theorem dL_law_285 : decode cL_law 285 = .ok (.iload_n 3, 1) := by decide +kernel
theorem dL_law_286 : decode cL_law 286 = .ok (.iconst 1, 1) := by decide +kernel
theorem dL_law_287 : decode cL_law 287 = .ok (.iadd, 1) := by decide +kernel
theorem dL_law_288 : decode cL_law 288 = .ok (.iaload, 1) := by decide +kernel
theorem dL_law_289 : decode cL_law 289 = .ok (.invokevirtual 43, 3) := by decide +kernel
theorem dL_law_292 : decode cL_law 292 = .ok (.if_icmp .eq 618, 3) := by decide +kernel
theorem dL_law_295 : decode cL_law 295 = .ok (.iconst 0, 1) := by decide +kernel
theorem dL_law_296 : decode cL_law 296 = .ok (.ireturn, 1) := by decide +kernel
theorem dL_law_297 : decode cL_law 297 = .ok (.aload_n 1, 1) := by decide +kernel
theorem dL_law_298 : decode cL_law 298 = .ok (.invokevirtual 44, 3) := by decide +kernel
theorem dL_law_301 : decode cL_law 301 = .ok (.aload_n 2, 1) := by decide +kernel
theorem dL_law_302 : decode cL_law 302 = .ok (.invokevirtual 47, 3) := by decide +kernel
theorem dL_law_305 : decode cL_law 305 = .ok (.if_icmp .eq 605, 3) := by decide +kernel
theorem dL_law_308 : decode cL_law 308 = .ok (.iconst 0, 1) := by decide +kernel
theorem dL_law_309 : decode cL_law 309 = .ok (.ireturn, 1) := by decide +kernel
theorem dL_law_310 : decode cL_law 310 = .ok (.aload_n 1, 1) := by decide +kernel
theorem dL_law_311 : decode cL_law 311 = .ok (.aload_n 0, 1) := by decide +kernel
theorem dL_law_312 : decode cL_law 312 = .ok (.iload_n 3, 1) := by decide +kernel
theorem dL_law_313 : decode cL_law 313 = .ok (.iconst 1, 1) := by decide +kernel
theorem dL_law_314 : decode cL_law 314 = .ok (.iadd, 1) := by decide +kernel
theorem dL_law_315 : decode cL_law 315 = .ok (.iaload, 1) := by decide +kernel
theorem dL_law_316 : decode cL_law 316 = .ok (.aload_n 0, 1) := by decide +kernel
theorem dL_law_317 : decode cL_law 317 = .ok (.iload_n 3, 1) := by decide +kernel
theorem dL_law_318 : decode cL_law 318 = .ok (.iconst 2, 1) := by decide +kernel
theorem dL_law_319 : decode cL_law 319 = .ok (.iadd, 1) := by decide +kernel
theorem dL_law_320 : decode cL_law 320 = .ok (.iaload, 1) := by decide +kernel
theorem dL_law_321 : decode cL_law 321 = .ok (.invokevirtual 48, 3) := by decide +kernel
theorem dL_law_324 : decode cL_law 324 = .ok (.aload_n 2, 1) := by decide +kernel
theorem dL_law_325 : decode cL_law 325 = .ok (.aload_n 0, 1) := by decide +kernel
theorem dL_law_326 : decode cL_law 326 = .ok (.iload_n 3, 1) := by decide +kernel
theorem dL_law_327 : decode cL_law 327 = .ok (.iconst 1, 1) := by decide +kernel
theorem dL_law_328 : decode cL_law 328 = .ok (.iadd, 1) := by decide +kernel
theorem dL_law_329 : decode cL_law 329 = .ok (.iaload, 1) := by decide +kernel
theorem dL_law_330 : decode cL_law 330 = .ok (.aload_n 0, 1) := by decide +kernel
theorem dL_law_331 : decode cL_law 331 = .ok (.iload_n 3, 1) := by decide +kernel
theorem dL_law_332 : decode cL_law 332 = .ok (.iconst 2, 1) := by decide +kernel
theorem dL_law_333 : decode cL_law 333 = .ok (.iadd, 1) := by decide +kernel
theorem dL_law_334 : decode cL_law 334 = .ok (.iaload, 1) := by decide +kernel
theorem dL_law_335 : decode cL_law 335 = .ok (.invokevirtual 51, 3) := by decide +kernel
theorem dL_law_338 : decode cL_law 338 = .ok (.if_icmp .eq 572, 3) := by decide +kernel
theorem dL_law_341 : decode cL_law 341 = .ok (.iconst 0, 1) := by decide +kernel
theorem dL_law_342 : decode cL_law 342 = .ok (.ireturn, 1) := by decide +kernel
theorem dL_law_343 : decode cL_law 343 = .ok (.aload_n 1, 1) := by decide +kernel
theorem dL_law_344 : decode cL_law 344 = .ok (.aload_n 0, 1) := by decide +kernel
theorem dL_law_345 : decode cL_law 345 = .ok (.iload_n 3, 1) := by decide +kernel
theorem dL_law_346 : decode cL_law 346 = .ok (.iconst 1, 1) := by decide +kernel
theorem dL_law_347 : decode cL_law 347 = .ok (.iadd, 1) := by decide +kernel
theorem dL_law_348 : decode cL_law 348 = .ok (.iaload, 1) := by decide +kernel
theorem dL_law_349 : decode cL_law 349 = .ok (.aload_n 0, 1) := by decide +kernel
theorem dL_law_350 : decode cL_law 350 = .ok (.iload_n 3, 1) := by decide +kernel
theorem dL_law_351 : decode cL_law 351 = .ok (.iconst 2, 1) := by decide +kernel
theorem dL_law_352 : decode cL_law 352 = .ok (.iadd, 1) := by decide +kernel
theorem dL_law_353 : decode cL_law 353 = .ok (.iaload, 1) := by decide +kernel
theorem dL_law_354 : decode cL_law 354 = .ok (.invokevirtual 52, 3) := by decide +kernel
theorem dL_law_357 : decode cL_law 357 = .ok (.aload_n 2, 1) := by decide +kernel
theorem dL_law_358 : decode cL_law 358 = .ok (.aload_n 0, 1) := by decide +kernel
theorem dL_law_359 : decode cL_law 359 = .ok (.iload_n 3, 1) := by decide +kernel
theorem dL_law_360 : decode cL_law 360 = .ok (.iconst 1, 1) := by decide +kernel
theorem dL_law_361 : decode cL_law 361 = .ok (.iadd, 1) := by decide +kernel
theorem dL_law_362 : decode cL_law 362 = .ok (.iaload, 1) := by decide +kernel
theorem dL_law_363 : decode cL_law 363 = .ok (.aload_n 0, 1) := by decide +kernel
theorem dL_law_364 : decode cL_law 364 = .ok (.iload_n 3, 1) := by decide +kernel
theorem dL_law_365 : decode cL_law 365 = .ok (.iconst 2, 1) := by decide +kernel
theorem dL_law_366 : decode cL_law 366 = .ok (.iadd, 1) := by decide +kernel
theorem dL_law_367 : decode cL_law 367 = .ok (.iaload, 1) := by decide +kernel
theorem dL_law_368 : decode cL_law 368 = .ok (.invokevirtual 55, 3) := by decide +kernel
theorem dL_law_371 : decode cL_law 371 = .ok (.if_icmp .eq 539, 3) := by decide +kernel
theorem dL_law_374 : decode cL_law 374 = .ok (.iconst 0, 1) := by decide +kernel
theorem dL_law_375 : decode cL_law 375 = .ok (.ireturn, 1) := by decide +kernel
theorem dL_law_376 : decode cL_law 376 = .ok (.aload_n 1, 1) := by decide +kernel
theorem dL_law_377 : decode cL_law 377 = .ok (.aload_n 0, 1) := by decide +kernel
theorem dL_law_378 : decode cL_law 378 = .ok (.iload_n 3, 1) := by decide +kernel
theorem dL_law_379 : decode cL_law 379 = .ok (.iconst 1, 1) := by decide +kernel
theorem dL_law_380 : decode cL_law 380 = .ok (.iadd, 1) := by decide +kernel
theorem dL_law_381 : decode cL_law 381 = .ok (.iaload, 1) := by decide +kernel
theorem dL_law_382 : decode cL_law 382 = .ok (.invokevirtual 56, 3) := by decide +kernel
theorem dL_law_385 : decode cL_law 385 = .ok (.aload_n 2, 1) := by decide +kernel
theorem dL_law_386 : decode cL_law 386 = .ok (.aload_n 0, 1) := by decide +kernel
theorem dL_law_387 : decode cL_law 387 = .ok (.iload_n 3, 1) := by decide +kernel
theorem dL_law_388 : decode cL_law 388 = .ok (.iconst 1, 1) := by decide +kernel
theorem dL_law_389 : decode cL_law 389 = .ok (.iadd, 1) := by decide +kernel
theorem dL_law_390 : decode cL_law 390 = .ok (.iaload, 1) := by decide +kernel
theorem dL_law_391 : decode cL_law 391 = .ok (.invokevirtual 59, 3) := by decide +kernel
theorem dL_law_394 : decode cL_law 394 = .ok (.if_icmp .eq 516, 3) := by decide +kernel
theorem dL_law_397 : decode cL_law 397 = .ok (.iconst 0, 1) := by decide +kernel
theorem dL_law_398 : decode cL_law 398 = .ok (.ireturn, 1) := by decide +kernel
theorem dL_law_399 : decode cL_law 399 = .ok (.aload_n 1, 1) := by decide +kernel
theorem dL_law_400 : decode cL_law 400 = .ok (.aload_n 0, 1) := by decide +kernel
theorem dL_law_401 : decode cL_law 401 = .ok (.iload_n 3, 1) := by decide +kernel
theorem dL_law_402 : decode cL_law 402 = .ok (.iconst 1, 1) := by decide +kernel
theorem dL_law_403 : decode cL_law 403 = .ok (.iadd, 1) := by decide +kernel
theorem dL_law_404 : decode cL_law 404 = .ok (.iaload, 1) := by decide +kernel
theorem dL_law_405 : decode cL_law 405 = .ok (.invokevirtual 60, 3) := by decide +kernel
theorem dL_law_408 : decode cL_law 408 = .ok (.aload_n 2, 1) := by decide +kernel
theorem dL_law_409 : decode cL_law 409 = .ok (.aload_n 0, 1) := by decide +kernel
theorem dL_law_410 : decode cL_law 410 = .ok (.iload_n 3, 1) := by decide +kernel
theorem dL_law_411 : decode cL_law 411 = .ok (.iconst 1, 1) := by decide +kernel
theorem dL_law_412 : decode cL_law 412 = .ok (.iadd, 1) := by decide +kernel
theorem dL_law_413 : decode cL_law 413 = .ok (.iaload, 1) := by decide +kernel
theorem dL_law_414 : decode cL_law 414 = .ok (.invokevirtual 63, 3) := by decide +kernel
theorem dL_law_417 : decode cL_law 417 = .ok (.if_icmp .eq 493, 3) := by decide +kernel
theorem dL_law_420 : decode cL_law 420 = .ok (.iconst 0, 1) := by decide +kernel
theorem dL_law_421 : decode cL_law 421 = .ok (.ireturn, 1) := by decide +kernel
theorem dL_law_422 : decode cL_law 422 = .ok (.aload_n 1, 1) := by decide +kernel
theorem dL_law_423 : decode cL_law 423 = .ok (.invokevirtual 64, 3) := by decide +kernel
theorem dL_law_426 : decode cL_law 426 = .ok (.aload_n 2, 1) := by decide +kernel
theorem dL_law_427 : decode cL_law 427 = .ok (.invokevirtual 67, 3) := by decide +kernel
theorem dL_law_430 : decode cL_law 430 = .ok (.if_icmp .eq 480, 3) := by decide +kernel
theorem dL_law_433 : decode cL_law 433 = .ok (.iconst 0, 1) := by decide +kernel
theorem dL_law_434 : decode cL_law 434 = .ok (.ireturn, 1) := by decide +kernel
theorem dL_law_435 : decode cL_law 435 = .ok (.aload_n 1, 1) := by decide +kernel
theorem dL_law_436 : decode cL_law 436 = .ok (.aload_n 0, 1) := by decide +kernel
theorem dL_law_437 : decode cL_law 437 = .ok (.iload_n 3, 1) := by decide +kernel
theorem dL_law_438 : decode cL_law 438 = .ok (.iconst 1, 1) := by decide +kernel
theorem dL_law_439 : decode cL_law 439 = .ok (.iadd, 1) := by decide +kernel
theorem dL_law_440 : decode cL_law 440 = .ok (.iaload, 1) := by decide +kernel
theorem dL_law_441 : decode cL_law 441 = .ok (.aload_n 0, 1) := by decide +kernel
theorem dL_law_442 : decode cL_law 442 = .ok (.iload_n 3, 1) := by decide +kernel
theorem dL_law_443 : decode cL_law 443 = .ok (.iconst 2, 1) := by decide +kernel
theorem dL_law_444 : decode cL_law 444 = .ok (.iadd, 1) := by decide +kernel
theorem dL_law_445 : decode cL_law 445 = .ok (.iaload, 1) := by decide +kernel
theorem dL_law_446 : decode cL_law 446 = .ok (.aload_n 0, 1) := by decide +kernel
theorem dL_law_447 : decode cL_law 447 = .ok (.iload_n 3, 1) := by decide +kernel
theorem dL_law_448 : decode cL_law 448 = .ok (.iconst 3, 1) := by decide +kernel
theorem dL_law_449 : decode cL_law 449 = .ok (.iadd, 1) := by decide +kernel
theorem dL_law_450 : decode cL_law 450 = .ok (.iaload, 1) := by decide +kernel
theorem dL_law_451 : decode cL_law 451 = .ok (.invokevirtual 68, 3) := by decide +kernel
theorem dL_law_454 : decode cL_law 454 = .ok (.aload_n 2, 1) := by decide +kernel
theorem dL_law_455 : decode cL_law 455 = .ok (.aload_n 0, 1) := by decide +kernel
theorem dL_law_456 : decode cL_law 456 = .ok (.iload_n 3, 1) := by decide +kernel
theorem dL_law_457 : decode cL_law 457 = .ok (.iconst 1, 1) := by decide +kernel
theorem dL_law_458 : decode cL_law 458 = .ok (.iadd, 1) := by decide +kernel
theorem dL_law_459 : decode cL_law 459 = .ok (.iaload, 1) := by decide +kernel
theorem dL_law_460 : decode cL_law 460 = .ok (.aload_n 0, 1) := by decide +kernel
theorem dL_law_461 : decode cL_law 461 = .ok (.iload_n 3, 1) := by decide +kernel
theorem dL_law_462 : decode cL_law 462 = .ok (.iconst 2, 1) := by decide +kernel
theorem dL_law_463 : decode cL_law 463 = .ok (.iadd, 1) := by decide +kernel
theorem dL_law_464 : decode cL_law 464 = .ok (.iaload, 1) := by decide +kernel
theorem dL_law_465 : decode cL_law 465 = .ok (.aload_n 0, 1) := by decide +kernel
theorem dL_law_466 : decode cL_law 466 = .ok (.iload_n 3, 1) := by decide +kernel
theorem dL_law_467 : decode cL_law 467 = .ok (.iconst 3, 1) := by decide +kernel
theorem dL_law_468 : decode cL_law 468 = .ok (.iadd, 1) := by decide +kernel
theorem dL_law_469 : decode cL_law 469 = .ok (.iaload, 1) := by decide +kernel
theorem dL_law_470 : decode cL_law 470 = .ok (.invokevirtual 72, 3) := by decide +kernel
theorem dL_law_473 : decode cL_law 473 = .ok (.if_icmp .eq 437, 3) := by decide +kernel
theorem dL_law_476 : decode cL_law 476 = .ok (.iconst 0, 1) := by decide +kernel
theorem dL_law_477 : decode cL_law 477 = .ok (.ireturn, 1) := by decide +kernel
theorem dL_law_478 : decode cL_law 478 = .ok (.aload_n 1, 1) := by decide +kernel
theorem dL_law_479 : decode cL_law 479 = .ok (.aload_n 0, 1) := by decide +kernel
theorem dL_law_480 : decode cL_law 480 = .ok (.iload_n 3, 1) := by decide +kernel
theorem dL_law_481 : decode cL_law 481 = .ok (.iconst 1, 1) := by decide +kernel
theorem dL_law_482 : decode cL_law 482 = .ok (.iadd, 1) := by decide +kernel
theorem dL_law_483 : decode cL_law 483 = .ok (.iaload, 1) := by decide +kernel
theorem dL_law_484 : decode cL_law 484 = .ok (.invokevirtual 73, 3) := by decide +kernel
theorem dL_law_487 : decode cL_law 487 = .ok (.aload_n 2, 1) := by decide +kernel
theorem dL_law_488 : decode cL_law 488 = .ok (.aload_n 0, 1) := by decide +kernel
theorem dL_law_489 : decode cL_law 489 = .ok (.iload_n 3, 1) := by decide +kernel
theorem dL_law_490 : decode cL_law 490 = .ok (.iconst 1, 1) := by decide +kernel
theorem dL_law_491 : decode cL_law 491 = .ok (.iadd, 1) := by decide +kernel
theorem dL_law_492 : decode cL_law 492 = .ok (.iaload, 1) := by decide +kernel
theorem dL_law_493 : decode cL_law 493 = .ok (.invokevirtual 76, 3) := by decide +kernel
theorem dL_law_496 : decode cL_law 496 = .ok (.if_icmp .eq 414, 3) := by decide +kernel
theorem dL_law_499 : decode cL_law 499 = .ok (.iconst 0, 1) := by decide +kernel
theorem dL_law_500 : decode cL_law 500 = .ok (.ireturn, 1) := by decide +kernel
theorem dL_law_501 : decode cL_law 501 = .ok (.aload_n 1, 1) := by decide +kernel
theorem dL_law_502 : decode cL_law 502 = .ok (.aload_n 0, 1) := by decide +kernel
theorem dL_law_503 : decode cL_law 503 = .ok (.iload_n 3, 1) := by decide +kernel
theorem dL_law_504 : decode cL_law 504 = .ok (.iconst 1, 1) := by decide +kernel
theorem dL_law_505 : decode cL_law 505 = .ok (.iadd, 1) := by decide +kernel
theorem dL_law_506 : decode cL_law 506 = .ok (.iaload, 1) := by decide +kernel
theorem dL_law_507 : decode cL_law 507 = .ok (.invokevirtual 77, 3) := by decide +kernel
theorem dL_law_510 : decode cL_law 510 = .ok (.aload_n 2, 1) := by decide +kernel
theorem dL_law_511 : decode cL_law 511 = .ok (.aload_n 0, 1) := by decide +kernel
theorem dL_law_512 : decode cL_law 512 = .ok (.iload_n 3, 1) := by decide +kernel
theorem dL_law_513 : decode cL_law 513 = .ok (.iconst 1, 1) := by decide +kernel
theorem dL_law_514 : decode cL_law 514 = .ok (.iadd, 1) := by decide +kernel
theorem dL_law_515 : decode cL_law 515 = .ok (.iaload, 1) := by decide +kernel
theorem dL_law_516 : decode cL_law 516 = .ok (.invokevirtual 80, 3) := by decide +kernel
theorem dL_law_519 : decode cL_law 519 = .ok (.if_icmp .eq 391, 3) := by decide +kernel
theorem dL_law_522 : decode cL_law 522 = .ok (.iconst 0, 1) := by decide +kernel
theorem dL_law_523 : decode cL_law 523 = .ok (.ireturn, 1) := by decide +kernel
theorem dL_law_524 : decode cL_law 524 = .ok (.aload_n 1, 1) := by decide +kernel
theorem dL_law_525 : decode cL_law 525 = .ok (.aload_n 0, 1) := by decide +kernel
theorem dL_law_526 : decode cL_law 526 = .ok (.iload_n 3, 1) := by decide +kernel
theorem dL_law_527 : decode cL_law 527 = .ok (.iconst 1, 1) := by decide +kernel
theorem dL_law_528 : decode cL_law 528 = .ok (.iadd, 1) := by decide +kernel
theorem dL_law_529 : decode cL_law 529 = .ok (.iaload, 1) := by decide +kernel
theorem dL_law_530 : decode cL_law 530 = .ok (.aload_n 0, 1) := by decide +kernel
theorem dL_law_531 : decode cL_law 531 = .ok (.iload_n 3, 1) := by decide +kernel
theorem dL_law_532 : decode cL_law 532 = .ok (.iconst 2, 1) := by decide +kernel
theorem dL_law_533 : decode cL_law 533 = .ok (.iadd, 1) := by decide +kernel
theorem dL_law_534 : decode cL_law 534 = .ok (.iaload, 1) := by decide +kernel
theorem dL_law_535 : decode cL_law 535 = .ok (.i2l, 1) := by decide +kernel
theorem dL_law_536 : decode cL_law 536 = .ok (.bipush 32, 2) := by decide +kernel
theorem dL_law_538 : decode cL_law 538 = .ok (.lshl, 1) := by decide +kernel
theorem dL_law_539 : decode cL_law 539 = .ok (.aload_n 0, 1) := by decide +kernel
theorem dL_law_540 : decode cL_law 540 = .ok (.iload_n 3, 1) := by decide +kernel
theorem dL_law_541 : decode cL_law 541 = .ok (.iconst 3, 1) := by decide +kernel
theorem dL_law_542 : decode cL_law 542 = .ok (.iadd, 1) := by decide +kernel
theorem dL_law_543 : decode cL_law 543 = .ok (.iaload, 1) := by decide +kernel
theorem dL_law_544 : decode cL_law 544 = .ok (.i2l, 1) := by decide +kernel
theorem dL_law_545 : decode cL_law 545 = .ok (.ldc2_w 81, 3) := by decide +kernel
theorem dL_law_548 : decode cL_law 548 = .ok (.land, 1) := by decide +kernel
theorem dL_law_549 : decode cL_law 549 = .ok (.lor, 1) := by decide +kernel
theorem dL_law_550 : decode cL_law 550 = .ok (.invokevirtual 83, 3) := by decide +kernel
theorem dL_law_553 : decode cL_law 553 = .ok (.aload_n 2, 1) := by decide +kernel
theorem dL_law_554 : decode cL_law 554 = .ok (.aload_n 0, 1) := by decide +kernel
theorem dL_law_555 : decode cL_law 555 = .ok (.iload_n 3, 1) := by decide +kernel
theorem dL_law_556 : decode cL_law 556 = .ok (.iconst 1, 1) := by decide +kernel
theorem dL_law_557 : decode cL_law 557 = .ok (.iadd, 1) := by decide +kernel
theorem dL_law_558 : decode cL_law 558 = .ok (.iaload, 1) := by decide +kernel
theorem dL_law_559 : decode cL_law 559 = .ok (.aload_n 0, 1) := by decide +kernel
theorem dL_law_560 : decode cL_law 560 = .ok (.iload_n 3, 1) := by decide +kernel
theorem dL_law_561 : decode cL_law 561 = .ok (.iconst 2, 1) := by decide +kernel
theorem dL_law_562 : decode cL_law 562 = .ok (.iadd, 1) := by decide +kernel
theorem dL_law_563 : decode cL_law 563 = .ok (.iaload, 1) := by decide +kernel
theorem dL_law_564 : decode cL_law 564 = .ok (.i2l, 1) := by decide +kernel
theorem dL_law_565 : decode cL_law 565 = .ok (.bipush 32, 2) := by decide +kernel
theorem dL_law_567 : decode cL_law 567 = .ok (.lshl, 1) := by decide +kernel
theorem dL_law_568 : decode cL_law 568 = .ok (.aload_n 0, 1) := by decide +kernel
theorem dL_law_569 : decode cL_law 569 = .ok (.iload_n 3, 1) := by decide +kernel
theorem dL_law_570 : decode cL_law 570 = .ok (.iconst 3, 1) := by decide +kernel
theorem dL_law_571 : decode cL_law 571 = .ok (.iadd, 1) := by decide +kernel
theorem dL_law_572 : decode cL_law 572 = .ok (.iaload, 1) := by decide +kernel
theorem dL_law_573 : decode cL_law 573 = .ok (.i2l, 1) := by decide +kernel
theorem dL_law_574 : decode cL_law 574 = .ok (.ldc2_w 81, 3) := by decide +kernel
theorem dL_law_577 : decode cL_law 577 = .ok (.land, 1) := by decide +kernel
theorem dL_law_578 : decode cL_law 578 = .ok (.lor, 1) := by decide +kernel
theorem dL_law_579 : decode cL_law 579 = .ok (.invokevirtual 87, 3) := by decide +kernel
theorem dL_law_582 : decode cL_law 582 = .ok (.if_icmp .eq 328, 3) := by decide +kernel
theorem dL_law_585 : decode cL_law 585 = .ok (.iconst 0, 1) := by decide +kernel
theorem dL_law_586 : decode cL_law 586 = .ok (.ireturn, 1) := by decide +kernel
theorem dL_law_587 : decode cL_law 587 = .ok (.aload_n 1, 1) := by decide +kernel
theorem dL_law_588 : decode cL_law 588 = .ok (.aload_n 0, 1) := by decide +kernel
theorem dL_law_589 : decode cL_law 589 = .ok (.iload_n 3, 1) := by decide +kernel
theorem dL_law_590 : decode cL_law 590 = .ok (.iconst 1, 1) := by decide +kernel
theorem dL_law_591 : decode cL_law 591 = .ok (.iadd, 1) := by decide +kernel
theorem dL_law_592 : decode cL_law 592 = .ok (.iaload, 1) := by decide +kernel
theorem dL_law_593 : decode cL_law 593 = .ok (.aload_n 0, 1) := by decide +kernel
theorem dL_law_594 : decode cL_law 594 = .ok (.iload_n 3, 1) := by decide +kernel
theorem dL_law_595 : decode cL_law 595 = .ok (.iconst 2, 1) := by decide +kernel
theorem dL_law_596 : decode cL_law 596 = .ok (.iadd, 1) := by decide +kernel
theorem dL_law_597 : decode cL_law 597 = .ok (.iaload, 1) := by decide +kernel
theorem dL_law_598 : decode cL_law 598 = .ok (.aload_n 0, 1) := by decide +kernel
theorem dL_law_599 : decode cL_law 599 = .ok (.iload_n 3, 1) := by decide +kernel
theorem dL_law_600 : decode cL_law 600 = .ok (.iconst 3, 1) := by decide +kernel
theorem dL_law_601 : decode cL_law 601 = .ok (.iadd, 1) := by decide +kernel
theorem dL_law_602 : decode cL_law 602 = .ok (.iaload, 1) := by decide +kernel
theorem dL_law_603 : decode cL_law 603 = .ok (.invokevirtual 88, 3) := by decide +kernel
theorem dL_law_606 : decode cL_law 606 = .ok (.aload_n 2, 1) := by decide +kernel
theorem dL_law_607 : decode cL_law 607 = .ok (.aload_n 0, 1) := by decide +kernel
theorem dL_law_608 : decode cL_law 608 = .ok (.iload_n 3, 1) := by decide +kernel
theorem dL_law_609 : decode cL_law 609 = .ok (.iconst 1, 1) := by decide +kernel
theorem dL_law_610 : decode cL_law 610 = .ok (.iadd, 1) := by decide +kernel
theorem dL_law_611 : decode cL_law 611 = .ok (.iaload, 1) := by decide +kernel
theorem dL_law_612 : decode cL_law 612 = .ok (.aload_n 0, 1) := by decide +kernel
theorem dL_law_613 : decode cL_law 613 = .ok (.iload_n 3, 1) := by decide +kernel
theorem dL_law_614 : decode cL_law 614 = .ok (.iconst 2, 1) := by decide +kernel
theorem dL_law_615 : decode cL_law 615 = .ok (.iadd, 1) := by decide +kernel
theorem dL_law_616 : decode cL_law 616 = .ok (.iaload, 1) := by decide +kernel
theorem dL_law_617 : decode cL_law 617 = .ok (.aload_n 0, 1) := by decide +kernel
theorem dL_law_618 : decode cL_law 618 = .ok (.iload_n 3, 1) := by decide +kernel
theorem dL_law_619 : decode cL_law 619 = .ok (.iconst 3, 1) := by decide +kernel
theorem dL_law_620 : decode cL_law 620 = .ok (.iadd, 1) := by decide +kernel
theorem dL_law_621 : decode cL_law 621 = .ok (.iaload, 1) := by decide +kernel
theorem dL_law_622 : decode cL_law 622 = .ok (.invokevirtual 91, 3) := by decide +kernel
theorem dL_law_625 : decode cL_law 625 = .ok (.if_icmp .eq 285, 3) := by decide +kernel
theorem dL_law_628 : decode cL_law 628 = .ok (.iconst 0, 1) := by decide +kernel
theorem dL_law_629 : decode cL_law 629 = .ok (.ireturn, 1) := by decide +kernel
theorem dL_law_630 : decode cL_law 630 = .ok (.aload_n 1, 1) := by decide +kernel
theorem dL_law_631 : decode cL_law 631 = .ok (.invokevirtual 92, 3) := by decide +kernel
theorem dL_law_634 : decode cL_law 634 = .ok (.aload_n 2, 1) := by decide +kernel
theorem dL_law_635 : decode cL_law 635 = .ok (.invokevirtual 95, 3) := by decide +kernel
theorem dL_law_638 : decode cL_law 638 = .ok (.if_icmp .eq 272, 3) := by decide +kernel
theorem dL_law_641 : decode cL_law 641 = .ok (.iconst 0, 1) := by decide +kernel
theorem dL_law_642 : decode cL_law 642 = .ok (.ireturn, 1) := by decide +kernel
theorem dL_law_643 : decode cL_law 643 = .ok (.aload_n 1, 1) := by decide +kernel
theorem dL_law_644 : decode cL_law 644 = .ok (.invokevirtual 96, 3) := by decide +kernel
theorem dL_law_647 : decode cL_law 647 = .ok (.aload_n 2, 1) := by decide +kernel
theorem dL_law_648 : decode cL_law 648 = .ok (.invokevirtual 99, 3) := by decide +kernel
theorem dL_law_651 : decode cL_law 651 = .ok (.if_icmp .eq 259, 3) := by decide +kernel
theorem dL_law_654 : decode cL_law 654 = .ok (.iconst 0, 1) := by decide +kernel
theorem dL_law_655 : decode cL_law 655 = .ok (.ireturn, 1) := by decide +kernel
theorem dL_law_656 : decode cL_law 656 = .ok (.aload_n 1, 1) := by decide +kernel
theorem dL_law_657 : decode cL_law 657 = .ok (.aload_n 0, 1) := by decide +kernel
theorem dL_law_658 : decode cL_law 658 = .ok (.iload_n 3, 1) := by decide +kernel
theorem dL_law_659 : decode cL_law 659 = .ok (.iconst 1, 1) := by decide +kernel
theorem dL_law_660 : decode cL_law 660 = .ok (.iadd, 1) := by decide +kernel
theorem dL_law_661 : decode cL_law 661 = .ok (.iaload, 1) := by decide +kernel
theorem dL_law_662 : decode cL_law 662 = .ok (.aload_n 0, 1) := by decide +kernel
theorem dL_law_663 : decode cL_law 663 = .ok (.iload_n 3, 1) := by decide +kernel
theorem dL_law_664 : decode cL_law 664 = .ok (.iconst 2, 1) := by decide +kernel
theorem dL_law_665 : decode cL_law 665 = .ok (.iadd, 1) := by decide +kernel
theorem dL_law_666 : decode cL_law 666 = .ok (.iaload, 1) := by decide +kernel
theorem dL_law_667 : decode cL_law 667 = .ok (.ifCond .eq 7, 3) := by decide +kernel
theorem dL_law_670 : decode cL_law 670 = .ok (.iconst 1, 1) := by decide +kernel
theorem dL_law_671 : decode cL_law 671 = .ok (.goto 4, 3) := by decide +kernel
theorem dL_law_674 : decode cL_law 674 = .ok (.iconst 0, 1) := by decide +kernel
theorem dL_law_675 : decode cL_law 675 = .ok (.invokevirtual 100, 3) := by decide +kernel
theorem dL_law_678 : decode cL_law 678 = .ok (.aload_n 2, 1) := by decide +kernel
theorem dL_law_679 : decode cL_law 679 = .ok (.aload_n 0, 1) := by decide +kernel
theorem dL_law_680 : decode cL_law 680 = .ok (.iload_n 3, 1) := by decide +kernel
theorem dL_law_681 : decode cL_law 681 = .ok (.iconst 1, 1) := by decide +kernel
theorem dL_law_682 : decode cL_law 682 = .ok (.iadd, 1) := by decide +kernel
theorem dL_law_683 : decode cL_law 683 = .ok (.iaload, 1) := by decide +kernel
theorem dL_law_684 : decode cL_law 684 = .ok (.aload_n 0, 1) := by decide +kernel
theorem dL_law_685 : decode cL_law 685 = .ok (.iload_n 3, 1) := by decide +kernel
theorem dL_law_686 : decode cL_law 686 = .ok (.iconst 2, 1) := by decide +kernel
theorem dL_law_687 : decode cL_law 687 = .ok (.iadd, 1) := by decide +kernel
theorem dL_law_688 : decode cL_law 688 = .ok (.iaload, 1) := by decide +kernel
theorem dL_law_689 : decode cL_law 689 = .ok (.ifCond .eq 7, 3) := by decide +kernel
theorem dL_law_692 : decode cL_law 692 = .ok (.iconst 1, 1) := by decide +kernel
theorem dL_law_693 : decode cL_law 693 = .ok (.goto 4, 3) := by decide +kernel
theorem dL_law_696 : decode cL_law 696 = .ok (.iconst 0, 1) := by decide +kernel
theorem dL_law_697 : decode cL_law 697 = .ok (.invokevirtual 104, 3) := by decide +kernel
theorem dL_law_700 : decode cL_law 700 = .ok (.if_icmp .eq 210, 3) := by decide +kernel
theorem dL_law_703 : decode cL_law 703 = .ok (.iconst 0, 1) := by decide +kernel
theorem dL_law_704 : decode cL_law 704 = .ok (.ireturn, 1) := by decide +kernel
theorem dL_law_705 : decode cL_law 705 = .ok (.aload_n 1, 1) := by decide +kernel
theorem dL_law_706 : decode cL_law 706 = .ok (.aload_n 0, 1) := by decide +kernel
theorem dL_law_707 : decode cL_law 707 = .ok (.iload_n 3, 1) := by decide +kernel
theorem dL_law_708 : decode cL_law 708 = .ok (.iconst 1, 1) := by decide +kernel
theorem dL_law_709 : decode cL_law 709 = .ok (.iadd, 1) := by decide +kernel
theorem dL_law_710 : decode cL_law 710 = .ok (.iaload, 1) := by decide +kernel
theorem dL_law_711 : decode cL_law 711 = .ok (.aload_n 0, 1) := by decide +kernel
theorem dL_law_712 : decode cL_law 712 = .ok (.iload_n 3, 1) := by decide +kernel
theorem dL_law_713 : decode cL_law 713 = .ok (.iconst 2, 1) := by decide +kernel
theorem dL_law_714 : decode cL_law 714 = .ok (.iadd, 1) := by decide +kernel
theorem dL_law_715 : decode cL_law 715 = .ok (.iaload, 1) := by decide +kernel
theorem dL_law_716 : decode cL_law 716 = .ok (.aload_n 0, 1) := by decide +kernel
theorem dL_law_717 : decode cL_law 717 = .ok (.iload_n 3, 1) := by decide +kernel
theorem dL_law_718 : decode cL_law 718 = .ok (.iconst 3, 1) := by decide +kernel
theorem dL_law_719 : decode cL_law 719 = .ok (.iadd, 1) := by decide +kernel
theorem dL_law_720 : decode cL_law 720 = .ok (.iaload, 1) := by decide +kernel
theorem dL_law_721 : decode cL_law 721 = .ok (.ifCond .eq 7, 3) := by decide +kernel
theorem dL_law_724 : decode cL_law 724 = .ok (.iconst 1, 1) := by decide +kernel
theorem dL_law_725 : decode cL_law 725 = .ok (.goto 4, 3) := by decide +kernel
theorem dL_law_728 : decode cL_law 728 = .ok (.iconst 0, 1) := by decide +kernel
theorem dL_law_729 : decode cL_law 729 = .ok (.invokevirtual 105, 3) := by decide +kernel
theorem dL_law_732 : decode cL_law 732 = .ok (.aload_n 2, 1) := by decide +kernel
theorem dL_law_733 : decode cL_law 733 = .ok (.aload_n 0, 1) := by decide +kernel
theorem dL_law_734 : decode cL_law 734 = .ok (.iload_n 3, 1) := by decide +kernel
theorem dL_law_735 : decode cL_law 735 = .ok (.iconst 1, 1) := by decide +kernel
theorem dL_law_736 : decode cL_law 736 = .ok (.iadd, 1) := by decide +kernel
theorem dL_law_737 : decode cL_law 737 = .ok (.iaload, 1) := by decide +kernel
theorem dL_law_738 : decode cL_law 738 = .ok (.aload_n 0, 1) := by decide +kernel
theorem dL_law_739 : decode cL_law 739 = .ok (.iload_n 3, 1) := by decide +kernel
theorem dL_law_740 : decode cL_law 740 = .ok (.iconst 2, 1) := by decide +kernel
theorem dL_law_741 : decode cL_law 741 = .ok (.iadd, 1) := by decide +kernel
theorem dL_law_742 : decode cL_law 742 = .ok (.iaload, 1) := by decide +kernel
theorem dL_law_743 : decode cL_law 743 = .ok (.aload_n 0, 1) := by decide +kernel
theorem dL_law_744 : decode cL_law 744 = .ok (.iload_n 3, 1) := by decide +kernel
theorem dL_law_745 : decode cL_law 745 = .ok (.iconst 3, 1) := by decide +kernel
theorem dL_law_746 : decode cL_law 746 = .ok (.iadd, 1) := by decide +kernel
theorem dL_law_747 : decode cL_law 747 = .ok (.iaload, 1) := by decide +kernel
theorem dL_law_748 : decode cL_law 748 = .ok (.ifCond .eq 7, 3) := by decide +kernel
theorem dL_law_751 : decode cL_law 751 = .ok (.iconst 1, 1) := by decide +kernel
theorem dL_law_752 : decode cL_law 752 = .ok (.goto 4, 3) := by decide +kernel
theorem dL_law_755 : decode cL_law 755 = .ok (.iconst 0, 1) := by decide +kernel
theorem dL_law_756 : decode cL_law 756 = .ok (.invokevirtual 109, 3) := by decide +kernel
theorem dL_law_759 : decode cL_law 759 = .ok (.if_icmp .eq 151, 3) := by decide +kernel
theorem dL_law_762 : decode cL_law 762 = .ok (.iconst 0, 1) := by decide +kernel
theorem dL_law_763 : decode cL_law 763 = .ok (.ireturn, 1) := by decide +kernel
theorem dL_law_764 : decode cL_law 764 = .ok (.aload_n 1, 1) := by decide +kernel
theorem dL_law_765 : decode cL_law 765 = .ok (.aload_n 0, 1) := by decide +kernel
theorem dL_law_766 : decode cL_law 766 = .ok (.iload_n 3, 1) := by decide +kernel
theorem dL_law_767 : decode cL_law 767 = .ok (.iconst 1, 1) := by decide +kernel
theorem dL_law_768 : decode cL_law 768 = .ok (.iadd, 1) := by decide +kernel
theorem dL_law_769 : decode cL_law 769 = .ok (.iaload, 1) := by decide +kernel
theorem dL_law_770 : decode cL_law 770 = .ok (.i2l, 1) := by decide +kernel
theorem dL_law_771 : decode cL_law 771 = .ok (.bipush 32, 2) := by decide +kernel
theorem dL_law_773 : decode cL_law 773 = .ok (.lshl, 1) := by decide +kernel
theorem dL_law_774 : decode cL_law 774 = .ok (.aload_n 0, 1) := by decide +kernel
theorem dL_law_775 : decode cL_law 775 = .ok (.iload_n 3, 1) := by decide +kernel
theorem dL_law_776 : decode cL_law 776 = .ok (.iconst 2, 1) := by decide +kernel
theorem dL_law_777 : decode cL_law 777 = .ok (.iadd, 1) := by decide +kernel
theorem dL_law_778 : decode cL_law 778 = .ok (.iaload, 1) := by decide +kernel
theorem dL_law_779 : decode cL_law 779 = .ok (.i2l, 1) := by decide +kernel
theorem dL_law_780 : decode cL_law 780 = .ok (.ldc2_w 81, 3) := by decide +kernel
theorem dL_law_783 : decode cL_law 783 = .ok (.land, 1) := by decide +kernel
theorem dL_law_784 : decode cL_law 784 = .ok (.lor, 1) := by decide +kernel
theorem dL_law_785 : decode cL_law 785 = .ok (.invokevirtual 110, 3) := by decide +kernel
theorem dL_law_788 : decode cL_law 788 = .ok (.aload_n 2, 1) := by decide +kernel
theorem dL_law_789 : decode cL_law 789 = .ok (.aload_n 0, 1) := by decide +kernel
theorem dL_law_790 : decode cL_law 790 = .ok (.iload_n 3, 1) := by decide +kernel
theorem dL_law_791 : decode cL_law 791 = .ok (.iconst 1, 1) := by decide +kernel
theorem dL_law_792 : decode cL_law 792 = .ok (.iadd, 1) := by decide +kernel
theorem dL_law_793 : decode cL_law 793 = .ok (.iaload, 1) := by decide +kernel
theorem dL_law_794 : decode cL_law 794 = .ok (.i2l, 1) := by decide +kernel
theorem dL_law_795 : decode cL_law 795 = .ok (.bipush 32, 2) := by decide +kernel
theorem dL_law_797 : decode cL_law 797 = .ok (.lshl, 1) := by decide +kernel
theorem dL_law_798 : decode cL_law 798 = .ok (.aload_n 0, 1) := by decide +kernel
theorem dL_law_799 : decode cL_law 799 = .ok (.iload_n 3, 1) := by decide +kernel
theorem dL_law_800 : decode cL_law 800 = .ok (.iconst 2, 1) := by decide +kernel
theorem dL_law_801 : decode cL_law 801 = .ok (.iadd, 1) := by decide +kernel
theorem dL_law_802 : decode cL_law 802 = .ok (.iaload, 1) := by decide +kernel
theorem dL_law_803 : decode cL_law 803 = .ok (.i2l, 1) := by decide +kernel
theorem dL_law_804 : decode cL_law 804 = .ok (.ldc2_w 81, 3) := by decide +kernel
theorem dL_law_807 : decode cL_law 807 = .ok (.land, 1) := by decide +kernel
theorem dL_law_808 : decode cL_law 808 = .ok (.lor, 1) := by decide +kernel
theorem dL_law_809 : decode cL_law 809 = .ok (.invokevirtual 114, 3) := by decide +kernel
theorem dL_law_812 : decode cL_law 812 = .ok (.lcmp, 1) := by decide +kernel
theorem dL_law_813 : decode cL_law 813 = .ok (.ifCond .eq 97, 3) := by decide +kernel
theorem dL_law_816 : decode cL_law 816 = .ok (.iconst 0, 1) := by decide +kernel
theorem dL_law_817 : decode cL_law 817 = .ok (.ireturn, 1) := by decide +kernel
theorem dL_law_818 : decode cL_law 818 = .ok (.aload_n 1, 1) := by decide +kernel
theorem dL_law_819 : decode cL_law 819 = .ok (.aload_n 0, 1) := by decide +kernel
theorem dL_law_820 : decode cL_law 820 = .ok (.iload_n 3, 1) := by decide +kernel
theorem dL_law_821 : decode cL_law 821 = .ok (.iconst 1, 1) := by decide +kernel
theorem dL_law_822 : decode cL_law 822 = .ok (.iadd, 1) := by decide +kernel
theorem dL_law_823 : decode cL_law 823 = .ok (.iaload, 1) := by decide +kernel
theorem dL_law_824 : decode cL_law 824 = .ok (.invokevirtual 115, 3) := by decide +kernel
theorem dL_law_827 : decode cL_law 827 = .ok (.aload_n 2, 1) := by decide +kernel
theorem dL_law_828 : decode cL_law 828 = .ok (.aload_n 0, 1) := by decide +kernel
theorem dL_law_829 : decode cL_law 829 = .ok (.iload_n 3, 1) := by decide +kernel
theorem dL_law_830 : decode cL_law 830 = .ok (.iconst 1, 1) := by decide +kernel
theorem dL_law_831 : decode cL_law 831 = .ok (.iadd, 1) := by decide +kernel
theorem dL_law_832 : decode cL_law 832 = .ok (.iaload, 1) := by decide +kernel
theorem dL_law_833 : decode cL_law 833 = .ok (.invokevirtual 118, 3) := by decide +kernel
theorem dL_law_836 : decode cL_law 836 = .ok (.if_icmp .eq 74, 3) := by decide +kernel
theorem dL_law_839 : decode cL_law 839 = .ok (.iconst 0, 1) := by decide +kernel
theorem dL_law_840 : decode cL_law 840 = .ok (.ireturn, 1) := by decide +kernel
theorem dL_law_841 : decode cL_law 841 = .ok (.aload_n 1, 1) := by decide +kernel
theorem dL_law_842 : decode cL_law 842 = .ok (.aload_n 0, 1) := by decide +kernel
theorem dL_law_843 : decode cL_law 843 = .ok (.iload_n 3, 1) := by decide +kernel
theorem dL_law_844 : decode cL_law 844 = .ok (.iconst 1, 1) := by decide +kernel
theorem dL_law_845 : decode cL_law 845 = .ok (.iadd, 1) := by decide +kernel
theorem dL_law_846 : decode cL_law 846 = .ok (.iaload, 1) := by decide +kernel
theorem dL_law_847 : decode cL_law 847 = .ok (.invokevirtual 119, 3) := by decide +kernel
theorem dL_law_850 : decode cL_law 850 = .ok (.aload_n 2, 1) := by decide +kernel
theorem dL_law_851 : decode cL_law 851 = .ok (.aload_n 0, 1) := by decide +kernel
theorem dL_law_852 : decode cL_law 852 = .ok (.iload_n 3, 1) := by decide +kernel
theorem dL_law_853 : decode cL_law 853 = .ok (.iconst 1, 1) := by decide +kernel
theorem dL_law_854 : decode cL_law 854 = .ok (.iadd, 1) := by decide +kernel
theorem dL_law_855 : decode cL_law 855 = .ok (.iaload, 1) := by decide +kernel
theorem dL_law_856 : decode cL_law 856 = .ok (.invokevirtual 122, 3) := by decide +kernel
theorem dL_law_859 : decode cL_law 859 = .ok (.if_icmp .eq 51, 3) := by decide +kernel
theorem dL_law_862 : decode cL_law 862 = .ok (.iconst 0, 1) := by decide +kernel
theorem dL_law_863 : decode cL_law 863 = .ok (.ireturn, 1) := by decide +kernel
theorem dL_law_864 : decode cL_law 864 = .ok (.aload_n 1, 1) := by decide +kernel
theorem dL_law_865 : decode cL_law 865 = .ok (.aload_n 0, 1) := by decide +kernel
theorem dL_law_866 : decode cL_law 866 = .ok (.iload_n 3, 1) := by decide +kernel
theorem dL_law_867 : decode cL_law 867 = .ok (.iconst 1, 1) := by decide +kernel
theorem dL_law_868 : decode cL_law 868 = .ok (.iadd, 1) := by decide +kernel
theorem dL_law_869 : decode cL_law 869 = .ok (.iaload, 1) := by decide +kernel
theorem dL_law_870 : decode cL_law 870 = .ok (.invokevirtual 123, 3) := by decide +kernel
theorem dL_law_873 : decode cL_law 873 = .ok (.aload_n 2, 1) := by decide +kernel
theorem dL_law_874 : decode cL_law 874 = .ok (.aload_n 0, 1) := by decide +kernel
theorem dL_law_875 : decode cL_law 875 = .ok (.iload_n 3, 1) := by decide +kernel
theorem dL_law_876 : decode cL_law 876 = .ok (.iconst 1, 1) := by decide +kernel
theorem dL_law_877 : decode cL_law 877 = .ok (.iadd, 1) := by decide +kernel
theorem dL_law_878 : decode cL_law 878 = .ok (.iaload, 1) := by decide +kernel
theorem dL_law_879 : decode cL_law 879 = .ok (.invokevirtual 126, 3) := by decide +kernel
theorem dL_law_882 : decode cL_law 882 = .ok (.if_icmp .eq 28, 3) := by decide +kernel
theorem dL_law_885 : decode cL_law 885 = .ok (.iconst 0, 1) := by decide +kernel
theorem dL_law_886 : decode cL_law 886 = .ok (.ireturn, 1) := by decide +kernel
theorem dL_law_887 : decode cL_law 887 = .ok (.aload_n 1, 1) := by decide +kernel
theorem dL_law_888 : decode cL_law 888 = .ok (.aload_n 0, 1) := by decide +kernel
theorem dL_law_889 : decode cL_law 889 = .ok (.iload_n 3, 1) := by decide +kernel
theorem dL_law_890 : decode cL_law 890 = .ok (.iconst 1, 1) := by decide +kernel
theorem dL_law_891 : decode cL_law 891 = .ok (.iadd, 1) := by decide +kernel
theorem dL_law_892 : decode cL_law 892 = .ok (.iaload, 1) := by decide +kernel
theorem dL_law_893 : decode cL_law 893 = .ok (.invokevirtual 127, 3) := by decide +kernel
theorem dL_law_896 : decode cL_law 896 = .ok (.aload_n 2, 1) := by decide +kernel
theorem dL_law_897 : decode cL_law 897 = .ok (.aload_n 0, 1) := by decide +kernel
theorem dL_law_898 : decode cL_law 898 = .ok (.iload_n 3, 1) := by decide +kernel
theorem dL_law_899 : decode cL_law 899 = .ok (.iconst 1, 1) := by decide +kernel
theorem dL_law_900 : decode cL_law 900 = .ok (.iadd, 1) := by decide +kernel
theorem dL_law_901 : decode cL_law 901 = .ok (.iaload, 1) := by decide +kernel
theorem dL_law_902 : decode cL_law 902 = .ok (.invokevirtual 130, 3) := by decide +kernel
theorem dL_law_905 : decode cL_law 905 = .ok (.if_icmp .eq 5, 3) := by decide +kernel
theorem dL_law_908 : decode cL_law 908 = .ok (.iconst 0, 1) := by decide +kernel
theorem dL_law_909 : decode cL_law 909 = .ok (.ireturn, 1) := by decide +kernel
theorem dL_law_910 : decode cL_law 910 = .ok (.iinc 3 4, 3) := by decide +kernel
theorem dL_law_913 : decode cL_law 913 = .ok (.goto (-895), 3) := by decide +kernel
theorem dL_law_916 : decode cL_law 916 = .ok (.iconst 1, 1) := by decide +kernel
theorem dL_law_917 : decode cL_law 917 = .ok (.ireturn, 1) := by decide +kernel
end
section
/-! the world of the two objects (class and reference): 32 cells, by their numbers; what they hold is three functions -/
abbrev zb_S : Type := (Nat → Nat → Int32) × (Nat → Nat → Int64) × (Nat → Nat → Int32)
def zb_i (S : zb_S) (o k : Nat) : Int32 := S.1 o k
def zb_l (S : zb_S) (o k : Nat) : Int64 := S.2.1 o k
def zb_a (S : zb_S) (o k : Nat) : Int32 := S.2.2 o k
def zb_pi (S : zb_S) (o k : Nat) (v : Int32) : zb_S := (va_up S.1 o (va_up (S.1 o) k v), S.2.1, S.2.2)
def zb_pl (S : zb_S) (o k : Nat) (v : Int64) : zb_S := (S.1, va_up S.2.1 o (va_up (S.2.1 o) k v), S.2.2)
def zb_pa (S : zb_S) (o k : Nat) (v : Int32) : zb_S := (S.1, S.2.1, va_up S.2.2 o (upd (S.2.2 o) k v))
def zb_cp (S : zb_S) (x sp y dp n : Nat) : zb_S := (S.1, S.2.1, va_up S.2.2 y (va_cpy (S.2.2 x) (S.2.2 y) sp dp n))
def zb_let {α β : Type} (v : α) (k : α → β) : β := k v
def zb_bind {α β : Type} (f : Option (β × zb_S)) (k : β → zb_S → Option (α × zb_S)) : Option (α × zb_S) := match f with
  | none => none
  | some q => k q.1 q.2
theorem zb_bind_some {α β : Type} (r : β) (S : zb_S) (k : β → zb_S → Option (α × zb_S)) : zb_bind (some (r, S)) k = k r S := rfl
theorem zb_bind_eq {α β : Type} (f : Option (β × zb_S)) (k : β → zb_S → Option (α × zb_S)) : zb_bind f k = f.bind (fun q => k q.1 q.2) := by cases f <;> rfl
abbrev zb_in (i : Int32) (n : Nat) : Prop := ¬ i < 0 ∧ i.toNatClampNeg < n
theorem zb_vp {i : Int32} {n : Nat} (h : zb_in i n) : vp_in i n := fun q => q.elim h.1 (fun z => absurd h.2 (Nat.not_lt.mpr z))
/-- kinds: 0..6 the classes, 7 an int row, 8 a boolean row -/
def zb_kdl : List Nat := [5, 4, 7, 1, 7, 1, 7, 0, 3, 7, 3, 7, 3, 7, 2, 7, 7, 7, 7, 7, 7, 6, 7, 7, 7, 7, 7, 7, 8, 7, 7, 7]
def zb_szl : List Nat := [0, 0, 40, 0, 57, 0, 57, 0, 0, 798, 0, 114, 0, 513, 0, 6, 6, 6, 4, 6, 64, 0, 40, 79, 79, 79, 1106, 158, 2, 6, 6, 6]
def zb_rfll : List (List Nat) := [[1, 3, 5, 7, 10, 0, 12, 14, 18, 19, 20, 0], [2, 0], [], [0, 0, 0, 0, 4, 0], [], [0, 0, 0, 0, 6, 0], [], [8, 0, 0], [0, 9], [], [0, 11], [], [0, 13], [], [15, 16, 17, 0], [], [], [], [], [], [], [0, 22, 0, 0, 0, 0, 0, 0, 0, 0, 23, 24, 25, 26, 0, 27, 28, 0, 29, 30, 31, 0, 0, 0, 0, 0, 0]]
/-- of a kind of object the types of its fields: 0 int, 1 long, 2 a cell -/
def zb_tyl : List (List Nat) := [[2, 0, 0], [0, 0, 0, 0, 2, 0], [2, 2, 2, 0], [0, 2], [2, 0], [2, 2, 2, 2, 2, 0, 2, 2, 2, 2, 2, 1], [0, 2, 0, 0, 0, 0, 0, 0, 0, 0, 2, 2, 2, 2, 0, 2, 2, 0, 2, 2, 2, 1, 0, 0, 0, 0, 0]]
def zb_kd (b : Nat) : Nat := zb_kdl.getD b 99
def zb_sz (b : Nat) : Nat := zb_szl.getD b 0
def zb_rf (b k : Nat) : Nat := (zb_rfll.getD b []).getD k 0
def zb_tyk (c k : Nat) : Nat := (zb_tyl.getD c []).getD k 9
def zb_nfk (c : Nat) : Nat := (zb_tyl.getD c []).length
theorem zb_lt {b n : Nat} (h : zb_kd b = n) (hn : n < 99) : b < 32 := by
  rcases Nat.lt_or_ge b 32 with q | q
  · exact q
  · have h2 : zb_kd b = 99 := by
      unfold zb_kd
      rw [List.getD_eq_getElem?_getD, List.getElem?_eq_none (show zb_kdl.length ≤ b from q)]
      rfl
    omega
abbrev zb_G : Type := (Nat → Nat) × va_G × ClassId × ClassId × Nat × Nat
def zb_ad (G : zb_G) : Nat → Nat := G.1
def zb_D (G : zb_G) : va_G := G.2.1
def zb_cI (G : zb_G) : ClassId := G.2.2.1
def zb_cZ (G : zb_G) : ClassId := G.2.2.2.1
def zb_tF (G : zb_G) : Nat := G.2.2.2.2.1
def zb_tT (G : zb_G) : Nat := G.2.2.2.2.2
def zb_val (G : zb_G) (S : zb_S) (b k : Nat) : Value := if zb_tyk (zb_kd b) k = 0 then .int (zb_i S b k) else if zb_tyk (zb_kd b) k = 1 then .long (zb_l S b k) else .ref (zb_ad G (zb_rf b k))
def zb_fs (G : zb_G) (S : zb_S) (b : Nat) : List Value := (List.range (zb_nfk (zb_kd b))).map (zb_val G S b)
def zb_cell (G : zb_G) (S : zb_S) (b : Nat) : va_E := if zb_kd b = 7 then .inl (zb_cI G, zb_sz b, .inl (zb_a S b)) else if zb_kd b = 8 then .inl (zb_cZ G, zb_sz b, .inl (zb_a S b)) else .inr (zb_kd b, zb_fs G S b)
def zb_pic (G : zb_G) (S : zb_S) : va_W := (List.range 32).map (fun b => (zb_ad G b, zb_cell G S b))
def zb_A (G : zb_G) : Nat → Prop := fun q => ∃ b, b < 32 ∧ zb_ad G b = q
def zb_fac (k : Nat) : Int32 := [1, 1, 2, 6, 24, 120, 720].getD k 0
def zb_tho (k : Nat) : Int64 := [1, 1000, 1000000, 1000000000, 1000000000000].getD k 0
def zb_tys (G : zb_G) : List (ClassId × FieldType) := [(zb_cI G, .int), (zb_cZ G, .boolean)]
/-- what stays: the tables, the addresses apart, the two static rows -/
def zb_K (G : zb_G) (U : State) (H : Heap) : Prop := va_K (zb_D G) vwCl (zb_tys G) U ∧ (∀ i j : Nat, i < 32 → j < 32 → zb_ad G i = zb_ad G j → i = j) ∧ va_Z "ZoneBelt" "FACTORIALS" "[I" (.ref (zb_tF G)) (zb_A G) U H ∧ va_T .int (zb_tF G) 7 (fun k => .int (zb_fac k)) (zb_A G) U H ∧ va_Z "ZoneBelt" "THOUSANDS" "[J" (.ref (zb_tT G)) (zb_A G) U H ∧ va_T .long (zb_tT G) 5 (fun k => .long (zb_tho k)) (zb_A G) U H
theorem zb_K.moved {G : zb_G} {u U : State} {H : Heap} (hvm : u.vm.Alike U.vm) (h : zb_K G u H) : zb_K G U H := ⟨va_K.moved hvm h.1, h.2.1, h.2.2.1.moved hvm, h.2.2.2.1.moved hvm, h.2.2.2.2.1.moved hvm, h.2.2.2.2.2.moved hvm⟩
theorem zb_K.kept {G : zb_G} {U : State} {H H1 : Heap} (h : zb_K G U H) (hq : ∀ a : Nat, a < H.size → ¬ zb_A G a → H1[a]? = H[a]?) : zb_K G U H1 := ⟨h.1, h.2.1, h.2.2.1.kept hq, h.2.2.2.1.kept hq, h.2.2.2.2.1.kept hq, h.2.2.2.2.2.kept hq⟩
def zb_W (G : zb_G) (S : zb_S) (U : State) : Prop := va_P (zb_D G) vwCl (zb_pic G S) U.heap ∧ zb_K G U U.heap
theorem zb_at {G : zb_G} {S : zb_S} {b : Nat} (hb : b < 32) : (zb_pic G S)[b]? = some (zb_ad G b, zb_cell G S b) := by
  simp [zb_pic, hb]
theorem zb_Dd {G : zb_G} {S : zb_S} {U : State} {H : Heap} (h : zb_K G U H) : va_D (zb_A G) (zb_pic G S) := by
  have key : ∀ (i : Nat) (q : Nat × va_E), (zb_pic G S)[i]? = some q → i < 32 ∧ zb_ad G i = q.1 := by
    intro i q hq
    have hi : i < 32 := by
      have := (List.getElem?_eq_some_iff.mp hq).1
      simpa [zb_pic] using this
    rw [zb_at hi] at hq
    cases hq
    exact ⟨hi, rfl⟩
  refine ⟨fun i j x y hx hy hxy => ?_, fun k q hk => ?_⟩
  · obtain ⟨a1, a2⟩ := key i x hx
    obtain ⟨b1, b2⟩ := key j y hy
    exact h.2.1 i j a1 b1 (by rw [a2, b2, hxy])
  · obtain ⟨a1, a2⟩ := key k q hk
    exact ⟨k, a1, a2⟩
theorem zb_set {G : zb_G} {S S' : zb_S} {b : Nat} {e : va_E} (hb : b < 32) (he : zb_cell G S' b = e) (ho : ∀ j, j ≠ b → zb_cell G S' j = zb_cell G S j) : (zb_pic G S).set b (zb_ad G b, e) = zb_pic G S' := by
  apply List.ext_getElem?
  intro j
  rw [List.getElem?_set]
  by_cases hj : b = j
  · subst hj
    rw [if_pos rfl, zb_at (S := S') hb, he]
    simp [zb_pic, hb]
  · rw [if_neg hj]
    by_cases h2 : j < 32
    · rw [zb_at h2, zb_at h2, ho j (Ne.symm hj)]
    · rw [List.getElem?_eq_none (by simpa [zb_pic] using h2), List.getElem?_eq_none (by simpa [zb_pic] using h2)]
/-- the answer of a method -/
def zb_Q (G : zb_G) (r : Option Value) (S' : zb_S) : Array Value → State → Outcome → State → Prop := fun _ st oc t => oc = .returned r ∧ zb_W G S' t ∧ va_F (zb_A G) st t
def zb_rm (d : Nat) : Room := { frames := d + 1, cells := 0, slots := 0, locals := 40 * (d + 1) }
def zb_ws (y : MethodName) (cc : ByteArray) (nL : Nat) (ret : Option FieldType) : List Cond := .code y cc nL ret :: wsL_law
/-- a method's contract: it does what the pure function says, wherever that says something -/
def zb_C {α : Type} (em : α → Option Value) (l : Launch) (G : zb_G) (d : Nat) (y : MethodName) (cc : ByteArray) (nL : Nat) (ret : Option FieldType) (as : List Value) (S : zb_S) (o : Option (α × zb_S)) : Prop :=
  ∀ (r : α) (S' : zb_S), o = some (r, S') → Met l y (zb_ws y cc nL ret) (zb_rm d) (va_Pc as (zb_W G S)) (zb_Q G (em r) S') 0 0 (zb_A G)
abbrev zb_X (p : Program) (s : State) (m : MethodId) (args : Array Value) (meth : Method) (c : Code) (G : zb_G) (own : String) (cc : ByteArray) (nL : Nat) (ret : Option FieldType) : Prop :=
  p.tables.exec = Jvm.exec ∧ c.code = cc ∧ meth.sig.returnType = ret ∧ c.maxLocals = nL ∧ s.vm.findClass own = some m.cls ∧ (∀ w ∈ wsL_law, w.before args s = true) ∧ meth.locks = false ∧ zb_K G s s.heap
/-- inside a method: from this place it does what the pure value says -/
def zb_Go {α : Type} (em : α → Option Value) (l : Launch) (G : zb_G) (d : Nat) (own : String) (cc : ByteArray) (nL : Nat) (ret : Option FieldType) (pc : Nat) (lv : List (Nat × Value)) (st : List Value) (S : zb_S) (o : Option (α × zb_S)) : Prop :=
  ∀ (r : α) (S' : zb_S), o = some (r, S') → ∀ (p : Program) (e : Env) (s : State) (m : MethodId) (args : Array Value) (below : List Frame) (meth : Method) (c : Code) (H : Heap) (locs : List Loc) (ls : Array Slot),
    zb_X p s m args meth c G own cc nL ret → va_P (zb_D G) vwCl (zb_pic G S) H → va_S (zb_A G) s.heap H locs → lv_has ls nL lv →
    W p l e (zb_rm d) s m args below meth c H locs 0 0 (MQ below (zb_Q G (em r) S') args s 0 0 (zb_A G)) (F0 m pc ls st)
def zb_eI (x : Int32) : Option Value := some (.int x)
def zb_eL (x : Int64) : Option Value := some (.long x)
def zb_eV (_ : Unit) : Option Value := none
theorem zb_C.of {α : Type} {em : α → Option Value} {l : Launch} {G : zb_G} {d : Nat} {y : MethodName} {own : String} {cc : ByteArray} {nL : Nat} {ret : Option FieldType} {as : List Value} {lv : List (Nat × Value)} {S : zb_S} {o : Option (α × zb_S)} (hy : plainName y.cls = true) (hown : y.cls = own) (hlen : (lg_sl as).length ≤ nL) (hlv : lv_args 0 as = lv) (hg : zb_Go em l G d own cc nL ret 0 lv [] S o) : zb_C em l G d y cc nL ret as S o := by
  intro r S' ho
  refine Met.ofW (cc := cc) (maxL := nL) (ret := ret) hy rfl ?_
  intro p e s m args below meth c s₁ B hml hv
  obtain ⟨rfl, hP, hK⟩ := hv
  have hts := atoms_spec (ws := zb_ws y cc nL ret) B.pre
  have ho2 : s.vm.findClass y.cls = some m.cls := findClass_of_methodNamed B.named
  subst hlv; subst hown
  have hl := lv_entry as (n := nL) hlen
  rw [lg_entry_eq]
  exact hg r S' ho p e s m _ below meth c s.heap [] _ ⟨B.exec, B.bytes, B.returns, hml, ho2, fun w h => hts w (List.mem_cons_of_mem _ h), B.notSynchronized, hK⟩ hP va_S.rf hl
section ZG
variable {α β : Type} {em : α → Option Value} {l : Launch} {G : zb_G} {d : Nat} {own : String} {cc : ByteArray} {nL : Nat} {ret : Option FieldType} {pc : Nat} {lv lv' : List (Nat × Value)} {st rest : List Value} {S : zb_S} {o : Option (α × zb_S)}
theorem zg_none : zb_Go em l G d own cc nL ret pc lv st S (none : Option (α × zb_S)) := fun _ _ h => by cases h
theorem zg_name {β : Type} {v : β} {k : β → Option (α × zb_S)} (kk : zb_Go em l G d own cc nL ret pc lv st S (k v)) : zb_Go em l G d own cc nL ret pc lv st S (zb_let v k) := kk
theorem zg_iconst {n : Int} {v : Int32} (hd : decode cc pc = .ok (.iconst n, 1)) (hv : Int32.ofInt n = v) (kk : zb_Go em l G d own cc nL ret (pc + 1) lv (.int v :: st) S o) : zb_Go em l G d own cc nL ret pc lv st S o :=
  fun r S' ho p e s m args below meth c H locs ls X hP hS hl => lv_iconst X.1 X.2.1 hd hv (kk r S' ho p e s m args below meth c H locs ls X hP hS hl)
theorem zg_bipush {n : Int} {v : Int32} (hd : decode cc pc = .ok (.bipush n, 2)) (hv : (Int8.ofInt n).toInt32 = v) (kk : zb_Go em l G d own cc nL ret (pc + 2) lv (.int v :: st) S o) : zb_Go em l G d own cc nL ret pc lv st S o :=
  fun r S' ho p e s m args below meth c H locs ls X hP hS hl => lv_bipush X.1 X.2.1 hd hv (kk r S' ho p e s m args below meth c H locs ls X hP hS hl)
theorem zg_sipush {n : Int} {v : Int32} (hd : decode cc pc = .ok (.sipush n, 3)) (hv : (Int16.ofInt n).toInt32 = v) (kk : zb_Go em l G d own cc nL ret (pc + 3) lv (.int v :: st) S o) : zb_Go em l G d own cc nL ret pc lv st S o :=
  fun r S' ho p e s m args below meth c H locs ls X hP hS hl => lv_sipush X.1 X.2.1 hd hv (kk r S' ho p e s m args below meth c H locs ls X hP hS hl)
theorem zg_lconst {n : Fin 2} {v : Int64} (hd : decode cc pc = .ok (.lconst n, 1)) (hv : Int64.ofNat (n : Nat) = v) (kk : zb_Go em l G d own cc nL ret (pc + 1) lv (.long v :: st) S o) : zb_Go em l G d own cc nL ret pc lv st S o :=
  fun r S' ho p e s m args below meth c H locs ls X hP hS hl => lv_lconst X.1 X.2.1 hd hv (kk r S' ho p e s m args below meth c H locs ls X hP hS hl)
theorem zg_ldc2 {index : Nat} {v : Int64} (hw : Cond.constantLong own index v ∈ wsL_law) (hd : decode cc pc = .ok (.ldc2_w index, 3)) (kk : zb_Go em l G d own cc nL ret (pc + 3) lv (.long v :: st) S o) : zb_Go em l G d own cc nL ret pc lv st S o :=
  fun r S' ho p e s m args below meth c H locs ls X hP hS hl => lv_ldc2 X.1 X.2.1 X.2.2.2.2.1 (X.2.2.2.2.2.1 _ hw) hd (kk r S' ho p e s m args below meth c H locs ls X hP hS hl)
theorem zg_ldcw {index : Nat} {v : Int32} (hw : Cond.constant own index v ∈ wsL_law) (hd : decode cc pc = .ok (.ldc_w index, 3)) (kk : zb_Go em l G d own cc nL ret (pc + 3) lv (.int v :: st) S o) : zb_Go em l G d own cc nL ret pc lv st S o :=
  fun r S' ho p e s m args below meth c H locs ls X hP hS hl => lv_ldcw X.1 X.2.1 X.2.2.2.2.1 (X.2.2.2.2.2.1 _ hw) hd (kk r S' ho p e s m args below meth c H locs ls X hP hS hl)
theorem zg_iload_n {k : Fin 4} {i : Nat} {x : Int32} (n : Nat) (hd : decode cc pc = .ok (.iload_n k, 1)) (hi : (k : Nat) = i) (hk : lv[n]? = some (i, .int x)) (kk : zb_Go em l G d own cc nL ret (pc + 1) lv (.int x :: st) S o) : zb_Go em l G d own cc nL ret pc lv st S o :=
  fun r S' ho p e s m args below meth c H locs ls X hP hS hl => lv_iload_n X.1 X.2.1 hd hi (lv_at hl n hk) (kk r S' ho p e s m args below meth c H locs ls X hP hS hl)
theorem zg_iload {i : Nat} {x : Int32} (n : Nat) (hd : decode cc pc = .ok (.iload i, 2)) (hk : lv[n]? = some (i, .int x)) (kk : zb_Go em l G d own cc nL ret (pc + 2) lv (.int x :: st) S o) : zb_Go em l G d own cc nL ret pc lv st S o :=
  fun r S' ho p e s m args below meth c H locs ls X hP hS hl => lv_iload X.1 X.2.1 hd (lv_at hl n hk) (kk r S' ho p e s m args below meth c H locs ls X hP hS hl)
theorem zg_lload_n {k : Fin 4} {i : Nat} {x : Int64} (n : Nat) (hd : decode cc pc = .ok (.lload_n k, 1)) (hi : (k : Nat) = i) (hk : lv[n]? = some (i, .long x)) (kk : zb_Go em l G d own cc nL ret (pc + 1) lv (.long x :: st) S o) : zb_Go em l G d own cc nL ret pc lv st S o :=
  fun r S' ho p e s m args below meth c H locs ls X hP hS hl => lv_lload_n X.1 X.2.1 hd hi (lv_at hl n hk) (kk r S' ho p e s m args below meth c H locs ls X hP hS hl)
theorem zg_lload {i : Nat} {x : Int64} (n : Nat) (hd : decode cc pc = .ok (.lload i, 2)) (hk : lv[n]? = some (i, .long x)) (kk : zb_Go em l G d own cc nL ret (pc + 2) lv (.long x :: st) S o) : zb_Go em l G d own cc nL ret pc lv st S o :=
  fun r S' ho p e s m args below meth c H locs ls X hP hS hl => lv_lload X.1 X.2.1 hd (lv_at hl n hk) (kk r S' ho p e s m args below meth c H locs ls X hP hS hl)
theorem zg_aload_n {k : Fin 4} {i : Nat} {x : Nat} (n : Nat) (hd : decode cc pc = .ok (.aload_n k, 1)) (hi : (k : Nat) = i) (hk : lv[n]? = some (i, .ref x)) (kk : zb_Go em l G d own cc nL ret (pc + 1) lv (.ref x :: st) S o) : zb_Go em l G d own cc nL ret pc lv st S o :=
  fun r S' ho p e s m args below meth c H locs ls X hP hS hl => lv_aload_n X.1 X.2.1 hd hi (lv_at hl n hk) (kk r S' ho p e s m args below meth c H locs ls X hP hS hl)
theorem zg_istore_n {k : Fin 4} {i : Nat} {x : Int32} (hd : decode cc pc = .ok (.istore_n k, 1)) (hi : (k : Nat) = i) (hn : i < nL) (hl0 : (i, Value.int x) :: lv.filter (fun q => !(q.1 == i) && !(q.1 + 1 == i && q.2.category == 2)) = lv') (kk : zb_Go em l G d own cc nL ret (pc + 1) lv' rest S o) : zb_Go em l G d own cc nL ret pc lv (.int x :: rest) S o :=
  fun r S' ho p e s m args below meth c H locs ls X hP hS hl => lv_istore_n X.1 X.2.1 hd hi hl hn hl0 (fun ls hl => kk r S' ho p e s m args below meth c H locs ls X hP hS hl)
theorem zg_istore {i : Nat} {x : Int32} (hd : decode cc pc = .ok (.istore i, 2)) (hn : i < nL) (hl0 : (i, Value.int x) :: lv.filter (fun q => !(q.1 == i) && !(q.1 + 1 == i && q.2.category == 2)) = lv') (kk : zb_Go em l G d own cc nL ret (pc + 2) lv' rest S o) : zb_Go em l G d own cc nL ret pc lv (.int x :: rest) S o :=
  fun r S' ho p e s m args below meth c H locs ls X hP hS hl => lv_istore X.1 X.2.1 hd hl hn hl0 (fun ls hl => kk r S' ho p e s m args below meth c H locs ls X hP hS hl)
theorem zg_lstore_n {k : Fin 4} {i : Nat} {x : Int64} (hd : decode cc pc = .ok (.lstore_n k, 1)) (hi : (k : Nat) = i) (hn : i + 1 < nL) (hl0 : (i, Value.long x) :: lv.filter (fun q => !(q.1 == i) && (!(q.1 == i + 1) && !(q.1 + 1 == i && q.2.category == 2))) = lv') (kk : zb_Go em l G d own cc nL ret (pc + 1) lv' rest S o) : zb_Go em l G d own cc nL ret pc lv (.long x :: rest) S o :=
  fun r S' ho p e s m args below meth c H locs ls X hP hS hl => lv_lstore_n X.1 X.2.1 hd hi hl hn hl0 (fun ls hl => kk r S' ho p e s m args below meth c H locs ls X hP hS hl)
theorem zg_lstore {i : Nat} {x : Int64} (hd : decode cc pc = .ok (.lstore i, 2)) (hn : i + 1 < nL) (hl0 : (i, Value.long x) :: lv.filter (fun q => !(q.1 == i) && (!(q.1 == i + 1) && !(q.1 + 1 == i && q.2.category == 2))) = lv') (kk : zb_Go em l G d own cc nL ret (pc + 2) lv' rest S o) : zb_Go em l G d own cc nL ret pc lv (.long x :: rest) S o :=
  fun r S' ho p e s m args below meth c H locs ls X hP hS hl => lv_lstore X.1 X.2.1 hd hl hn hl0 (fun ls hl => kk r S' ho p e s m args below meth c H locs ls X hP hS hl)
theorem zg_iinc {i : Nat} {n : Int} {x v : Int32} (j : Nat) (hd : decode cc pc = .ok (.iinc i n, 3)) (hk : lv[j]? = some (i, .int x)) (hv : x + Int32.ofInt n = v) (hn : i < nL) (hl0 : (i, Value.int v) :: lv.filter (fun q => !(q.1 == i) && !(q.1 + 1 == i && q.2.category == 2)) = lv') (kk : zb_Go em l G d own cc nL ret (pc + 3) lv' st S o) : zb_Go em l G d own cc nL ret pc lv st S o :=
  fun r S' ho p e s m args below meth c H locs ls X hP hS hl => lv_iinc X.1 X.2.1 hd hl hk hv hn hl0 (fun ls hl => kk r S' ho p e s m args below meth c H locs ls X hP hS hl)
theorem zg_sub (ks : List Nat) (h : lv_pick lv ks = lv') (kk : zb_Go em l G d own cc nL ret pc lv' st S o) : zb_Go em l G d own cc nL ret pc lv st S o :=
  fun r S' ho p e s m args below meth c H locs ls X hP hS hl => kk r S' ho p e s m args below meth c H locs ls X hP hS (lv_sub hl ks h)
theorem zg_idiv {x y : Int32} (hd : decode cc pc = .ok (.idiv, 1)) (kk : ¬ y = 0 → zb_Go em l G d own cc nL ret (pc + 1) lv (.int (x / y) :: rest) S o) : zb_Go em l G d own cc nL ret pc lv (.int y :: .int x :: rest) S (if y = 0 then none else o) := by
  by_cases h : y = 0
  · rw [if_pos h]; exact zg_none
  · rw [if_neg h]
    exact fun r S' ho p e s m args below meth c H locs ls X hP hS hl => lv_idiv X.1 X.2.1 hd h (kk h r S' ho p e s m args below meth c H locs ls X hP hS hl)
theorem zg_irem {x y : Int32} (hd : decode cc pc = .ok (.irem, 1)) (kk : ¬ y = 0 → zb_Go em l G d own cc nL ret (pc + 1) lv (.int (x - x / y * y) :: rest) S o) : zb_Go em l G d own cc nL ret pc lv (.int y :: .int x :: rest) S (if y = 0 then none else o) := by
  by_cases h : y = 0
  · rw [if_pos h]; exact zg_none
  · rw [if_neg h]
    exact fun r S' ho p e s m args below meth c H locs ls X hP hS hl => lv_irem X.1 X.2.1 hd h (kk h r S' ho p e s m args below meth c H locs ls X hP hS hl)
theorem zg_ldiv {x y : Int64} (hd : decode cc pc = .ok (.ldiv, 1)) (kk : ¬ y = 0 → zb_Go em l G d own cc nL ret (pc + 1) lv (.long (x / y) :: rest) S o) : zb_Go em l G d own cc nL ret pc lv (.long y :: .long x :: rest) S (if y = 0 then none else o) := by
  by_cases h : y = 0
  · rw [if_pos h]; exact zg_none
  · rw [if_neg h]
    exact fun r S' ho p e s m args below meth c H locs ls X hP hS hl => lv_ldiv X.1 X.2.1 hd h (kk h r S' ho p e s m args below meth c H locs ls X hP hS hl)
theorem zg_lrem {x y : Int64} (hd : decode cc pc = .ok (.lrem, 1)) (kk : ¬ y = 0 → zb_Go em l G d own cc nL ret (pc + 1) lv (.long (x - x / y * y) :: rest) S o) : zb_Go em l G d own cc nL ret pc lv (.long y :: .long x :: rest) S (if y = 0 then none else o) := by
  by_cases h : y = 0
  · rw [if_pos h]; exact zg_none
  · rw [if_neg h]
    exact fun r S' ho p e s m args below meth c H locs ls X hP hS hl => lv_lrem X.1 X.2.1 hd h (kk h r S' ho p e s m args below meth c H locs ls X hP hS hl)
theorem zg_iadd {x y : Int32} (hd : decode cc pc = .ok (.iadd, 1)) (kk : zb_Go em l G d own cc nL ret (pc + 1) lv (.int (x + y) :: rest) S o) : zb_Go em l G d own cc nL ret pc lv (.int y :: .int x :: rest) S o :=
  fun r S' ho p e s m args below meth c H locs ls X hP hS hl => lv_iadd X.1 X.2.1 hd (kk r S' ho p e s m args below meth c H locs ls X hP hS hl)
theorem zg_isub {x y : Int32} (hd : decode cc pc = .ok (.isub, 1)) (kk : zb_Go em l G d own cc nL ret (pc + 1) lv (.int (x - y) :: rest) S o) : zb_Go em l G d own cc nL ret pc lv (.int y :: .int x :: rest) S o :=
  fun r S' ho p e s m args below meth c H locs ls X hP hS hl => lv_isub X.1 X.2.1 hd (kk r S' ho p e s m args below meth c H locs ls X hP hS hl)
theorem zg_imul {x y : Int32} (hd : decode cc pc = .ok (.imul, 1)) (kk : zb_Go em l G d own cc nL ret (pc + 1) lv (.int (x * y) :: rest) S o) : zb_Go em l G d own cc nL ret pc lv (.int y :: .int x :: rest) S o :=
  fun r S' ho p e s m args below meth c H locs ls X hP hS hl => lv_imul X.1 X.2.1 hd (kk r S' ho p e s m args below meth c H locs ls X hP hS hl)
theorem zg_iand {x y : Int32} (hd : decode cc pc = .ok (.iand, 1)) (kk : zb_Go em l G d own cc nL ret (pc + 1) lv (.int (x &&& y) :: rest) S o) : zb_Go em l G d own cc nL ret pc lv (.int y :: .int x :: rest) S o :=
  fun r S' ho p e s m args below meth c H locs ls X hP hS hl => lv_iand X.1 X.2.1 hd (kk r S' ho p e s m args below meth c H locs ls X hP hS hl)
theorem zg_ior {x y : Int32} (hd : decode cc pc = .ok (.ior, 1)) (kk : zb_Go em l G d own cc nL ret (pc + 1) lv (.int (x ||| y) :: rest) S o) : zb_Go em l G d own cc nL ret pc lv (.int y :: .int x :: rest) S o :=
  fun r S' ho p e s m args below meth c H locs ls X hP hS hl => lv_ior X.1 X.2.1 hd (kk r S' ho p e s m args below meth c H locs ls X hP hS hl)
theorem zg_ixor {x y : Int32} (hd : decode cc pc = .ok (.ixor, 1)) (kk : zb_Go em l G d own cc nL ret (pc + 1) lv (.int (x ^^^ y) :: rest) S o) : zb_Go em l G d own cc nL ret pc lv (.int y :: .int x :: rest) S o :=
  fun r S' ho p e s m args below meth c H locs ls X hP hS hl => lv_ixor X.1 X.2.1 hd (kk r S' ho p e s m args below meth c H locs ls X hP hS hl)
theorem zg_ishl {x y : Int32} (hd : decode cc pc = .ok (.ishl, 1)) (kk : zb_Go em l G d own cc nL ret (pc + 1) lv (.int (x <<< (y &&& 31)) :: rest) S o) : zb_Go em l G d own cc nL ret pc lv (.int y :: .int x :: rest) S o :=
  fun r S' ho p e s m args below meth c H locs ls X hP hS hl => lv_ishl X.1 X.2.1 hd (kk r S' ho p e s m args below meth c H locs ls X hP hS hl)
theorem zg_ishr {x y : Int32} (hd : decode cc pc = .ok (.ishr, 1)) (kk : zb_Go em l G d own cc nL ret (pc + 1) lv (.int (x >>> (y &&& 31)) :: rest) S o) : zb_Go em l G d own cc nL ret pc lv (.int y :: .int x :: rest) S o :=
  fun r S' ho p e s m args below meth c H locs ls X hP hS hl => lv_ishr X.1 X.2.1 hd (kk r S' ho p e s m args below meth c H locs ls X hP hS hl)
theorem zg_ladd {x y : Int64} (hd : decode cc pc = .ok (.ladd, 1)) (kk : zb_Go em l G d own cc nL ret (pc + 1) lv (.long (x + y) :: rest) S o) : zb_Go em l G d own cc nL ret pc lv (.long y :: .long x :: rest) S o :=
  fun r S' ho p e s m args below meth c H locs ls X hP hS hl => lv_ladd X.1 X.2.1 hd (kk r S' ho p e s m args below meth c H locs ls X hP hS hl)
theorem zg_lsub {x y : Int64} (hd : decode cc pc = .ok (.lsub, 1)) (kk : zb_Go em l G d own cc nL ret (pc + 1) lv (.long (x - y) :: rest) S o) : zb_Go em l G d own cc nL ret pc lv (.long y :: .long x :: rest) S o :=
  fun r S' ho p e s m args below meth c H locs ls X hP hS hl => lv_lsub X.1 X.2.1 hd (kk r S' ho p e s m args below meth c H locs ls X hP hS hl)
theorem zg_lmul {x y : Int64} (hd : decode cc pc = .ok (.lmul, 1)) (kk : zb_Go em l G d own cc nL ret (pc + 1) lv (.long (x * y) :: rest) S o) : zb_Go em l G d own cc nL ret pc lv (.long y :: .long x :: rest) S o :=
  fun r S' ho p e s m args below meth c H locs ls X hP hS hl => lv_lmul X.1 X.2.1 hd (kk r S' ho p e s m args below meth c H locs ls X hP hS hl)
theorem zg_land {x y : Int64} (hd : decode cc pc = .ok (.land, 1)) (kk : zb_Go em l G d own cc nL ret (pc + 1) lv (.long (x &&& y) :: rest) S o) : zb_Go em l G d own cc nL ret pc lv (.long y :: .long x :: rest) S o :=
  fun r S' ho p e s m args below meth c H locs ls X hP hS hl => lv_land X.1 X.2.1 hd (kk r S' ho p e s m args below meth c H locs ls X hP hS hl)
theorem zg_lor {x y : Int64} (hd : decode cc pc = .ok (.lor, 1)) (kk : zb_Go em l G d own cc nL ret (pc + 1) lv (.long (x ||| y) :: rest) S o) : zb_Go em l G d own cc nL ret pc lv (.long y :: .long x :: rest) S o :=
  fun r S' ho p e s m args below meth c H locs ls X hP hS hl => lv_lor X.1 X.2.1 hd (kk r S' ho p e s m args below meth c H locs ls X hP hS hl)
theorem zg_i2l {x : Int32} (hd : decode cc pc = .ok (.i2l, 1)) (kk : zb_Go em l G d own cc nL ret (pc + 1) lv (.long x.toInt64 :: rest) S o) : zb_Go em l G d own cc nL ret pc lv (.int x :: rest) S o :=
  fun r S' ho p e s m args below meth c H locs ls X hP hS hl => lv_i2l X.1 X.2.1 hd rfl (kk r S' ho p e s m args below meth c H locs ls X hP hS hl)
theorem zg_l2i {x : Int64} (hd : decode cc pc = .ok (.l2i, 1)) (kk : zb_Go em l G d own cc nL ret (pc + 1) lv (.int x.toInt32 :: rest) S o) : zb_Go em l G d own cc nL ret pc lv (.long x :: rest) S o :=
  fun r S' ho p e s m args below meth c H locs ls X hP hS hl => lv_l2i X.1 X.2.1 hd rfl (kk r S' ho p e s m args below meth c H locs ls X hP hS hl)
theorem zg_iushr {x y : Int32} (hd : decode cc pc = .ok (.iushr, 1)) (kk : zb_Go em l G d own cc nL ret (pc + 1) lv (.int (x.toUInt32 >>> (y.toUInt32 &&& Int32.toUInt32 31)).toInt32 :: rest) S o) : zb_Go em l G d own cc nL ret pc lv (.int y :: .int x :: rest) S o :=
  fun r S' ho p e s m args below meth c H locs ls X hP hS hl => lv_iushr X.1 X.2.1 hd rfl (kk r S' ho p e s m args below meth c H locs ls X hP hS hl)
theorem zg_lushr {x : Int64} {y : Int32} (hd : decode cc pc = .ok (.lushr, 1)) (kk : zb_Go em l G d own cc nL ret (pc + 1) lv (.long (x.toUInt64 >>> (y.toInt64.toUInt64 &&& Int64.toUInt64 63)).toInt64 :: rest) S o) : zb_Go em l G d own cc nL ret pc lv (.int y :: .long x :: rest) S o :=
  fun r S' ho p e s m args below meth c H locs ls X hP hS hl => lv_lushr X.1 X.2.1 hd rfl (kk r S' ho p e s m args below meth c H locs ls X hP hS hl)
theorem zg_lshl {x : Int64} {y : Int32} (hd : decode cc pc = .ok (.lshl, 1)) (kk : zb_Go em l G d own cc nL ret (pc + 1) lv (.long (x <<< (y.toInt64 &&& 63)) :: rest) S o) : zb_Go em l G d own cc nL ret pc lv (.int y :: .long x :: rest) S o :=
  fun r S' ho p e s m args below meth c H locs ls X hP hS hl => lv_lshl X.1 X.2.1 hd rfl (kk r S' ho p e s m args below meth c H locs ls X hP hS hl)
theorem zg_ineg {x : Int32} (hd : decode cc pc = .ok (.ineg, 1)) (kk : zb_Go em l G d own cc nL ret (pc + 1) lv (.int (-x) :: rest) S o) : zb_Go em l G d own cc nL ret pc lv (.int x :: rest) S o :=
  fun r S' ho p e s m args below meth c H locs ls X hP hS hl => lv_ineg X.1 X.2.1 hd (kk r S' ho p e s m args below meth c H locs ls X hP hS hl)
theorem zg_lcmp {x y : Int64} (hd : decode cc pc = .ok (.lcmp, 1)) (kk : zb_Go em l G d own cc nL ret (pc + 1) lv (.int (lg_cmp x y) :: rest) S o) : zb_Go em l G d own cc nL ret pc lv (.long y :: .long x :: rest) S o :=
  fun r S' ho p e s m args below meth c H locs ls X hP hS hl => W.lcmp X.1 X.2.1 hd (kk r S' ho p e s m args below meth c H locs ls X hP hS hl)
theorem zg_dup {va : Value} (hd : decode cc pc = .ok (.dup, 1)) (hva : va.category = 1) (kk : zb_Go em l G d own cc nL ret (pc + 1) lv (va :: va :: rest) S o) : zb_Go em l G d own cc nL ret pc lv (va :: rest) S o :=
  fun r S' ho p e s m args below meth c H locs ls X hP hS hl => lv_dup X.1 X.2.1 hd hva (kk r S' ho p e s m args below meth c H locs ls X hP hS hl)
theorem zg_dup2 {va vb : Value} (hd : decode cc pc = .ok (.dup2, 1)) (hva : va.category = 1) (hvb : vb.category = 1) (kk : zb_Go em l G d own cc nL ret (pc + 1) lv (va :: vb :: va :: vb :: rest) S o) : zb_Go em l G d own cc nL ret pc lv (va :: vb :: rest) S o :=
  fun r S' ho p e s m args below meth c H locs ls X hP hS hl => lv_dup2_11 X.1 X.2.1 hd hva hvb (kk r S' ho p e s m args below meth c H locs ls X hP hS hl)
theorem zg_pop {va : Value} (hd : decode cc pc = .ok (.pop, 1)) (hva : va.category = 1) (kk : zb_Go em l G d own cc nL ret (pc + 1) lv rest S o) : zb_Go em l G d own cc nL ret pc lv (va :: rest) S o :=
  fun r S' ho p e s m args below meth c H locs ls X hP hS hl => lv_pop X.1 X.2.1 hd hva (kk r S' ho p e s m args below meth c H locs ls X hP hS hl)
theorem zg_goto {off : Int} {tgt : Nat} (hd : decode cc pc = .ok (.goto off, 3)) (ht : (pc : Int) + off = (tgt : Int)) (kk : zb_Go em l G d own cc nL ret tgt lv st S o) : zb_Go em l G d own cc nL ret pc lv st S o :=
  fun r S' ho p e s m args below meth c H locs ls X hP hS hl => lv_goto X.1 X.2.1 hd ht (kk r S' ho p e s m args below meth c H locs ls X hP hS hl)
theorem zg_if_eq {x : Int32} {off : Int} {oT oF : Option (α × zb_S)} (tgt : Nat) (hd : decode cc pc = .ok (.ifCond .eq off, 3)) (ht : (pc : Int) + off = (tgt : Int)) (kt : zb_Go em l G d own cc nL ret tgt lv rest S oT) (kf : zb_Go em l G d own cc nL ret (pc + 3) lv rest S oF) : zb_Go em l G d own cc nL ret pc lv (.int x :: rest) S (if x = 0 then oT else oF) :=
  fun r S' ho p e s m args below meth c H locs ls X hP hS hl => lv_if_eq X.1 X.2.1 hd ht (fun h => kt r S' (by rw [if_pos h] at ho; exact ho) p e s m args below meth c H locs ls X hP hS hl) (fun h => kf r S' (by rw [if_neg h] at ho; exact ho) p e s m args below meth c H locs ls X hP hS hl)
theorem zg_icmp_eq {x y : Int32} {off : Int} {oT oF : Option (α × zb_S)} (tgt : Nat) (hd : decode cc pc = .ok (.if_icmp .eq off, 3)) (ht : (pc : Int) + off = (tgt : Int)) (kt : zb_Go em l G d own cc nL ret tgt lv rest S oT) (kf : zb_Go em l G d own cc nL ret (pc + 3) lv rest S oF) : zb_Go em l G d own cc nL ret pc lv (.int y :: .int x :: rest) S (if x = y then oT else oF) :=
  fun r S' ho p e s m args below meth c H locs ls X hP hS hl => lv_icmp_eq X.1 X.2.1 hd ht (fun h => kt r S' (by rw [if_pos h] at ho; exact ho) p e s m args below meth c H locs ls X hP hS hl) (fun h => kf r S' (by rw [if_neg h] at ho; exact ho) p e s m args below meth c H locs ls X hP hS hl)
theorem zg_if_ne {x : Int32} {off : Int} {oT oF : Option (α × zb_S)} (tgt : Nat) (hd : decode cc pc = .ok (.ifCond .ne off, 3)) (ht : (pc : Int) + off = (tgt : Int)) (kt : zb_Go em l G d own cc nL ret tgt lv rest S oT) (kf : zb_Go em l G d own cc nL ret (pc + 3) lv rest S oF) : zb_Go em l G d own cc nL ret pc lv (.int x :: rest) S (if x = 0 then oF else oT) :=
  fun r S' ho p e s m args below meth c H locs ls X hP hS hl => lv_if_ne X.1 X.2.1 hd ht (fun h => kt r S' (by rw [if_neg h] at ho; exact ho) p e s m args below meth c H locs ls X hP hS hl) (fun h => kf r S' (by rw [if_pos h] at ho; exact ho) p e s m args below meth c H locs ls X hP hS hl)
theorem zg_icmp_ne {x y : Int32} {off : Int} {oT oF : Option (α × zb_S)} (tgt : Nat) (hd : decode cc pc = .ok (.if_icmp .ne off, 3)) (ht : (pc : Int) + off = (tgt : Int)) (kt : zb_Go em l G d own cc nL ret tgt lv rest S oT) (kf : zb_Go em l G d own cc nL ret (pc + 3) lv rest S oF) : zb_Go em l G d own cc nL ret pc lv (.int y :: .int x :: rest) S (if x = y then oF else oT) :=
  fun r S' ho p e s m args below meth c H locs ls X hP hS hl => lv_icmp_ne X.1 X.2.1 hd ht (fun h => kt r S' (by rw [if_neg h] at ho; exact ho) p e s m args below meth c H locs ls X hP hS hl) (fun h => kf r S' (by rw [if_pos h] at ho; exact ho) p e s m args below meth c H locs ls X hP hS hl)
theorem zg_if_lt {x : Int32} {off : Int} {oT oF : Option (α × zb_S)} (tgt : Nat) (hd : decode cc pc = .ok (.ifCond .lt off, 3)) (ht : (pc : Int) + off = (tgt : Int)) (kt : zb_Go em l G d own cc nL ret tgt lv rest S oT) (kf : zb_Go em l G d own cc nL ret (pc + 3) lv rest S oF) : zb_Go em l G d own cc nL ret pc lv (.int x :: rest) S (if x < 0 then oT else oF) :=
  fun r S' ho p e s m args below meth c H locs ls X hP hS hl => lv_if_lt X.1 X.2.1 hd ht (fun h => kt r S' (by rw [if_pos h] at ho; exact ho) p e s m args below meth c H locs ls X hP hS hl) (fun h => kf r S' (by rw [if_neg h] at ho; exact ho) p e s m args below meth c H locs ls X hP hS hl)
theorem zg_icmp_lt {x y : Int32} {off : Int} {oT oF : Option (α × zb_S)} (tgt : Nat) (hd : decode cc pc = .ok (.if_icmp .lt off, 3)) (ht : (pc : Int) + off = (tgt : Int)) (kt : zb_Go em l G d own cc nL ret tgt lv rest S oT) (kf : zb_Go em l G d own cc nL ret (pc + 3) lv rest S oF) : zb_Go em l G d own cc nL ret pc lv (.int y :: .int x :: rest) S (if x < y then oT else oF) :=
  fun r S' ho p e s m args below meth c H locs ls X hP hS hl => lv_icmp_lt X.1 X.2.1 hd ht (fun h => kt r S' (by rw [if_pos h] at ho; exact ho) p e s m args below meth c H locs ls X hP hS hl) (fun h => kf r S' (by rw [if_neg h] at ho; exact ho) p e s m args below meth c H locs ls X hP hS hl)
theorem zg_if_ge {x : Int32} {off : Int} {oT oF : Option (α × zb_S)} (tgt : Nat) (hd : decode cc pc = .ok (.ifCond .ge off, 3)) (ht : (pc : Int) + off = (tgt : Int)) (kt : zb_Go em l G d own cc nL ret tgt lv rest S oT) (kf : zb_Go em l G d own cc nL ret (pc + 3) lv rest S oF) : zb_Go em l G d own cc nL ret pc lv (.int x :: rest) S (if 0 ≤ x then oT else oF) :=
  fun r S' ho p e s m args below meth c H locs ls X hP hS hl => lv_if_ge X.1 X.2.1 hd ht (fun h => kt r S' (by rw [if_pos h] at ho; exact ho) p e s m args below meth c H locs ls X hP hS hl) (fun h => kf r S' (by rw [if_neg h] at ho; exact ho) p e s m args below meth c H locs ls X hP hS hl)
theorem zg_icmp_ge {x y : Int32} {off : Int} {oT oF : Option (α × zb_S)} (tgt : Nat) (hd : decode cc pc = .ok (.if_icmp .ge off, 3)) (ht : (pc : Int) + off = (tgt : Int)) (kt : zb_Go em l G d own cc nL ret tgt lv rest S oT) (kf : zb_Go em l G d own cc nL ret (pc + 3) lv rest S oF) : zb_Go em l G d own cc nL ret pc lv (.int y :: .int x :: rest) S (if y ≤ x then oT else oF) :=
  fun r S' ho p e s m args below meth c H locs ls X hP hS hl => lv_icmp_ge X.1 X.2.1 hd ht (fun h => kt r S' (by rw [if_pos h] at ho; exact ho) p e s m args below meth c H locs ls X hP hS hl) (fun h => kf r S' (by rw [if_neg h] at ho; exact ho) p e s m args below meth c H locs ls X hP hS hl)
theorem zg_if_gt {x : Int32} {off : Int} {oT oF : Option (α × zb_S)} (tgt : Nat) (hd : decode cc pc = .ok (.ifCond .gt off, 3)) (ht : (pc : Int) + off = (tgt : Int)) (kt : zb_Go em l G d own cc nL ret tgt lv rest S oT) (kf : zb_Go em l G d own cc nL ret (pc + 3) lv rest S oF) : zb_Go em l G d own cc nL ret pc lv (.int x :: rest) S (if 0 < x then oT else oF) :=
  fun r S' ho p e s m args below meth c H locs ls X hP hS hl => lv_if_gt X.1 X.2.1 hd ht (fun h => kt r S' (by rw [if_pos h] at ho; exact ho) p e s m args below meth c H locs ls X hP hS hl) (fun h => kf r S' (by rw [if_neg h] at ho; exact ho) p e s m args below meth c H locs ls X hP hS hl)
theorem zg_icmp_gt {x y : Int32} {off : Int} {oT oF : Option (α × zb_S)} (tgt : Nat) (hd : decode cc pc = .ok (.if_icmp .gt off, 3)) (ht : (pc : Int) + off = (tgt : Int)) (kt : zb_Go em l G d own cc nL ret tgt lv rest S oT) (kf : zb_Go em l G d own cc nL ret (pc + 3) lv rest S oF) : zb_Go em l G d own cc nL ret pc lv (.int y :: .int x :: rest) S (if y < x then oT else oF) :=
  fun r S' ho p e s m args below meth c H locs ls X hP hS hl => lv_icmp_gt X.1 X.2.1 hd ht (fun h => kt r S' (by rw [if_pos h] at ho; exact ho) p e s m args below meth c H locs ls X hP hS hl) (fun h => kf r S' (by rw [if_neg h] at ho; exact ho) p e s m args below meth c H locs ls X hP hS hl)
theorem zg_if_le {x : Int32} {off : Int} {oT oF : Option (α × zb_S)} (tgt : Nat) (hd : decode cc pc = .ok (.ifCond .le off, 3)) (ht : (pc : Int) + off = (tgt : Int)) (kt : zb_Go em l G d own cc nL ret tgt lv rest S oT) (kf : zb_Go em l G d own cc nL ret (pc + 3) lv rest S oF) : zb_Go em l G d own cc nL ret pc lv (.int x :: rest) S (if x ≤ 0 then oT else oF) :=
  fun r S' ho p e s m args below meth c H locs ls X hP hS hl => lv_if_le X.1 X.2.1 hd ht (fun h => kt r S' (by rw [if_pos h] at ho; exact ho) p e s m args below meth c H locs ls X hP hS hl) (fun h => kf r S' (by rw [if_neg h] at ho; exact ho) p e s m args below meth c H locs ls X hP hS hl)
theorem zg_icmp_le {x y : Int32} {off : Int} {oT oF : Option (α × zb_S)} (tgt : Nat) (hd : decode cc pc = .ok (.if_icmp .le off, 3)) (ht : (pc : Int) + off = (tgt : Int)) (kt : zb_Go em l G d own cc nL ret tgt lv rest S oT) (kf : zb_Go em l G d own cc nL ret (pc + 3) lv rest S oF) : zb_Go em l G d own cc nL ret pc lv (.int y :: .int x :: rest) S (if x ≤ y then oT else oF) :=
  fun r S' ho p e s m args below meth c H locs ls X hP hS hl => lv_icmp_le X.1 X.2.1 hd ht (fun h => kt r S' (by rw [if_pos h] at ho; exact ho) p e s m args below meth c H locs ls X hP hS hl) (fun h => kf r S' (by rw [if_neg h] at ho; exact ho) p e s m args below meth c H locs ls X hP hS hl)
theorem zg_tableOut {dflt lo hi : Int} {offs : Array Int} {len : Nat} {x : Int32} {tgt : Nat} (hd : decode cc pc = .ok (.tableswitch dflt lo hi offs, len)) (h : x.toInt < lo ∨ hi < x.toInt) (ht : (pc : Int) + dflt = (tgt : Int)) (kk : zb_Go em l G d own cc nL ret tgt lv rest S o) : zb_Go em l G d own cc nL ret pc lv (.int x :: rest) S o :=
  fun r S' ho p e s m args below meth c H locs ls X hP hS hl => lv_tableOut X.1 X.2.1 hd h ht (kk r S' ho p e s m args below meth c H locs ls X hP hS hl)
theorem zg_tableIn {dflt lo hi : Int} {offs : Array Int} {len : Nat} {x : Int32} {off : Int} {tgt : Nat} (hd : decode cc pc = .ok (.tableswitch dflt lo hi offs, len)) (h1 : ¬ x.toInt < lo) (h2 : ¬ hi < x.toInt) (hoff : offs[(x.toInt - lo).toNat]? = some off) (ht : (pc : Int) + off = (tgt : Int)) (kk : zb_Go em l G d own cc nL ret tgt lv rest S o) : zb_Go em l G d own cc nL ret pc lv (.int x :: rest) S o :=
  fun r S' ho p e s m args below meth c H locs ls X hP hS hl => lv_tableIn X.1 X.2.1 hd h1 h2 hoff ht (kk r S' ho p e s m args below meth c H locs ls X hP hS hl)
theorem zg_lookup {dflt : Int} {ps : Array (Int × Int)} {len : Nat} {x : Int32} {off : Int} {tgt : Nat} (hd : decode cc pc = .ok (.lookupswitch dflt ps, len)) (hp : (ps.toList.zip (ps.toList.drop 1)).all (fun (a, next) => a.1 < next.1) = true) (hoff : Op.lookupswitch.offset ps.toList dflt x.toInt = off) (ht : (pc : Int) + off = (tgt : Int)) (kk : zb_Go em l G d own cc nL ret tgt lv rest S o) : zb_Go em l G d own cc nL ret pc lv (.int x :: rest) S o :=
  fun r S' ho p e s m args below meth c H locs ls X hP hS hl => lv_lookup X.1 X.2.1 hd hp hoff ht (kk r S' ho p e s m args below meth c H locs ls X hP hS hl)
theorem zg_if {c : Prop} [Decidable c] {o1 o2 : Option (α × zb_S)} (k1 : c → zb_Go em l G d own cc nL ret pc lv st S o1) (k2 : ¬ c → zb_Go em l G d own cc nL ret pc lv st S o2) : zb_Go em l G d own cc nL ret pc lv st S (if c then o1 else o2) := by
  by_cases h : c
  · rw [if_pos h]; exact k1 h
  · rw [if_neg h]; exact k2 h
theorem zb_val_i {b k : Nat} (h : zb_tyk (zb_kd b) k = 0) : zb_val G S b k = .int (zb_i S b k) := by simp [zb_val, h]
theorem zb_val_l {b k : Nat} (h : zb_tyk (zb_kd b) k = 1) : zb_val G S b k = .long (zb_l S b k) := by simp [zb_val, h]
theorem zb_val_r {b k : Nat} (h : zb_tyk (zb_kd b) k = 2) : zb_val G S b k = .ref (zb_ad G (zb_rf b k)) := by simp [zb_val, h]
theorem zb_cell_o {b ci : Nat} (hkd : zb_kd b = ci) (h7 : ci < 7) : zb_cell G S b = .inr (ci, zb_fs G S b) := by
  simp only [zb_cell, hkd]
  rw [if_neg (by omega), if_neg (by omega)]
theorem zb_cell_I {b : Nat} (hkd : zb_kd b = 7) : zb_cell G S b = .inl (zb_cI G, zb_sz b, .inl (zb_a S b)) := by simp [zb_cell, hkd]
theorem zb_cell_Z {b : Nat} (hkd : zb_kd b = 8) : zb_cell G S b = .inl (zb_cZ G, zb_sz b, .inl (zb_a S b)) := by simp [zb_cell, hkd]
theorem zb_fs_at {b k : Nat} (hk : k < zb_nfk (zb_kd b)) : (zb_fs G S b)[k]? = some (zb_val G S b k) := by simp [zb_fs, hk]
theorem zb_fs_len {b : Nat} : (zb_fs G S b).length = zb_nfk (zb_kd b) := by simp [zb_fs]
theorem zb_fs_pi {b k : Nat} {x : Int32} (h0 : zb_tyk (zb_kd b) k = 0) : zb_fs G (zb_pi S b k x) b = (zb_fs G S b).set k (.int x) := by
  apply List.ext_getElem?
  intro j
  rw [List.getElem?_set, zb_fs_len]
  by_cases hj : j < zb_nfk (zb_kd b)
  · rw [zb_fs_at hj, zb_fs_at hj]
    by_cases hjk : k = j
    · subst hjk
      simp [hj, zb_val, h0, zb_pi, zb_i, va_up]
    · simp [hjk, zb_val, zb_pi, zb_i, zb_l, va_up, Ne.symm hjk]
  · rw [List.getElem?_eq_none (by rw [zb_fs_len]; omega), List.getElem?_eq_none (by rw [zb_fs_len]; omega)]
    by_cases hjk : k = j
    · subst hjk; simp [hj]
    · simp [hjk]
theorem zb_fs_pl {b k : Nat} {x : Int64} (h0 : zb_tyk (zb_kd b) k = 1) : zb_fs G (zb_pl S b k x) b = (zb_fs G S b).set k (.long x) := by
  apply List.ext_getElem?
  intro j
  rw [List.getElem?_set, zb_fs_len]
  by_cases hj : j < zb_nfk (zb_kd b)
  · rw [zb_fs_at hj, zb_fs_at hj]
    by_cases hjk : k = j
    · subst hjk
      simp [hj, zb_val, h0, zb_pl, zb_l, va_up]
    · simp [hjk, zb_val, zb_pl, zb_i, zb_l, va_up, Ne.symm hjk]
  · rw [List.getElem?_eq_none (by rw [zb_fs_len]; omega), List.getElem?_eq_none (by rw [zb_fs_len]; omega)]
    by_cases hjk : k = j
    · subst hjk; simp [hj]
    · simp [hjk]
theorem zb_cell_ext {S1 S2 : zb_S} {j : Nat} (h1 : S1.1 j = S2.1 j) (h2 : S1.2.1 j = S2.2.1 j) (h3 : S1.2.2 j = S2.2.2 j) : zb_cell G S1 j = zb_cell G S2 j := by
  have e1 : zb_i S1 j = zb_i S2 j := h1
  have e2 : zb_l S1 j = zb_l S2 j := h2
  have e3 : zb_a S1 j = zb_a S2 j := h3
  have e4 : zb_val G S1 j = zb_val G S2 j := by funext k; simp only [zb_val, e1, e2]
  simp only [zb_cell, zb_fs, e3, e4]
theorem zg_get {b ci k N index : Nat} {C : String} {Tt : u_T} {v : Value} (hkd : zb_kd b = ci) (h7 : ci < 7) (hc : vwCl[ci]? = some (C, Tt, N)) (hN : zb_nfk ci = N) (hin : ∀ w ∈ u_ws C Tt N, w ∈ wsL_law) (hk : k < N) (hT : (Tt k).1 = C) (hw : Cond.fieldLink own index (Tt k).1 (Tt k).2.1 (Tt k).2.2.1 ∈ wsL_law) (hv : zb_val G S b k = v) (hd : decode cc pc = .ok (.getfield index, 3)) (kk : zb_Go em l G d own cc nL ret (pc + 3) lv (v :: rest) S o) : zb_Go em l G d own cc nL ret pc lv (.ref (zb_ad G b) :: rest) S o :=
  fun r S' ho p e s m args below meth c H locs ls X hP hS hl => va_get X.1 X.2.1 X.2.2.2.2.2.1 hin X.2.2.2.2.1 X.2.2.2.2.2.2.2.1 hP b (by rw [zb_at (zb_lt hkd (by omega)), zb_cell_o hkd h7]) hc k hk (X.2.2.2.2.2.1 _ hw) (fun _ h9 => h9) (by rw [zb_fs_at (by rw [hkd, hN]; exact hk), hv]) hd (kk r S' ho p e s m args below meth c H locs ls X hP hS hl)
theorem zg_puti {b ci k N index : Nat} {C : String} {Tt : u_T} {x : Int32} {kf : zb_S → Option (α × zb_S)} (hkd : zb_kd b = ci) (h7 : ci < 7) (hc : vwCl[ci]? = some (C, Tt, N)) (hN : zb_nfk ci = N) (hin : ∀ w ∈ u_ws C Tt N, w ∈ wsL_law) (ty0 : Nat → FieldType) (hty : ∀ k, k < N → parseFieldDescriptor (Tt k).2.2.1 = some (ty0 k)) (hnm : ∀ a, a < N → ∀ b, b < N → a ≠ b → (Tt a).2.1 ≠ (Tt b).2.1) (hk : k < N) (hw : Cond.fieldLink own index (Tt k).1 (Tt k).2.1 (Tt k).2.2.1 ∈ wsL_law) (h0 : zb_tyk ci k = 0) (hfin : (Tt k).2.2.2 = false) (hti : parseFieldDescriptor (Tt k).2.2.1 = some .int) (hd : decode cc pc = .ok (.putfield index, 3)) (kk : ∀ S1 : zb_S, zb_Go em l G d own cc nL ret (pc + 3) lv rest S1 (kf S1)) : zb_Go em l G d own cc nL ret pc lv (.int x :: .ref (zb_ad G b) :: rest) S (zb_let (zb_pi S b k x) kf) := by
  intro r S' ho p e s m args below meth c H locs ls X hP hS hl
  have hlt := zb_lt hkd (by omega)
  refine va_put (ty := .int) (v := .int x) X.1 X.2.1 X.2.2.2.2.2.1 hin ty0 hty hnm X.2.2.2.2.1 X.2.2.2.2.2.2.2.1 hP (zb_Dd X.2.2.2.2.2.2.2) hS b (by rw [zb_at hlt, zb_cell_o hkd h7]) hc k hk (X.2.2.2.2.2.1 _ hw) (fun _ h9 => h9) hfin hti rfl rfl (by rw [zb_fs_len, hkd, hN]; exact hk) hd (fun H1 locs1 hP1 _ hS1 => ?_)
  have e1 : (zb_pic G S).set b (zb_ad G b, .inr (ci, (zb_fs G S b).set k (.int x))) = zb_pic G (zb_pi S b k x) := zb_set hlt (by rw [zb_cell_o hkd h7, zb_fs_pi (by rw [hkd]; exact h0)]) (fun j hj => zb_cell_ext (by simp [zb_pi, va_up, hj]) rfl rfl)
  rw [e1] at hP1
  exact kk _ r S' ho p e s m args below meth c H1 locs1 ls X hP1 hS1 hl
theorem zg_putl {b ci k N index : Nat} {C : String} {Tt : u_T} {x : Int64} {kf : zb_S → Option (α × zb_S)} (hkd : zb_kd b = ci) (h7 : ci < 7) (hc : vwCl[ci]? = some (C, Tt, N)) (hN : zb_nfk ci = N) (hin : ∀ w ∈ u_ws C Tt N, w ∈ wsL_law) (ty0 : Nat → FieldType) (hty : ∀ k, k < N → parseFieldDescriptor (Tt k).2.2.1 = some (ty0 k)) (hnm : ∀ a, a < N → ∀ b, b < N → a ≠ b → (Tt a).2.1 ≠ (Tt b).2.1) (hk : k < N) (hw : Cond.fieldLink own index (Tt k).1 (Tt k).2.1 (Tt k).2.2.1 ∈ wsL_law) (h0 : zb_tyk ci k = 1) (hfin : (Tt k).2.2.2 = false) (hti : parseFieldDescriptor (Tt k).2.2.1 = some .long) (hd : decode cc pc = .ok (.putfield index, 3)) (kk : ∀ S1 : zb_S, zb_Go em l G d own cc nL ret (pc + 3) lv rest S1 (kf S1)) : zb_Go em l G d own cc nL ret pc lv (.long x :: .ref (zb_ad G b) :: rest) S (zb_let (zb_pl S b k x) kf) := by
  intro r S' ho p e s m args below meth c H locs ls X hP hS hl
  have hlt := zb_lt hkd (by omega)
  refine va_put (ty := .long) (v := .long x) X.1 X.2.1 X.2.2.2.2.2.1 hin ty0 hty hnm X.2.2.2.2.1 X.2.2.2.2.2.2.2.1 hP (zb_Dd X.2.2.2.2.2.2.2) hS b (by rw [zb_at hlt, zb_cell_o hkd h7]) hc k hk (X.2.2.2.2.2.1 _ hw) (fun _ h9 => h9) hfin hti rfl rfl (by rw [zb_fs_len, hkd, hN]; exact hk) hd (fun H1 locs1 hP1 _ hS1 => ?_)
  have e1 : (zb_pic G S).set b (zb_ad G b, .inr (ci, (zb_fs G S b).set k (.long x))) = zb_pic G (zb_pl S b k x) := zb_set hlt (by rw [zb_cell_o hkd h7, zb_fs_pl (by rw [hkd]; exact h0)]) (fun j hj => zb_cell_ext rfl (by simp [zb_pl, va_up, hj]) rfl)
  rw [e1] at hP1
  exact kk _ r S' ho p e s m args below meth c H1 locs1 ls X hP1 hS1 hl
theorem zb_if {c : Prop} [Decidable c] {o1 : Option (α × zb_S)} {x : α × zb_S} (h : (if c then o1 else none) = some x) : c ∧ o1 = some x := by
  by_cases q : c
  · rw [if_pos q] at h; exact ⟨q, h⟩
  · rw [if_neg q] at h; cases h
theorem zg_iald {b : Nat} {i : Int32} (hkd : zb_kd b = 7) (hd : decode cc pc = .ok (.iaload, 1)) (kk : zb_Go em l G d own cc nL ret (pc + 1) lv (.int (zb_a S b i.toNatClampNeg) :: rest) S o) : zb_Go em l G d own cc nL ret pc lv (.int i :: .ref (zb_ad G b) :: rest) S (if zb_in i (zb_sz b) then o else none) :=
  fun r S' ho p e s m args below meth c H locs ls X hP hS hl => va_iald X.1 X.2.1 X.2.2.2.2.2.2.2.1 hP b 0 (by rw [zb_at (zb_lt hkd (by omega)), zb_cell_I hkd]) rfl (zb_vp (zb_if ho).1) hd (kk r S' (zb_if ho).2 p e s m args below meth c H locs ls X hP hS hl)
theorem zg_zald {b : Nat} {i : Int32} (hkd : zb_kd b = 8) (hd : decode cc pc = .ok (.baload, 1)) (kk : zb_Go em l G d own cc nL ret (pc + 1) lv (.int (zb_a S b i.toNatClampNeg) :: rest) S o) : zb_Go em l G d own cc nL ret pc lv (.int i :: .ref (zb_ad G b) :: rest) S (if zb_in i (zb_sz b) then o else none) :=
  fun r S' ho p e s m args below meth c H locs ls X hP hS hl => va_zald X.1 X.2.1 X.2.2.2.2.2.2.2.1 hP b 1 (by rw [zb_at (zb_lt hkd (by omega)), zb_cell_Z hkd]) rfl (zb_vp (zb_if ho).1) hd (kk r S' (zb_if ho).2 p e s m args below meth c H locs ls X hP hS hl)
theorem zg_iast {b : Nat} {i x : Int32} {kf : zb_S → Option (α × zb_S)} (hkd : zb_kd b = 7) (hd : decode cc pc = .ok (.iastore, 1)) (kk : ∀ S1 : zb_S, zb_Go em l G d own cc nL ret (pc + 1) lv rest S1 (kf S1)) : zb_Go em l G d own cc nL ret pc lv (.int x :: .int i :: .ref (zb_ad G b) :: rest) S (if zb_in i (zb_sz b) then zb_let (zb_pa S b i.toNatClampNeg x) kf else none) := by
  intro r S' ho p e s m args below meth c H locs ls X hP hS hl
  have hlt := zb_lt hkd (by omega)
  obtain ⟨h1, h2⟩ := zb_if ho
  refine va_iast X.1 X.2.1 X.2.2.2.2.2.2.2.1 hP (zb_Dd X.2.2.2.2.2.2.2) hS b 0 (by rw [zb_at hlt, zb_cell_I hkd]) rfl (zb_vp h1) hd (fun H1 locs1 hP1 _ hS1 => ?_)
  have e1 : (zb_pic G S).set b (zb_ad G b, .inl (zb_cI G, zb_sz b, .inl (upd (zb_a S b) i.toNatClampNeg x))) = zb_pic G (zb_pa S b i.toNatClampNeg x) := zb_set hlt (by
    rw [zb_cell_I hkd]
    have e2 : zb_a (zb_pa S b i.toNatClampNeg x) b = upd (zb_a S b) i.toNatClampNeg x := by funext q; simp [zb_a, zb_pa, va_up]; rfl
    rw [e2]) (fun j hj => zb_cell_ext rfl rfl (by simp [zb_pa, va_up, hj]))
  rw [e1] at hP1
  exact kk _ r S' h2 p e s m args below meth c H1 locs1 ls X hP1 hS1 hl
theorem zg_zast {b : Nat} {i x : Int32} {kf : zb_S → Option (α × zb_S)} (hkd : zb_kd b = 8) (hd : decode cc pc = .ok (.bastore, 1)) (kk : ∀ S1 : zb_S, zb_Go em l G d own cc nL ret (pc + 1) lv rest S1 (kf S1)) : zb_Go em l G d own cc nL ret pc lv (.int x :: .int i :: .ref (zb_ad G b) :: rest) S (if zb_in i (zb_sz b) then zb_let (zb_pa S b i.toNatClampNeg (vp_nar .boolean x)) kf else none) := by
  intro r S' ho p e s m args below meth c H locs ls X hP hS hl
  have hlt := zb_lt hkd (by omega)
  obtain ⟨h1, h2⟩ := zb_if ho
  refine va_zast X.1 X.2.1 X.2.2.2.2.2.2.2.1 hP (zb_Dd X.2.2.2.2.2.2.2) hS b 1 (by rw [zb_at hlt, zb_cell_Z hkd]) rfl (zb_vp h1) hd (fun H1 locs1 hP1 _ hS1 => ?_)
  have e1 : (zb_pic G S).set b (zb_ad G b, .inl (zb_cZ G, zb_sz b, .inl (upd (zb_a S b) i.toNatClampNeg (vp_nar .boolean x)))) = zb_pic G (zb_pa S b i.toNatClampNeg (vp_nar .boolean x)) := zb_set hlt (by
    rw [zb_cell_Z hkd]
    have e2 : zb_a (zb_pa S b i.toNatClampNeg (vp_nar .boolean x)) b = upd (zb_a S b) i.toNatClampNeg (vp_nar .boolean x) := by funext q; simp [zb_a, zb_pa, va_up]; rfl
    rw [e2]) (fun j hj => zb_cell_ext rfl rfl (by simp [zb_pa, va_up, hj]))
  rw [e1] at hP1
  exact kk _ r S' h2 p e s m args below meth c H1 locs1 ls X hP1 hS1 hl
/-- the static row of factorials: fetched and read -/
theorem zg_getsF {index : Nat} (hown : own = "ZoneBelt") (hw : Cond.fieldLink own index "ZoneBelt" "FACTORIALS" "[I" ∈ wsL_law) (hd : decode cc pc = .ok (.getstatic index, 3)) (kk : zb_Go em l G d own cc nL ret (pc + 3) lv (.ref (zb_tF G) :: st) S o) : zb_Go em l G d own cc nL ret pc lv st S o :=
  fun r S' ho p e s m args below meth c H locs ls X hP hS hl => va_gets X.1 X.2.1 X.2.2.2.2.2.2.2.2.2.1 hS X.2.2.2.2.1 (X.2.2.2.2.2.1 _ hw) (fun _ h => h) hd (kk r S' ho p e s m args below meth c H locs ls X hP hS hl)
theorem zg_getsT {index : Nat} (hown : own = "ZoneBelt") (hw : Cond.fieldLink own index "ZoneBelt" "THOUSANDS" "[J" ∈ wsL_law) (hd : decode cc pc = .ok (.getstatic index, 3)) (kk : zb_Go em l G d own cc nL ret (pc + 3) lv (.ref (zb_tT G) :: st) S o) : zb_Go em l G d own cc nL ret pc lv st S o :=
  fun r S' ho p e s m args below meth c H locs ls X hP hS hl => va_gets X.1 X.2.1 X.2.2.2.2.2.2.2.2.2.2.2.1 hS X.2.2.2.2.1 (X.2.2.2.2.2.1 _ hw) (fun _ h => h) hd (kk r S' ho p e s m args below meth c H locs ls X hP hS hl)
theorem zg_tiF {i : Int32} (hd : decode cc pc = .ok (.iaload, 1)) (kk : zb_Go em l G d own cc nL ret (pc + 1) lv (.int (zb_fac i.toNatClampNeg) :: rest) S o) : zb_Go em l G d own cc nL ret pc lv (.int i :: .ref (zb_tF G) :: rest) S (if zb_in i 7 then o else none) :=
  fun r S' ho p e s m args below meth c H locs ls X hP hS hl => va_ti X.1 X.2.1 X.2.2.2.2.2.2.2.2.2.2.1 hS (zb_vp (zb_if ho).1) rfl hd (kk r S' (zb_if ho).2 p e s m args below meth c H locs ls X hP hS hl)
theorem zg_tlT {i : Int32} (hd : decode cc pc = .ok (.laload, 1)) (kk : zb_Go em l G d own cc nL ret (pc + 1) lv (.long (zb_tho i.toNatClampNeg) :: rest) S o) : zb_Go em l G d own cc nL ret pc lv (.int i :: .ref (zb_tT G) :: rest) S (if zb_in i 5 then o else none) :=
  fun r S' ho p e s m args below meth c H locs ls X hP hS hl => va_tl X.1 X.2.1 X.2.2.2.2.2.2.2.2.2.2.2.2 hS (zb_vp (zb_if ho).1) rfl hd (kk r S' (zb_if ho).2 p e s m args below meth c H locs ls X hP hS hl)
theorem zb_gd {w : Cond} (h : w ∈ wsL_law) : w ∈ wsL_law ∧ ((w.onTables && w.keeps) = true ∨ ∃ ty, w = .arrayClass ty) := ⟨h, good_of_word (List.all_eq_true.mp zw_good w h)⟩
theorem zb_gV {index : Nat} {C : String} {y2 : MethodName} {cc2 : ByteArray} {nL2 : Nat} {ret2 : Option FieldType} (w1 : Cond.methodLink own index y2 ∈ wsL_law) (w2 : Cond.instanceMethod y2 ∈ wsL_law) (w3 : Cond.selects C y2 y2 ∈ wsL_law) (w4 : Cond.initialized C ∈ wsL_law) (w5 : Cond.code y2 cc2 nL2 ret2 ∈ wsL_law) : GoodIn wsL_law (wsV own index C y2 (zb_ws y2 cc2 nL2 ret2)) := by
  intro w hw
  simp only [wsV, zb_ws, List.mem_append, List.mem_cons, List.not_mem_nil, or_false] at hw
  rcases hw with (rfl | rfl | rfl | rfl) | rfl | hw
  · exact zb_gd w1
  · exact zb_gd w2
  · exact zb_gd w3
  · exact zb_gd w4
  · exact zb_gd w5
  · exact zb_gd hw
theorem zb_gS {index : Nat} {y2 : MethodName} {cc2 : ByteArray} {nL2 : Nat} {ret2 : Option FieldType} (w1 : Cond.methodLink own index y2 ∈ wsL_law) (w2 : Cond.static y2 ∈ wsL_law) (w4 : Cond.initialized y2.cls ∈ wsL_law) (w5 : Cond.code y2 cc2 nL2 ret2 ∈ wsL_law) : GoodIn wsL_law (va_wsS own index y2 (zb_ws y2 cc2 nL2 ret2)) := by
  intro w hw
  simp only [va_wsS, zb_ws, List.mem_append, List.mem_cons, List.not_mem_nil, or_false] at hw
  rcases hw with (rfl | rfl | rfl) | rfl | hw
  · exact zb_gd w1
  · exact zb_gd w2
  · exact zb_gd w4
  · exact zb_gd w5
  · exact zb_gd hw
theorem zb_blind {as : List Value} : FrameBlind (va_Pc as (zb_W G S)) := by
  intro a U g mk q
  obtain ⟨q0, qP, qK⟩ := q
  exact ⟨q0, qP, zb_K.moved (u := U) (U := U.calling g mk a) (Vm.Alike.refl U.vm) qK⟩
/-- behind a call -/
theorem zb_run {p : Program} {e : Env} {s : State} {m : MethodId} {args : Array Value} {below : List Frame} {meth : Method} {c : Code} {H : Heap} {locs : List Loc} {ls : Array Slot} {st0 : List Value} {a : Array Value} {ov : Option Value} {S1 : zb_S} {Qf : State → Prop} (hr : va_Run p l e (zb_rm d) s m args below meth c H locs 0 0 0 0 (F0 m pc ls st0) rest (zb_Q G ov S1 a) (zb_A G)) (hS : va_S (zb_A G) s.heap H locs)
    (kk : ∀ (H1 : Heap) (locs1 : List Loc), va_P (zb_D G) vwCl (zb_pic G S1) H1 → va_S (zb_A G) s.heap H1 locs1 → W p l e (zb_rm d) s m args below meth c H1 locs1 0 0 Qf (F0 m (pc + 3) ls (ov.toList ++ rest))) : W p l e (zb_rm d) s m args below meth c H locs 0 0 Qf (F0 m pc ls st0) := by
  intro T hT X
  obtain ⟨v, st₀, t, T', L, h0, X', hL, e1, e2, ⟨hv, ⟨hP1, -⟩, hz, hk⟩, st⟩ := hr T hT X
  cases hv
  rw [h0] at hz hk
  obtain ⟨t2, a1, b1⟩ := kk T'.heap (locs ++ L) (by rw [e1]; exact hP1)
    ⟨Nat.le_trans hS.1 (by rw [e1]; exact hz), fun q h1 h2 => by rw [e1, hk q (Nat.lt_of_lt_of_le h1 hS.1) h2]; exact hS.2.1 q h1 h2, fun q hq => by
      rcases List.mem_append.mp hq with h | h
      · exact hS.2.2 q h
      · exact hL q h⟩ T' rfl X'
  exact ⟨t2, st t2 a1, b1⟩
theorem zg_callV {em' : β → Option Value} {y2 : MethodName} {cc2 : ByteArray} {nL2 : Nat} {ret2 : Option FieldType} {d2 index b ci N2 : Nat} {C : String} {T2 : u_T} {As : List Value} {f : Option (β × zb_S)} {k : β × zb_S → Option (α × zb_S)} (n : Nat)
    (hM : zb_C em' l G d2 y2 cc2 nL2 ret2 (.ref (zb_ad G b) :: As) S f) (hd2 : d2 + 1 ≤ d) (hnL : nL2 ≤ 20) (hkd : zb_kd b = ci) (h7 : ci < 7) (hc : vwCl[ci]? = some (C, T2, N2))
    (w1 : Cond.methodLink own index y2 ∈ wsL_law) (w2 : Cond.instanceMethod y2 ∈ wsL_law) (w3 : Cond.selects C y2 y2 ∈ wsL_law) (w4 : Cond.initialized C ∈ wsL_law) (w5 : Cond.code y2 cc2 nL2 ret2 ∈ wsL_law)
    (hcls : y2.cls = C ∧ y2.cls ≠ "java/lang/invoke/MethodHandle" ∧ y2.cls ≠ "java/lang/invoke/VarHandle" ∧ (parseMethodDescriptor y2.desc).map (fun d => d.parameters.length) = some n) (hn : As.length = n) (hst : st = As.reverse ++ .ref (zb_ad G b) :: rest) (hrm : (rest.map fun v => v.category).sum ≤ 8) (hdg : decode cc pc = .ok (.invokevirtual index, 3))
    (kk : ∀ (r1 : β) (S1 : zb_S), zb_Go em l G d own cc nL ret (pc + 3) lv ((em' r1).toList ++ rest) S1 (k (r1, S1))) : zb_Go em l G d own cc nL ret pc lv st S (f.bind k) := by
  intro r S' ho p e s m args below meth c H locs ls X hP hS hl
  cases hf : f with
  | none => rw [hf] at ho; cases ho
  | some q =>
    obtain ⟨r1, S1⟩ := q
    rw [hf] at ho
    have hlt := zb_lt hkd (by omega)
    have hrun := va_runV (R := zb_rm d) (e := e) (below := below) (meth := meth) (H := H) (locs := locs) (cells := 0) (slots := 0) (g := F0 m pc ls st) (rest := rest) (As := As) (b := zb_ad G b) ⟨X.1, X.2.1, X.2.2.2.1, X.2.2.2.2.1, X.2.2.2.2.2.1⟩ (hM r1 S1 hf) (cwV n X.2.2.2.2.2.1 (zb_gV w1 w2 w3 w4 w5) rfl rfl rfl hcls ⟨by show d2 + 1 + 1 ≤ d + 1; omega, by show 8 + (nL2 + 11) + 40 * (d2 + 1) ≤ 40 * (d + 1); omega⟩) ⟨zb_blind, va_recv X.2.2.2.2.2.2.2.1 hP hc (by rw [zb_at hlt, zb_cell_o hkd h7]), fun U hU hW => ⟨rfl, by rw [hU]; exact hP, by rw [hU]; exact (X.2.2.2.2.2.2.2.moved hW.alike).kept (fun a h1 h2 => hS.2.1 a h1 h2)⟩⟩ rfl hn hl.1 hst (lv_room hrm) hdg ⟨Nat.le_refl _, Nat.le_refl _⟩
    exact zb_run hrun hS (fun H1 locs1 hP1 hS1 => kk r1 S1 r S' ho p e s m args below meth c H1 locs1 ls X hP1 hS1 hl)
theorem zg_callS {em' : β → Option Value} {y2 : MethodName} {cc2 : ByteArray} {nL2 : Nat} {ret2 : Option FieldType} {d2 index : Nat} {As : List Value} {f : Option (β × zb_S)} {k : β × zb_S → Option (α × zb_S)} (n : Nat)
    (hM : zb_C em' l G d2 y2 cc2 nL2 ret2 As S f) (hd2 : d2 + 1 ≤ d) (hnL : nL2 ≤ 20)
    (w1 : Cond.methodLink own index y2 ∈ wsL_law) (w2 : Cond.static y2 ∈ wsL_law) (w4 : Cond.initialized y2.cls ∈ wsL_law) (w5 : Cond.code y2 cc2 nL2 ret2 ∈ wsL_law)
    (hcls : y2.cls ≠ "java/lang/invoke/MethodHandle" ∧ y2.cls ≠ "java/lang/invoke/VarHandle" ∧ (parseMethodDescriptor y2.desc).map (fun d => d.parameters.length) = some n) (hn : As.length = n) (hst : st = As.reverse ++ rest) (hrm : (rest.map fun v => v.category).sum ≤ 8) (hdg : decode cc pc = .ok (.invokestatic index, 3))
    (kk : ∀ (r1 : β) (S1 : zb_S), zb_Go em l G d own cc nL ret (pc + 3) lv ((em' r1).toList ++ rest) S1 (k (r1, S1))) : zb_Go em l G d own cc nL ret pc lv st S (f.bind k) := by
  intro r S' ho p e s m args below meth c H locs ls X hP hS hl
  cases hf : f with
  | none => rw [hf] at ho; cases ho
  | some q =>
    obtain ⟨r1, S1⟩ := q
    rw [hf] at ho
    have hrun := va_runS (R := zb_rm d) (e := e) (below := below) (meth := meth) (H := H) (locs := locs) (cells := 0) (slots := 0) (g := F0 m pc ls st) (rest := rest) (As := As) ⟨X.1, X.2.1, X.2.2.2.1, X.2.2.2.2.1, X.2.2.2.2.2.1⟩ (hM r1 S1 hf) (va_cwS n X.2.2.2.2.2.1 (zb_gS w1 w2 w4 w5) rfl rfl rfl hcls ⟨by show d2 + 1 + 1 ≤ d + 1; omega, by show 8 + (nL2 + 11) + 40 * (d2 + 1) ≤ 40 * (d + 1); omega⟩) ⟨zb_blind, fun U hU hW => ⟨rfl, by rw [hU]; exact hP, by rw [hU]; exact (X.2.2.2.2.2.2.2.moved hW.alike).kept (fun a h1 h2 => hS.2.1 a h1 h2)⟩⟩ rfl hn hl.1 hst (lv_room hrm) hdg ⟨Nat.le_refl _, Nat.le_refl _⟩
    exact zb_run hrun hS (fun H1 locs1 hP1 hS1 => kk r1 S1 r S' ho p e s m args below meth c H1 locs1 ls X hP1 hS1 hl)
theorem zg_mabs {index : Nat} {x : Int32} (w1 : Cond.methodLink own index Lib.Math.abs.name ∈ wsL_law) (w2 : Cond.static Lib.Math.abs.name ∈ wsL_law) (w4 : Cond.initialized "java/lang/Math" ∈ wsL_law) (w5 : Cond.code Lib.Math.abs.name Lib.Math.abs.code 1 (some .int) ∈ wsL_law) (hrm : (rest.map fun v => v.category).sum ≤ 8) (hd : decode cc pc = .ok (.invokestatic index, 3)) (kk : zb_Go em l G d own cc nL ret (pc + 3) lv (.int (if 0 ≤ x then x else 0 - x) :: rest) S o) : zb_Go em l G d own cc nL ret pc lv (.int x :: rest) S o :=
  fun r S' ho p e s m args below meth c H locs ls X hP hS hl => va_mabs X.1 X.2.1 (by rw [X.2.2.2.1, hl.1]) X.2.2.2.2.1 (X.2.2.2.2.2.1 _ w1) (X.2.2.2.2.2.1 _ w2) (X.2.2.2.2.2.1 _ w4) (X.2.2.2.2.2.1 _ w5) (by show 1 ≤ d + 1; omega) (by show _ + 13 ≤ 40 * (d + 1); omega) (Nat.le_refl _) (Nat.le_refl _) hd (kk r S' ho p e s m args below meth c H locs ls X hP hS hl)
theorem zg_mmax {index : Nat} {x y : Int32} (w1 : Cond.methodLink own index Lib.Math.max.name ∈ wsL_law) (w2 : Cond.static Lib.Math.max.name ∈ wsL_law) (w4 : Cond.initialized "java/lang/Math" ∈ wsL_law) (w5 : Cond.code Lib.Math.max.name Lib.Math.max.code 2 (some .int) ∈ wsL_law) (hrm : (rest.map fun v => v.category).sum ≤ 8) (hd : decode cc pc = .ok (.invokestatic index, 3)) (kk : zb_Go em l G d own cc nL ret (pc + 3) lv (.int (if x < y then y else x) :: rest) S o) : zb_Go em l G d own cc nL ret pc lv (.int y :: .int x :: rest) S o :=
  fun r S' ho p e s m args below meth c H locs ls X hP hS hl => va_mmax X.1 X.2.1 (by rw [X.2.2.2.1, hl.1]) X.2.2.2.2.1 (X.2.2.2.2.2.1 _ w1) (X.2.2.2.2.2.1 _ w2) (X.2.2.2.2.2.1 _ w4) (X.2.2.2.2.2.1 _ w5) (by show 1 ≤ d + 1; omega) (by show _ + 13 ≤ 40 * (d + 1); omega) (Nat.le_refl _) (Nat.le_refl _) hd (kk r S' ho p e s m args below meth c H locs ls X hP hS hl)
theorem zg_mmin {index : Nat} {x y : Int32} (w1 : Cond.methodLink own index Lib.Math.min.name ∈ wsL_law) (w2 : Cond.static Lib.Math.min.name ∈ wsL_law) (w4 : Cond.initialized "java/lang/Math" ∈ wsL_law) (w5 : Cond.code Lib.Math.min.name Lib.Math.min.code 2 (some .int) ∈ wsL_law) (hrm : (rest.map fun v => v.category).sum ≤ 8) (hd : decode cc pc = .ok (.invokestatic index, 3)) (kk : zb_Go em l G d own cc nL ret (pc + 3) lv (.int (if y < x then y else x) :: rest) S o) : zb_Go em l G d own cc nL ret pc lv (.int y :: .int x :: rest) S o :=
  fun r S' ho p e s m args below meth c H locs ls X hP hS hl => va_mmin X.1 X.2.1 (by rw [X.2.2.2.1, hl.1]) X.2.2.2.2.1 (X.2.2.2.2.2.1 _ w1) (X.2.2.2.2.2.1 _ w2) (X.2.2.2.2.2.1 _ w4) (X.2.2.2.2.2.1 _ w5) (by show 1 ≤ d + 1; omega) (by show _ + 13 ≤ 40 * (d + 1); omega) (Nat.le_refl _) (Nat.le_refl _) hd (kk r S' ho p e s m args below meth c H locs ls X hP hS hl)
abbrev zb_cpok (sp dp n : Int32) (n0 n1 : Nat) : Prop := ¬ sp < 0 ∧ ¬ dp < 0 ∧ ¬ n < 0 ∧ sp.toNatClampNeg + n.toNatClampNeg ≤ n0 ∧ dp.toNatClampNeg + n.toNatClampNeg ≤ n1
theorem zg_copy {index x y : Nat} {sp dp n : Int32} {kf : zb_S → Option (α × zb_S)} (hkx : zb_kd x = 7) (hky : zb_kd y = 7) (w1 : Cond.methodLink own index arraycopyName ∈ wsL_law) (w2 : Cond.native arraycopyName ∈ wsL_law) (w3 : Cond.static arraycopyName ∈ wsL_law) (w4 : Cond.initialized "java/lang/System" ∈ wsL_law) (hrm : (rest.map fun v => v.category).sum ≤ 8) (hd : decode cc pc = .ok (.invokestatic index, 3)) (kk : ∀ S1 : zb_S, zb_Go em l G d own cc nL ret (pc + 3) lv rest S1 (kf S1)) :
    zb_Go em l G d own cc nL ret pc lv (.int n :: .int dp :: .ref (zb_ad G y) :: .int sp :: .ref (zb_ad G x) :: rest) S (if zb_cpok sp dp n (zb_sz x) (zb_sz y) then zb_let (zb_cp S x sp.toNatClampNeg y dp.toNatClampNeg n.toNatClampNeg) kf else none) := by
  intro r S' ho p e s m args below meth c H locs ls X hP hS hl
  have hltx := zb_lt hkx (by omega)
  have hlty := zb_lt hky (by omega)
  obtain ⟨⟨h1, h2, h3, h4, h5⟩, h6⟩ := zb_if ho
  have e9 : nativeFrameWords "java/lang/System" "arraycopy" 5 ≤ 20 := by decide
  refine va_copyi (R := zb_rm d) (rest := rest) (ty := .int) X.1 X.2.1 (by rw [X.2.2.2.1, hl.1]) X.2.2.2.2.1 (X.2.2.2.2.2.1 _ w1) (X.2.2.2.2.2.1 _ w2) (X.2.2.2.2.2.1 _ w3) (X.2.2.2.2.2.1 _ w4) X.2.2.2.2.2.2.2.1 hP (zb_Dd X.2.2.2.2.2.2.2) hS x y 0 0 (by rw [zb_at hltx, zb_cell_I hkx]) (by rw [zb_at hlty, zb_cell_I hky]) rfl rfl rfl h1 h2 h3 h4 h5 (fun _ _ => rfl) (show 1 ≤ d + 1 from Nat.le_add_left 1 d) (show (rest.map fun v => v.category).sum + (nativeFrameWords "java/lang/System" "arraycopy" 5 + 11) ≤ 40 * (d + 1) by omega) hd (fun H1 locs1 hP1 _ hS1 => ?_)
  have e1 : (zb_pic G S).set y (zb_ad G y, .inl (zb_cI G, zb_sz y, .inl (va_cpy (zb_a S x) (zb_a S y) sp.toNatClampNeg dp.toNatClampNeg n.toNatClampNeg))) = zb_pic G (zb_cp S x sp.toNatClampNeg y dp.toNatClampNeg n.toNatClampNeg) := zb_set hlty (by
    rw [zb_cell_I hky]
    have e2 : zb_a (zb_cp S x sp.toNatClampNeg y dp.toNatClampNeg n.toNatClampNeg) y = va_cpy (zb_a S x) (zb_a S y) sp.toNatClampNeg dp.toNatClampNeg n.toNatClampNeg := by funext q; simp [zb_a, zb_cp, va_up]; rfl
    rw [e2]) (fun j hj => zb_cell_ext rfl rfl (by simp [zb_cp, va_up, hj]))
  rw [e1] at hP1
  exact kk _ r S' h6 p e s m args below meth c H1 locs1 ls X hP1 hS1 hl
theorem zb_end {p : Program} {s t : State} {m : MethodId} {args : Array Value} {meth : Method} {c : Code} {H : Heap} {locs : List Loc} (X : zb_X p s m args meth c G own cc nL ret) (hP : va_P (zb_D G) vwCl (zb_pic G S) H) (hS : va_S (zb_A G) s.heap H locs) (ht : t.heap = H) (hW : s.WarmedH t.vm) (ov : Option Value) : zb_Q G ov S args s (.returned ov) t :=
  ⟨rfl, ⟨by rw [ht]; exact hP, by rw [ht]; exact (X.2.2.2.2.2.2.2.moved hW.alike).kept (fun a h1 h2 => hS.2.1 a h1 h2)⟩, hS.F ht⟩
theorem zg_iret {v : Int32} (hr : ret = some .int) (hd : decode cc pc = .ok (.ireturn, 1)) : zb_Go zb_eI l G d own cc nL ret pc lv [.int v] S (some (v, S)) := by
  intro r S' ho p e s m args below meth c H locs ls X hP hS hl
  cases ho
  exact W.iret (v := v) X.1 X.2.1 (by rw [X.2.2.1, hr]) (fun t ht hW => zb_end X hP hS ht hW _) hS.2.2 hd X.2.2.2.2.2.2.1
theorem zg_zret {v : Int32} (hr : ret = some .boolean) (hd : decode cc pc = .ok (.ireturn, 1)) : zb_Go zb_eI l G d own cc nL ret pc lv [.int v] S (if v = 0 ∨ v = 1 then some (v, S) else none) := by
  intro r S' ho p e s m args below meth c H locs ls X hP hS hl
  obtain ⟨h1, h2⟩ := zb_if ho
  cases h2
  exact W.zret (v := v) X.1 X.2.1 (by rw [X.2.2.1, hr]) (by rcases h1 with rfl | rfl <;> rfl) (fun t ht hW => zb_end X hP hS ht hW _) hS.2.2 hd X.2.2.2.2.2.2.1
theorem zg_lret {v : Int64} (hr : ret = some .long) (hd : decode cc pc = .ok (.lreturn, 1)) : zb_Go zb_eL l G d own cc nL ret pc lv [.long v] S (some (v, S)) := by
  intro r S' ho p e s m args below meth c H locs ls X hP hS hl
  cases ho
  exact W.lret (v := v) X.1 X.2.1 (by rw [X.2.2.1, hr]) (fun t ht hW => zb_end X hP hS ht hW _) hS.2.2 hd X.2.2.2.2.2.2.1
theorem zg_vret (hr : ret = none) (hd : decode cc pc = .ok (.return_, 1)) : zb_Go zb_eV l G d own cc nL ret pc lv [] S (some ((), S)) := by
  intro r S' ho p e s m args below meth c H locs ls X hP hS hl
  cases ho
  exact W.vret X.1 X.2.1 (by rw [X.2.2.1, hr]) (fun t ht hW => zb_end X hP hS ht hW _) hS.2.2 hd X.2.2.2.2.2.2.1
theorem zg_istore_nL {k : Fin 4} {i : Nat} {v : Int32} {kf : Int32 → Option (α × zb_S)} (lv' : Int32 → List (Nat × Value)) (hd : decode cc pc = .ok (.istore_n k, 1)) (hi : (k : Nat) = i) (hn : i < nL) (hl0 : ∀ x : Int32, (i, Value.int x) :: lv.filter (fun q => !(q.1 == i) && !(q.1 + 1 == i && q.2.category == 2)) = lv' x) (kk : ∀ x : Int32, zb_Go em l G d own cc nL ret (pc + 1) (lv' x) rest S (kf x)) : zb_Go em l G d own cc nL ret pc lv (.int v :: rest) S (zb_let v kf) := zg_istore_n hd hi hn (hl0 v) (kk v)
theorem zg_istoreL {i : Nat} {v : Int32} {kf : Int32 → Option (α × zb_S)} (lv' : Int32 → List (Nat × Value)) (hd : decode cc pc = .ok (.istore i, 2)) (hn : i < nL) (hl0 : ∀ x : Int32, (i, Value.int x) :: lv.filter (fun q => !(q.1 == i) && !(q.1 + 1 == i && q.2.category == 2)) = lv' x) (kk : ∀ x : Int32, zb_Go em l G d own cc nL ret (pc + 2) (lv' x) rest S (kf x)) : zb_Go em l G d own cc nL ret pc lv (.int v :: rest) S (zb_let v kf) := zg_istore hd hn (hl0 v) (kk v)
theorem zg_lstore_nL {k : Fin 4} {i : Nat} {v : Int64} {kf : Int64 → Option (α × zb_S)} (lv' : Int64 → List (Nat × Value)) (hd : decode cc pc = .ok (.lstore_n k, 1)) (hi : (k : Nat) = i) (hn : i + 1 < nL) (hl0 : ∀ x : Int64, (i, Value.long x) :: lv.filter (fun q => !(q.1 == i) && (!(q.1 == i + 1) && !(q.1 + 1 == i && q.2.category == 2))) = lv' x) (kk : ∀ x : Int64, zb_Go em l G d own cc nL ret (pc + 1) (lv' x) rest S (kf x)) : zb_Go em l G d own cc nL ret pc lv (.long v :: rest) S (zb_let v kf) := zg_lstore_n hd hi hn (hl0 v) (kk v)
theorem zg_lstoreL {i : Nat} {v : Int64} {kf : Int64 → Option (α × zb_S)} (lv' : Int64 → List (Nat × Value)) (hd : decode cc pc = .ok (.lstore i, 2)) (hn : i + 1 < nL) (hl0 : ∀ x : Int64, (i, Value.long x) :: lv.filter (fun q => !(q.1 == i) && (!(q.1 == i + 1) && !(q.1 + 1 == i && q.2.category == 2))) = lv' x) (kk : ∀ x : Int64, zb_Go em l G d own cc nL ret (pc + 2) (lv' x) rest S (kf x)) : zb_Go em l G d own cc nL ret pc lv (.long v :: rest) S (zb_let v kf) := zg_lstore hd hn (hl0 v) (kk v)
theorem zg_iincL {i : Nat} {n : Int} {x v : Int32} {kf : Int32 → Option (α × zb_S)} (lv' : Int32 → List (Nat × Value)) (j : Nat) (hd : decode cc pc = .ok (.iinc i n, 3)) (hk : lv[j]? = some (i, .int x)) (hv : x + Int32.ofInt n = v) (hn : i < nL) (hl0 : ∀ x : Int32, (i, Value.int x) :: lv.filter (fun q => !(q.1 == i) && !(q.1 + 1 == i && q.2.category == 2)) = lv' x) (kk : ∀ x : Int32, zb_Go em l G d own cc nL ret (pc + 3) (lv' x) st S (kf x)) : zb_Go em l G d own cc nL ret pc lv st S (zb_let v kf) := zg_iinc j hd hk hv hn (hl0 v) (kk v)
theorem zg_callVI {y2 : MethodName} {cc2 : ByteArray} {nL2 : Nat} {ret2 : Option FieldType} {d2 index b ci N2 : Nat} {C : String} {T2 : u_T} {As : List Value} {f : Option (Int32 × zb_S)} {k : Int32 → zb_S → Option (α × zb_S)} (n : Nat)
    (hM : zb_C zb_eI l G d2 y2 cc2 nL2 ret2 (.ref (zb_ad G b) :: As) S f) (hd2 : d2 + 1 ≤ d) (hnL : nL2 ≤ 20) (hkd : zb_kd b = ci) (h7 : ci < 7) (hc : vwCl[ci]? = some (C, T2, N2))
    (w1 : Cond.methodLink own index y2 ∈ wsL_law) (w2 : Cond.instanceMethod y2 ∈ wsL_law) (w3 : Cond.selects C y2 y2 ∈ wsL_law) (w4 : Cond.initialized C ∈ wsL_law) (w5 : Cond.code y2 cc2 nL2 ret2 ∈ wsL_law)
    (hcls : y2.cls = C ∧ y2.cls ≠ "java/lang/invoke/MethodHandle" ∧ y2.cls ≠ "java/lang/invoke/VarHandle" ∧ (parseMethodDescriptor y2.desc).map (fun d => d.parameters.length) = some n) (hn : As.length = n) (hst : st = As.reverse ++ .ref (zb_ad G b) :: rest) (hrm : (rest.map fun v => v.category).sum ≤ 8) (hdg : decode cc pc = .ok (.invokevirtual index, 3))
    (kk : ∀ (r1 : Int32) (S1 : zb_S), zb_Go em l G d own cc nL ret (pc + 3) lv (.int r1 :: rest) S1 (k r1 S1)) : zb_Go em l G d own cc nL ret pc lv st S (zb_bind f k) := by
  rw [zb_bind_eq]
  exact zg_callV n hM hd2 hnL hkd h7 hc w1 w2 w3 w4 w5 hcls hn hst hrm hdg (fun r1 S1 => kk r1 S1)
theorem zg_callSI {y2 : MethodName} {cc2 : ByteArray} {nL2 : Nat} {ret2 : Option FieldType} {d2 index : Nat} {As : List Value} {f : Option (Int32 × zb_S)} {k : Int32 → zb_S → Option (α × zb_S)} (n : Nat)
    (hM : zb_C zb_eI l G d2 y2 cc2 nL2 ret2 As S f) (hd2 : d2 + 1 ≤ d) (hnL : nL2 ≤ 20)
    (w1 : Cond.methodLink own index y2 ∈ wsL_law) (w2 : Cond.static y2 ∈ wsL_law) (w4 : Cond.initialized y2.cls ∈ wsL_law) (w5 : Cond.code y2 cc2 nL2 ret2 ∈ wsL_law)
    (hcls : y2.cls ≠ "java/lang/invoke/MethodHandle" ∧ y2.cls ≠ "java/lang/invoke/VarHandle" ∧ (parseMethodDescriptor y2.desc).map (fun d => d.parameters.length) = some n) (hn : As.length = n) (hst : st = As.reverse ++ rest) (hrm : (rest.map fun v => v.category).sum ≤ 8) (hdg : decode cc pc = .ok (.invokestatic index, 3))
    (kk : ∀ (r1 : Int32) (S1 : zb_S), zb_Go em l G d own cc nL ret (pc + 3) lv (.int r1 :: rest) S1 (k r1 S1)) : zb_Go em l G d own cc nL ret pc lv st S (zb_bind f k) := by
  rw [zb_bind_eq]
  exact zg_callS n hM hd2 hnL w1 w2 w4 w5 hcls hn hst hrm hdg (fun r1 S1 => kk r1 S1)
theorem zg_callVJ {y2 : MethodName} {cc2 : ByteArray} {nL2 : Nat} {ret2 : Option FieldType} {d2 index b ci N2 : Nat} {C : String} {T2 : u_T} {As : List Value} {f : Option (Int64 × zb_S)} {k : Int64 → zb_S → Option (α × zb_S)} (n : Nat)
    (hM : zb_C zb_eL l G d2 y2 cc2 nL2 ret2 (.ref (zb_ad G b) :: As) S f) (hd2 : d2 + 1 ≤ d) (hnL : nL2 ≤ 20) (hkd : zb_kd b = ci) (h7 : ci < 7) (hc : vwCl[ci]? = some (C, T2, N2))
    (w1 : Cond.methodLink own index y2 ∈ wsL_law) (w2 : Cond.instanceMethod y2 ∈ wsL_law) (w3 : Cond.selects C y2 y2 ∈ wsL_law) (w4 : Cond.initialized C ∈ wsL_law) (w5 : Cond.code y2 cc2 nL2 ret2 ∈ wsL_law)
    (hcls : y2.cls = C ∧ y2.cls ≠ "java/lang/invoke/MethodHandle" ∧ y2.cls ≠ "java/lang/invoke/VarHandle" ∧ (parseMethodDescriptor y2.desc).map (fun d => d.parameters.length) = some n) (hn : As.length = n) (hst : st = As.reverse ++ .ref (zb_ad G b) :: rest) (hrm : (rest.map fun v => v.category).sum ≤ 8) (hdg : decode cc pc = .ok (.invokevirtual index, 3))
    (kk : ∀ (r1 : Int64) (S1 : zb_S), zb_Go em l G d own cc nL ret (pc + 3) lv (.long r1 :: rest) S1 (k r1 S1)) : zb_Go em l G d own cc nL ret pc lv st S (zb_bind f k) := by
  rw [zb_bind_eq]
  exact zg_callV n hM hd2 hnL hkd h7 hc w1 w2 w3 w4 w5 hcls hn hst hrm hdg (fun r1 S1 => kk r1 S1)
theorem zg_callSJ {y2 : MethodName} {cc2 : ByteArray} {nL2 : Nat} {ret2 : Option FieldType} {d2 index : Nat} {As : List Value} {f : Option (Int64 × zb_S)} {k : Int64 → zb_S → Option (α × zb_S)} (n : Nat)
    (hM : zb_C zb_eL l G d2 y2 cc2 nL2 ret2 As S f) (hd2 : d2 + 1 ≤ d) (hnL : nL2 ≤ 20)
    (w1 : Cond.methodLink own index y2 ∈ wsL_law) (w2 : Cond.static y2 ∈ wsL_law) (w4 : Cond.initialized y2.cls ∈ wsL_law) (w5 : Cond.code y2 cc2 nL2 ret2 ∈ wsL_law)
    (hcls : y2.cls ≠ "java/lang/invoke/MethodHandle" ∧ y2.cls ≠ "java/lang/invoke/VarHandle" ∧ (parseMethodDescriptor y2.desc).map (fun d => d.parameters.length) = some n) (hn : As.length = n) (hst : st = As.reverse ++ rest) (hrm : (rest.map fun v => v.category).sum ≤ 8) (hdg : decode cc pc = .ok (.invokestatic index, 3))
    (kk : ∀ (r1 : Int64) (S1 : zb_S), zb_Go em l G d own cc nL ret (pc + 3) lv (.long r1 :: rest) S1 (k r1 S1)) : zb_Go em l G d own cc nL ret pc lv st S (zb_bind f k) := by
  rw [zb_bind_eq]
  exact zg_callS n hM hd2 hnL w1 w2 w4 w5 hcls hn hst hrm hdg (fun r1 S1 => kk r1 S1)
theorem zg_callVV {y2 : MethodName} {cc2 : ByteArray} {nL2 : Nat} {ret2 : Option FieldType} {d2 index b ci N2 : Nat} {C : String} {T2 : u_T} {As : List Value} {f : Option (Unit × zb_S)} {k : Unit → zb_S → Option (α × zb_S)} (n : Nat)
    (hM : zb_C zb_eV l G d2 y2 cc2 nL2 ret2 (.ref (zb_ad G b) :: As) S f) (hd2 : d2 + 1 ≤ d) (hnL : nL2 ≤ 20) (hkd : zb_kd b = ci) (h7 : ci < 7) (hc : vwCl[ci]? = some (C, T2, N2))
    (w1 : Cond.methodLink own index y2 ∈ wsL_law) (w2 : Cond.instanceMethod y2 ∈ wsL_law) (w3 : Cond.selects C y2 y2 ∈ wsL_law) (w4 : Cond.initialized C ∈ wsL_law) (w5 : Cond.code y2 cc2 nL2 ret2 ∈ wsL_law)
    (hcls : y2.cls = C ∧ y2.cls ≠ "java/lang/invoke/MethodHandle" ∧ y2.cls ≠ "java/lang/invoke/VarHandle" ∧ (parseMethodDescriptor y2.desc).map (fun d => d.parameters.length) = some n) (hn : As.length = n) (hst : st = As.reverse ++ .ref (zb_ad G b) :: rest) (hrm : (rest.map fun v => v.category).sum ≤ 8) (hdg : decode cc pc = .ok (.invokevirtual index, 3))
    (kk : ∀ (S1 : zb_S), zb_Go em l G d own cc nL ret (pc + 3) lv rest S1 (k () S1)) : zb_Go em l G d own cc nL ret pc lv st S (zb_bind f k) := by
  rw [zb_bind_eq]
  exact zg_callV n hM hd2 hnL hkd h7 hc w1 w2 w3 w4 w5 hcls hn hst hrm hdg (fun r1 S1 => kk S1)
theorem zg_callSV {y2 : MethodName} {cc2 : ByteArray} {nL2 : Nat} {ret2 : Option FieldType} {d2 index : Nat} {As : List Value} {f : Option (Unit × zb_S)} {k : Unit → zb_S → Option (α × zb_S)} (n : Nat)
    (hM : zb_C zb_eV l G d2 y2 cc2 nL2 ret2 As S f) (hd2 : d2 + 1 ≤ d) (hnL : nL2 ≤ 20)
    (w1 : Cond.methodLink own index y2 ∈ wsL_law) (w2 : Cond.static y2 ∈ wsL_law) (w4 : Cond.initialized y2.cls ∈ wsL_law) (w5 : Cond.code y2 cc2 nL2 ret2 ∈ wsL_law)
    (hcls : y2.cls ≠ "java/lang/invoke/MethodHandle" ∧ y2.cls ≠ "java/lang/invoke/VarHandle" ∧ (parseMethodDescriptor y2.desc).map (fun d => d.parameters.length) = some n) (hn : As.length = n) (hst : st = As.reverse ++ rest) (hrm : (rest.map fun v => v.category).sum ≤ 8) (hdg : decode cc pc = .ok (.invokestatic index, 3))
    (kk : ∀ (S1 : zb_S), zb_Go em l G d own cc nL ret (pc + 3) lv rest S1 (k () S1)) : zb_Go em l G d own cc nL ret pc lv st S (zb_bind f k) := by
  rw [zb_bind_eq]
  exact zg_callS n hM hd2 hnL w1 w2 w4 w5 hcls hn hst hrm hdg (fun r1 S1 => kk S1)
end ZG
theorem zk_all1 : ∀ b, b < 32 → zb_kd b = 1 → zb_rf b 4 = b + 1 ∧ zb_kd (b + 1) = 7 ∧ zb_sz (b + 1) = 57 := by decide
theorem zk_all3 : ∀ b, b < 32 → zb_kd b = 3 → zb_rf b 1 = b + 1 ∧ zb_kd (b + 1) = 7 := by decide
theorem zk_X1_4 {b : Nat} (h : zb_kd b = 1) : zb_rf b 4 = b + 1 ∧ zb_kd (b + 1) = 7 ∧ zb_sz (b + 1) = 57 := zk_all1 b (zb_lt h (by omega)) h
theorem zk_X3_1 {b : Nat} (h : zb_kd b = 3) : zb_rf b 1 = b + 1 ∧ zb_kd (b + 1) = 7 ∧ True := ⟨(zk_all3 b (zb_lt h (by omega)) h).1, (zk_all3 b (zb_lt h (by omega)) h).2, trivial⟩
end
section
section ZF
variable {α β : Type} {em : α → Option Value} {l : Launch} {G : zb_G} {d : Nat} {own : String} {cc : ByteArray} {nL : Nat} {ret : Option FieldType} {pc : Nat} {lv lv' : List (Nat × Value)} {st rest : List Value} {S : zb_S} {o : Option (α × zb_S)}
theorem zq_X0_0 {b index : Nat} {c : Nat} (hkd : zb_kd b = 0) (hr : zb_rf b 0 = c) (hw : Cond.fieldLink own index "ZoneBelt$Acts" "before" "LZoneBelt$Store;" ∈ wsL_law) (hd : decode cc pc = .ok (.getfield index, 3)) (kk : zb_Go em l G d own cc nL ret (pc + 3) lv (.ref (zb_ad G c) :: rest) S o) : zb_Go em l G d own cc nL ret pc lv (.ref (zb_ad G b) :: rest) S o := zg_get (C := RX0) (Tt := TX0) (N := 3) (k := 0) hkd (by decide) rfl rfl inlX0 (by decide) rfl hw ((by rw [zb_val_r (by rw [hkd]; rfl), hr])) hd kk
theorem zq_X0_1 {b index : Nat} (hkd : zb_kd b = 0) (hw : Cond.fieldLink own index "ZoneBelt$Acts" "next" "I" ∈ wsL_law) (hd : decode cc pc = .ok (.getfield index, 3)) (kk : zb_Go em l G d own cc nL ret (pc + 3) lv (.int (zb_i S b 1) :: rest) S o) : zb_Go em l G d own cc nL ret pc lv (.ref (zb_ad G b) :: rest) S o := zg_get (C := RX0) (Tt := TX0) (N := 3) (k := 1) hkd (by decide) rfl rfl inlX0 (by decide) rfl hw (zb_val_i (by rw [hkd]; rfl)) hd kk
theorem zp_X0_1 {b index : Nat} {x : Int32} {kf : zb_S → Option (α × zb_S)} (hkd : zb_kd b = 0) (hw : Cond.fieldLink own index "ZoneBelt$Acts" "next" "I" ∈ wsL_law) (hd : decode cc pc = .ok (.putfield index, 3)) (kk : ∀ S1 : zb_S, zb_Go em l G d own cc nL ret (pc + 3) lv rest S1 (kf S1)) : zb_Go em l G d own cc nL ret pc lv (.int x :: .ref (zb_ad G b) :: rest) S (zb_let (zb_pi S b 1 x) kf) := zg_puti (C := RX0) (Tt := TX0) (N := 3) (k := 1) hkd (by decide) rfl rfl inlX0 tyX0 tyX0_ok nmX0 (by decide) hw rfl rfl (by decide +kernel) hd kk
theorem zq_X0_2 {b index : Nat} (hkd : zb_kd b = 0) (hw : Cond.fieldLink own index "ZoneBelt$Acts" "size" "I" ∈ wsL_law) (hd : decode cc pc = .ok (.getfield index, 3)) (kk : zb_Go em l G d own cc nL ret (pc + 3) lv (.int (zb_i S b 2) :: rest) S o) : zb_Go em l G d own cc nL ret pc lv (.ref (zb_ad G b) :: rest) S o := zg_get (C := RX0) (Tt := TX0) (N := 3) (k := 2) hkd (by decide) rfl rfl inlX0 (by decide) rfl hw (zb_val_i (by rw [hkd]; rfl)) hd kk
theorem zp_X0_2 {b index : Nat} {x : Int32} {kf : zb_S → Option (α × zb_S)} (hkd : zb_kd b = 0) (hw : Cond.fieldLink own index "ZoneBelt$Acts" "size" "I" ∈ wsL_law) (hd : decode cc pc = .ok (.putfield index, 3)) (kk : ∀ S1 : zb_S, zb_Go em l G d own cc nL ret (pc + 3) lv rest S1 (kf S1)) : zb_Go em l G d own cc nL ret pc lv (.int x :: .ref (zb_ad G b) :: rest) S (zb_let (zb_pi S b 2 x) kf) := zg_puti (C := RX0) (Tt := TX0) (N := 3) (k := 2) hkd (by decide) rfl rfl inlX0 tyX0 tyX0_ok nmX0 (by decide) hw rfl rfl (by decide +kernel) hd kk
theorem zq_X1_0 {b index : Nat} (hkd : zb_kd b = 1) (hw : Cond.fieldLink own index "ZoneBelt$Belt" "mainZones" "I" ∈ wsL_law) (hd : decode cc pc = .ok (.getfield index, 3)) (kk : zb_Go em l G d own cc nL ret (pc + 3) lv (.int (zb_i S b 0) :: rest) S o) : zb_Go em l G d own cc nL ret pc lv (.ref (zb_ad G b) :: rest) S o := zg_get (C := RX1) (Tt := TX1) (N := 6) (k := 0) hkd (by decide) rfl rfl inlX1 (by decide) rfl hw (zb_val_i (by rw [hkd]; rfl)) hd kk
theorem zp_X1_0 {b index : Nat} {x : Int32} {kf : zb_S → Option (α × zb_S)} (hkd : zb_kd b = 1) (hw : Cond.fieldLink own index "ZoneBelt$Belt" "mainZones" "I" ∈ wsL_law) (hd : decode cc pc = .ok (.putfield index, 3)) (kk : ∀ S1 : zb_S, zb_Go em l G d own cc nL ret (pc + 3) lv rest S1 (kf S1)) : zb_Go em l G d own cc nL ret pc lv (.int x :: .ref (zb_ad G b) :: rest) S (zb_let (zb_pi S b 0 x) kf) := zg_puti (C := RX1) (Tt := TX1) (N := 6) (k := 0) hkd (by decide) rfl rfl inlX1 tyX1 tyX1_ok nmX1 (by decide) hw rfl rfl (by decide +kernel) hd kk
theorem zq_X1_1 {b index : Nat} (hkd : zb_kd b = 1) (hw : Cond.fieldLink own index "ZoneBelt$Belt" "sideZones" "I" ∈ wsL_law) (hd : decode cc pc = .ok (.getfield index, 3)) (kk : zb_Go em l G d own cc nL ret (pc + 3) lv (.int (zb_i S b 1) :: rest) S o) : zb_Go em l G d own cc nL ret pc lv (.ref (zb_ad G b) :: rest) S o := zg_get (C := RX1) (Tt := TX1) (N := 6) (k := 1) hkd (by decide) rfl rfl inlX1 (by decide) rfl hw (zb_val_i (by rw [hkd]; rfl)) hd kk
theorem zp_X1_1 {b index : Nat} {x : Int32} {kf : zb_S → Option (α × zb_S)} (hkd : zb_kd b = 1) (hw : Cond.fieldLink own index "ZoneBelt$Belt" "sideZones" "I" ∈ wsL_law) (hd : decode cc pc = .ok (.putfield index, 3)) (kk : ∀ S1 : zb_S, zb_Go em l G d own cc nL ret (pc + 3) lv rest S1 (kf S1)) : zb_Go em l G d own cc nL ret pc lv (.int x :: .ref (zb_ad G b) :: rest) S (zb_let (zb_pi S b 1 x) kf) := zg_puti (C := RX1) (Tt := TX1) (N := 6) (k := 1) hkd (by decide) rfl rfl inlX1 tyX1 tyX1_ok nmX1 (by decide) hw rfl rfl (by decide +kernel) hd kk
theorem zq_X1_2 {b index : Nat} (hkd : zb_kd b = 1) (hw : Cond.fieldLink own index "ZoneBelt$Belt" "zones" "I" ∈ wsL_law) (hd : decode cc pc = .ok (.getfield index, 3)) (kk : zb_Go em l G d own cc nL ret (pc + 3) lv (.int (zb_i S b 2) :: rest) S o) : zb_Go em l G d own cc nL ret pc lv (.ref (zb_ad G b) :: rest) S o := zg_get (C := RX1) (Tt := TX1) (N := 6) (k := 2) hkd (by decide) rfl rfl inlX1 (by decide) rfl hw (zb_val_i (by rw [hkd]; rfl)) hd kk
theorem zp_X1_2 {b index : Nat} {x : Int32} {kf : zb_S → Option (α × zb_S)} (hkd : zb_kd b = 1) (hw : Cond.fieldLink own index "ZoneBelt$Belt" "zones" "I" ∈ wsL_law) (hd : decode cc pc = .ok (.putfield index, 3)) (kk : ∀ S1 : zb_S, zb_Go em l G d own cc nL ret (pc + 3) lv rest S1 (kf S1)) : zb_Go em l G d own cc nL ret pc lv (.int x :: .ref (zb_ad G b) :: rest) S (zb_let (zb_pi S b 2 x) kf) := zg_puti (C := RX1) (Tt := TX1) (N := 6) (k := 2) hkd (by decide) rfl rfl inlX1 tyX1 tyX1_ok nmX1 (by decide) hw rfl rfl (by decide +kernel) hd kk
theorem zq_X1_3 {b index : Nat} (hkd : zb_kd b = 1) (hw : Cond.fieldLink own index "ZoneBelt$Belt" "meeting" "I" ∈ wsL_law) (hd : decode cc pc = .ok (.getfield index, 3)) (kk : zb_Go em l G d own cc nL ret (pc + 3) lv (.int (zb_i S b 3) :: rest) S o) : zb_Go em l G d own cc nL ret pc lv (.ref (zb_ad G b) :: rest) S o := zg_get (C := RX1) (Tt := TX1) (N := 6) (k := 3) hkd (by decide) rfl rfl inlX1 (by decide) rfl hw (zb_val_i (by rw [hkd]; rfl)) hd kk
theorem zp_X1_3 {b index : Nat} {x : Int32} {kf : zb_S → Option (α × zb_S)} (hkd : zb_kd b = 1) (hw : Cond.fieldLink own index "ZoneBelt$Belt" "meeting" "I" ∈ wsL_law) (hd : decode cc pc = .ok (.putfield index, 3)) (kk : ∀ S1 : zb_S, zb_Go em l G d own cc nL ret (pc + 3) lv rest S1 (kf S1)) : zb_Go em l G d own cc nL ret pc lv (.int x :: .ref (zb_ad G b) :: rest) S (zb_let (zb_pi S b 3 x) kf) := zg_puti (C := RX1) (Tt := TX1) (N := 6) (k := 3) hkd (by decide) rfl rfl inlX1 tyX1 tyX1_ok nmX1 (by decide) hw rfl rfl (by decide +kernel) hd kk
theorem zq_X1_4 {b index : Nat} {c : Nat} (hkd : zb_kd b = 1) (hr : zb_rf b 4 = c) (hw : Cond.fieldLink own index "ZoneBelt$Belt" "cells" "[I" ∈ wsL_law) (hd : decode cc pc = .ok (.getfield index, 3)) (kk : zb_Go em l G d own cc nL ret (pc + 3) lv (.ref (zb_ad G c) :: rest) S o) : zb_Go em l G d own cc nL ret pc lv (.ref (zb_ad G b) :: rest) S o := zg_get (C := RX1) (Tt := TX1) (N := 6) (k := 4) hkd (by decide) rfl rfl inlX1 (by decide) rfl hw ((by rw [zb_val_r (by rw [hkd]; rfl), hr])) hd kk
theorem zq_X1_5 {b index : Nat} (hkd : zb_kd b = 1) (hw : Cond.fieldLink own index "ZoneBelt$Belt" "justOut" "I" ∈ wsL_law) (hd : decode cc pc = .ok (.getfield index, 3)) (kk : zb_Go em l G d own cc nL ret (pc + 3) lv (.int (zb_i S b 5) :: rest) S o) : zb_Go em l G d own cc nL ret pc lv (.ref (zb_ad G b) :: rest) S o := zg_get (C := RX1) (Tt := TX1) (N := 6) (k := 5) hkd (by decide) rfl rfl inlX1 (by decide) rfl hw (zb_val_i (by rw [hkd]; rfl)) hd kk
theorem zp_X1_5 {b index : Nat} {x : Int32} {kf : zb_S → Option (α × zb_S)} (hkd : zb_kd b = 1) (hw : Cond.fieldLink own index "ZoneBelt$Belt" "justOut" "I" ∈ wsL_law) (hd : decode cc pc = .ok (.putfield index, 3)) (kk : ∀ S1 : zb_S, zb_Go em l G d own cc nL ret (pc + 3) lv rest S1 (kf S1)) : zb_Go em l G d own cc nL ret pc lv (.int x :: .ref (zb_ad G b) :: rest) S (zb_let (zb_pi S b 5 x) kf) := zg_puti (C := RX1) (Tt := TX1) (N := 6) (k := 5) hkd (by decide) rfl rfl inlX1 tyX1 tyX1_ok nmX1 (by decide) hw rfl rfl (by decide +kernel) hd kk
theorem zq_X2_0 {b index : Nat} {c : Nat} (hkd : zb_kd b = 2) (hr : zb_rf b 0 = c) (hw : Cond.fieldLink own index "ZoneBelt$Sightings" "behindSteps" "[I" ∈ wsL_law) (hd : decode cc pc = .ok (.getfield index, 3)) (kk : zb_Go em l G d own cc nL ret (pc + 3) lv (.ref (zb_ad G c) :: rest) S o) : zb_Go em l G d own cc nL ret pc lv (.ref (zb_ad G b) :: rest) S o := zg_get (C := RX2) (Tt := TX2) (N := 4) (k := 0) hkd (by decide) rfl rfl inlX2 (by decide) rfl hw ((by rw [zb_val_r (by rw [hkd]; rfl), hr])) hd kk
theorem zq_X2_1 {b index : Nat} {c : Nat} (hkd : zb_kd b = 2) (hr : zb_rf b 1 = c) (hw : Cond.fieldLink own index "ZoneBelt$Sightings" "outs" "[I" ∈ wsL_law) (hd : decode cc pc = .ok (.getfield index, 3)) (kk : zb_Go em l G d own cc nL ret (pc + 3) lv (.ref (zb_ad G c) :: rest) S o) : zb_Go em l G d own cc nL ret pc lv (.ref (zb_ad G b) :: rest) S o := zg_get (C := RX2) (Tt := TX2) (N := 4) (k := 1) hkd (by decide) rfl rfl inlX2 (by decide) rfl hw ((by rw [zb_val_r (by rw [hkd]; rfl), hr])) hd kk
theorem zq_X2_2 {b index : Nat} {c : Nat} (hkd : zb_kd b = 2) (hr : zb_rf b 2 = c) (hw : Cond.fieldLink own index "ZoneBelt$Sightings" "truths" "[I" ∈ wsL_law) (hd : decode cc pc = .ok (.getfield index, 3)) (kk : zb_Go em l G d own cc nL ret (pc + 3) lv (.ref (zb_ad G c) :: rest) S o) : zb_Go em l G d own cc nL ret pc lv (.ref (zb_ad G b) :: rest) S o := zg_get (C := RX2) (Tt := TX2) (N := 4) (k := 2) hkd (by decide) rfl rfl inlX2 (by decide) rfl hw ((by rw [zb_val_r (by rw [hkd]; rfl), hr])) hd kk
theorem zq_X2_3 {b index : Nat} (hkd : zb_kd b = 2) (hw : Cond.fieldLink own index "ZoneBelt$Sightings" "size" "I" ∈ wsL_law) (hd : decode cc pc = .ok (.getfield index, 3)) (kk : zb_Go em l G d own cc nL ret (pc + 3) lv (.int (zb_i S b 3) :: rest) S o) : zb_Go em l G d own cc nL ret pc lv (.ref (zb_ad G b) :: rest) S o := zg_get (C := RX2) (Tt := TX2) (N := 4) (k := 3) hkd (by decide) rfl rfl inlX2 (by decide) rfl hw (zb_val_i (by rw [hkd]; rfl)) hd kk
theorem zp_X2_3 {b index : Nat} {x : Int32} {kf : zb_S → Option (α × zb_S)} (hkd : zb_kd b = 2) (hw : Cond.fieldLink own index "ZoneBelt$Sightings" "size" "I" ∈ wsL_law) (hd : decode cc pc = .ok (.putfield index, 3)) (kk : ∀ S1 : zb_S, zb_Go em l G d own cc nL ret (pc + 3) lv rest S1 (kf S1)) : zb_Go em l G d own cc nL ret pc lv (.int x :: .ref (zb_ad G b) :: rest) S (zb_let (zb_pi S b 3 x) kf) := zg_puti (C := RX2) (Tt := TX2) (N := 4) (k := 3) hkd (by decide) rfl rfl inlX2 tyX2 tyX2_ok nmX2 (by decide) hw rfl rfl (by decide +kernel) hd kk
theorem zq_X3_0 {b index : Nat} (hkd : zb_kd b = 3) (hw : Cond.fieldLink own index "ZoneBelt$Store" "places" "I" ∈ wsL_law) (hd : decode cc pc = .ok (.getfield index, 3)) (kk : zb_Go em l G d own cc nL ret (pc + 3) lv (.int (zb_i S b 0) :: rest) S o) : zb_Go em l G d own cc nL ret pc lv (.ref (zb_ad G b) :: rest) S o := zg_get (C := RX3) (Tt := TX3) (N := 2) (k := 0) hkd (by decide) rfl rfl inlX3 (by decide) rfl hw (zb_val_i (by rw [hkd]; rfl)) hd kk
theorem zq_X3_1 {b index : Nat} {c : Nat} (hkd : zb_kd b = 3) (hr : zb_rf b 1 = c) (hw : Cond.fieldLink own index "ZoneBelt$Store" "cells" "[I" ∈ wsL_law) (hd : decode cc pc = .ok (.getfield index, 3)) (kk : zb_Go em l G d own cc nL ret (pc + 3) lv (.ref (zb_ad G c) :: rest) S o) : zb_Go em l G d own cc nL ret pc lv (.ref (zb_ad G b) :: rest) S o := zg_get (C := RX3) (Tt := TX3) (N := 2) (k := 1) hkd (by decide) rfl rfl inlX3 (by decide) rfl hw ((by rw [zb_val_r (by rw [hkd]; rfl), hr])) hd kk
theorem zq_X4_0 {b index : Nat} {c : Nat} (hkd : zb_kd b = 4) (hr : zb_rf b 0 = c) (hw : Cond.fieldLink own index "ZoneBelt$Text" "letters" "[I" ∈ wsL_law) (hd : decode cc pc = .ok (.getfield index, 3)) (kk : zb_Go em l G d own cc nL ret (pc + 3) lv (.ref (zb_ad G c) :: rest) S o) : zb_Go em l G d own cc nL ret pc lv (.ref (zb_ad G b) :: rest) S o := zg_get (C := RX4) (Tt := TX4) (N := 2) (k := 0) hkd (by decide) rfl rfl inlX4 (by decide) rfl hw ((by rw [zb_val_r (by rw [hkd]; rfl), hr])) hd kk
theorem zq_X4_1 {b index : Nat} (hkd : zb_kd b = 4) (hw : Cond.fieldLink own index "ZoneBelt$Text" "length" "I" ∈ wsL_law) (hd : decode cc pc = .ok (.getfield index, 3)) (kk : zb_Go em l G d own cc nL ret (pc + 3) lv (.int (zb_i S b 1) :: rest) S o) : zb_Go em l G d own cc nL ret pc lv (.ref (zb_ad G b) :: rest) S o := zg_get (C := RX4) (Tt := TX4) (N := 2) (k := 1) hkd (by decide) rfl rfl inlX4 (by decide) rfl hw (zb_val_i (by rw [hkd]; rfl)) hd kk
theorem zp_X4_1 {b index : Nat} {x : Int32} {kf : zb_S → Option (α × zb_S)} (hkd : zb_kd b = 4) (hw : Cond.fieldLink own index "ZoneBelt$Text" "length" "I" ∈ wsL_law) (hd : decode cc pc = .ok (.putfield index, 3)) (kk : ∀ S1 : zb_S, zb_Go em l G d own cc nL ret (pc + 3) lv rest S1 (kf S1)) : zb_Go em l G d own cc nL ret pc lv (.int x :: .ref (zb_ad G b) :: rest) S (zb_let (zb_pi S b 1 x) kf) := zg_puti (C := RX4) (Tt := TX4) (N := 2) (k := 1) hkd (by decide) rfl rfl inlX4 tyX4 tyX4_ok nmX4 (by decide) hw rfl rfl (by decide +kernel) hd kk
theorem zq_X5_0 {b index : Nat} {c : Nat} (hkd : zb_kd b = 5) (hr : zb_rf b 0 = c) (hw : Cond.fieldLink own index "ZoneBelt" "text" "LZoneBelt$Text;" ∈ wsL_law) (hd : decode cc pc = .ok (.getfield index, 3)) (kk : zb_Go em l G d own cc nL ret (pc + 3) lv (.ref (zb_ad G c) :: rest) S o) : zb_Go em l G d own cc nL ret pc lv (.ref (zb_ad G b) :: rest) S o := zg_get (C := RX5) (Tt := TX5) (N := 12) (k := 0) hkd (by decide) rfl rfl inlX5 (by decide) rfl hw ((by rw [zb_val_r (by rw [hkd]; rfl), hr])) hd kk
theorem zq_X5_1 {b index : Nat} {c : Nat} (hkd : zb_kd b = 5) (hr : zb_rf b 1 = c) (hw : Cond.fieldLink own index "ZoneBelt" "now" "LZoneBelt$Belt;" ∈ wsL_law) (hd : decode cc pc = .ok (.getfield index, 3)) (kk : zb_Go em l G d own cc nL ret (pc + 3) lv (.ref (zb_ad G c) :: rest) S o) : zb_Go em l G d own cc nL ret pc lv (.ref (zb_ad G b) :: rest) S o := zg_get (C := RX5) (Tt := TX5) (N := 12) (k := 1) hkd (by decide) rfl rfl inlX5 (by decide) rfl hw ((by rw [zb_val_r (by rw [hkd]; rfl), hr])) hd kk
theorem zq_X5_2 {b index : Nat} {c : Nat} (hkd : zb_kd b = 5) (hr : zb_rf b 2 = c) (hw : Cond.fieldLink own index "ZoneBelt" "trial" "LZoneBelt$Belt;" ∈ wsL_law) (hd : decode cc pc = .ok (.getfield index, 3)) (kk : zb_Go em l G d own cc nL ret (pc + 3) lv (.ref (zb_ad G c) :: rest) S o) : zb_Go em l G d own cc nL ret pc lv (.ref (zb_ad G b) :: rest) S o := zg_get (C := RX5) (Tt := TX5) (N := 12) (k := 2) hkd (by decide) rfl rfl inlX5 (by decide) rfl hw ((by rw [zb_val_r (by rw [hkd]; rfl), hr])) hd kk
theorem zq_X5_3 {b index : Nat} {c : Nat} (hkd : zb_kd b = 5) (hr : zb_rf b 3 = c) (hw : Cond.fieldLink own index "ZoneBelt" "acts" "LZoneBelt$Acts;" ∈ wsL_law) (hd : decode cc pc = .ok (.getfield index, 3)) (kk : zb_Go em l G d own cc nL ret (pc + 3) lv (.ref (zb_ad G c) :: rest) S o) : zb_Go em l G d own cc nL ret pc lv (.ref (zb_ad G b) :: rest) S o := zg_get (C := RX5) (Tt := TX5) (N := 12) (k := 3) hkd (by decide) rfl rfl inlX5 (by decide) rfl hw ((by rw [zb_val_r (by rw [hkd]; rfl), hr])) hd kk
theorem zq_X5_4 {b index : Nat} {c : Nat} (hkd : zb_kd b = 5) (hr : zb_rf b 4 = c) (hw : Cond.fieldLink own index "ZoneBelt" "slots" "LZoneBelt$Store;" ∈ wsL_law) (hd : decode cc pc = .ok (.getfield index, 3)) (kk : zb_Go em l G d own cc nL ret (pc + 3) lv (.ref (zb_ad G c) :: rest) S o) : zb_Go em l G d own cc nL ret pc lv (.ref (zb_ad G b) :: rest) S o := zg_get (C := RX5) (Tt := TX5) (N := 12) (k := 4) hkd (by decide) rfl rfl inlX5 (by decide) rfl hw ((by rw [zb_val_r (by rw [hkd]; rfl), hr])) hd kk
theorem zq_X5_5 {b index : Nat} (hkd : zb_kd b = 5) (hw : Cond.fieldLink own index "ZoneBelt" "keptSlots" "I" ∈ wsL_law) (hd : decode cc pc = .ok (.getfield index, 3)) (kk : zb_Go em l G d own cc nL ret (pc + 3) lv (.int (zb_i S b 5) :: rest) S o) : zb_Go em l G d own cc nL ret pc lv (.ref (zb_ad G b) :: rest) S o := zg_get (C := RX5) (Tt := TX5) (N := 12) (k := 5) hkd (by decide) rfl rfl inlX5 (by decide) rfl hw (zb_val_i (by rw [hkd]; rfl)) hd kk
theorem zp_X5_5 {b index : Nat} {x : Int32} {kf : zb_S → Option (α × zb_S)} (hkd : zb_kd b = 5) (hw : Cond.fieldLink own index "ZoneBelt" "keptSlots" "I" ∈ wsL_law) (hd : decode cc pc = .ok (.putfield index, 3)) (kk : ∀ S1 : zb_S, zb_Go em l G d own cc nL ret (pc + 3) lv rest S1 (kf S1)) : zb_Go em l G d own cc nL ret pc lv (.int x :: .ref (zb_ad G b) :: rest) S (zb_let (zb_pi S b 5 x) kf) := zg_puti (C := RX5) (Tt := TX5) (N := 12) (k := 5) hkd (by decide) rfl rfl inlX5 tyX5 tyX5_ok nmX5 (by decide) hw rfl rfl (by decide +kernel) hd kk
theorem zq_X5_6 {b index : Nat} {c : Nat} (hkd : zb_kd b = 5) (hr : zb_rf b 6 = c) (hw : Cond.fieldLink own index "ZoneBelt" "branches" "LZoneBelt$Store;" ∈ wsL_law) (hd : decode cc pc = .ok (.getfield index, 3)) (kk : zb_Go em l G d own cc nL ret (pc + 3) lv (.ref (zb_ad G c) :: rest) S o) : zb_Go em l G d own cc nL ret pc lv (.ref (zb_ad G b) :: rest) S o := zg_get (C := RX5) (Tt := TX5) (N := 12) (k := 6) hkd (by decide) rfl rfl inlX5 (by decide) rfl hw ((by rw [zb_val_r (by rw [hkd]; rfl), hr])) hd kk
theorem zq_X5_7 {b index : Nat} {c : Nat} (hkd : zb_kd b = 5) (hr : zb_rf b 7 = c) (hw : Cond.fieldLink own index "ZoneBelt" "sightings" "LZoneBelt$Sightings;" ∈ wsL_law) (hd : decode cc pc = .ok (.getfield index, 3)) (kk : zb_Go em l G d own cc nL ret (pc + 3) lv (.ref (zb_ad G c) :: rest) S o) : zb_Go em l G d own cc nL ret pc lv (.ref (zb_ad G b) :: rest) S o := zg_get (C := RX5) (Tt := TX5) (N := 12) (k := 7) hkd (by decide) rfl rfl inlX5 (by decide) rfl hw ((by rw [zb_val_r (by rw [hkd]; rfl), hr])) hd kk
theorem zq_X5_8 {b index : Nat} {c : Nat} (hkd : zb_kd b = 5) (hr : zb_rf b 8 = c) (hw : Cond.fieldLink own index "ZoneBelt" "doings" "[I" ∈ wsL_law) (hd : decode cc pc = .ok (.getfield index, 3)) (kk : zb_Go em l G d own cc nL ret (pc + 3) lv (.ref (zb_ad G c) :: rest) S o) : zb_Go em l G d own cc nL ret pc lv (.ref (zb_ad G b) :: rest) S o := zg_get (C := RX5) (Tt := TX5) (N := 12) (k := 8) hkd (by decide) rfl rfl inlX5 (by decide) rfl hw ((by rw [zb_val_r (by rw [hkd]; rfl), hr])) hd kk
theorem zq_X5_9 {b index : Nat} {c : Nat} (hkd : zb_kd b = 5) (hr : zb_rf b 9 = c) (hw : Cond.fieldLink own index "ZoneBelt" "unsound" "[I" ∈ wsL_law) (hd : decode cc pc = .ok (.getfield index, 3)) (kk : zb_Go em l G d own cc nL ret (pc + 3) lv (.ref (zb_ad G c) :: rest) S o) : zb_Go em l G d own cc nL ret pc lv (.ref (zb_ad G b) :: rest) S o := zg_get (C := RX5) (Tt := TX5) (N := 12) (k := 9) hkd (by decide) rfl rfl inlX5 (by decide) rfl hw ((by rw [zb_val_r (by rw [hkd]; rfl), hr])) hd kk
theorem zq_X5_10 {b index : Nat} {c : Nat} (hkd : zb_kd b = 5) (hr : zb_rf b 10 = c) (hw : Cond.fieldLink own index "ZoneBelt" "outIfMended" "[I" ∈ wsL_law) (hd : decode cc pc = .ok (.getfield index, 3)) (kk : zb_Go em l G d own cc nL ret (pc + 3) lv (.ref (zb_ad G c) :: rest) S o) : zb_Go em l G d own cc nL ret pc lv (.ref (zb_ad G b) :: rest) S o := zg_get (C := RX5) (Tt := TX5) (N := 12) (k := 10) hkd (by decide) rfl rfl inlX5 (by decide) rfl hw ((by rw [zb_val_r (by rw [hkd]; rfl), hr])) hd kk
theorem zq_X5_11 {b index : Nat} (hkd : zb_kd b = 5) (hw : Cond.fieldLink own index "ZoneBelt" "seedNow" "J" ∈ wsL_law) (hd : decode cc pc = .ok (.getfield index, 3)) (kk : zb_Go em l G d own cc nL ret (pc + 3) lv (.long (zb_l S b 11) :: rest) S o) : zb_Go em l G d own cc nL ret pc lv (.ref (zb_ad G b) :: rest) S o := zg_get (C := RX5) (Tt := TX5) (N := 12) (k := 11) hkd (by decide) rfl rfl inlX5 (by decide) rfl hw (zb_val_l (by rw [hkd]; rfl)) hd kk
theorem zp_X5_11 {b index : Nat} {x : Int64} {kf : zb_S → Option (α × zb_S)} (hkd : zb_kd b = 5) (hw : Cond.fieldLink own index "ZoneBelt" "seedNow" "J" ∈ wsL_law) (hd : decode cc pc = .ok (.putfield index, 3)) (kk : ∀ S1 : zb_S, zb_Go em l G d own cc nL ret (pc + 3) lv rest S1 (kf S1)) : zb_Go em l G d own cc nL ret pc lv (.long x :: .ref (zb_ad G b) :: rest) S (zb_let (zb_pl S b 11 x) kf) := zg_putl (C := RX5) (Tt := TX5) (N := 12) (k := 11) hkd (by decide) rfl rfl inlX5 tyX5 tyX5_ok nmX5 (by decide) hw rfl rfl (by decide +kernel) hd kk
theorem zq_X6_0 {b index : Nat} (hkd : zb_kd b = 6) (hw : Cond.fieldLink own index "ZoneBeltModel" "thrown" "I" ∈ wsL_law) (hd : decode cc pc = .ok (.getfield index, 3)) (kk : zb_Go em l G d own cc nL ret (pc + 3) lv (.int (zb_i S b 0) :: rest) S o) : zb_Go em l G d own cc nL ret pc lv (.ref (zb_ad G b) :: rest) S o := zg_get (C := RX6) (Tt := TX6) (N := 27) (k := 0) hkd (by decide) rfl rfl inlX6 (by decide) rfl hw (zb_val_i (by rw [hkd]; rfl)) hd kk
theorem zp_X6_0 {b index : Nat} {x : Int32} {kf : zb_S → Option (α × zb_S)} (hkd : zb_kd b = 6) (hw : Cond.fieldLink own index "ZoneBeltModel" "thrown" "I" ∈ wsL_law) (hd : decode cc pc = .ok (.putfield index, 3)) (kk : ∀ S1 : zb_S, zb_Go em l G d own cc nL ret (pc + 3) lv rest S1 (kf S1)) : zb_Go em l G d own cc nL ret pc lv (.int x :: .ref (zb_ad G b) :: rest) S (zb_let (zb_pi S b 0 x) kf) := zg_puti (C := RX6) (Tt := TX6) (N := 27) (k := 0) hkd (by decide) rfl rfl inlX6 tyX6 tyX6_ok nmX6 (by decide) hw rfl rfl (by decide +kernel) hd kk
theorem zq_X6_1 {b index : Nat} {c : Nat} (hkd : zb_kd b = 6) (hr : zb_rf b 1 = c) (hw : Cond.fieldLink own index "ZoneBeltModel" "text" "[I" ∈ wsL_law) (hd : decode cc pc = .ok (.getfield index, 3)) (kk : zb_Go em l G d own cc nL ret (pc + 3) lv (.ref (zb_ad G c) :: rest) S o) : zb_Go em l G d own cc nL ret pc lv (.ref (zb_ad G b) :: rest) S o := zg_get (C := RX6) (Tt := TX6) (N := 27) (k := 1) hkd (by decide) rfl rfl inlX6 (by decide) rfl hw ((by rw [zb_val_r (by rw [hkd]; rfl), hr])) hd kk
theorem zq_X6_2 {b index : Nat} (hkd : zb_kd b = 6) (hw : Cond.fieldLink own index "ZoneBeltModel" "textSize" "I" ∈ wsL_law) (hd : decode cc pc = .ok (.getfield index, 3)) (kk : zb_Go em l G d own cc nL ret (pc + 3) lv (.int (zb_i S b 2) :: rest) S o) : zb_Go em l G d own cc nL ret pc lv (.ref (zb_ad G b) :: rest) S o := zg_get (C := RX6) (Tt := TX6) (N := 27) (k := 2) hkd (by decide) rfl rfl inlX6 (by decide) rfl hw (zb_val_i (by rw [hkd]; rfl)) hd kk
theorem zp_X6_2 {b index : Nat} {x : Int32} {kf : zb_S → Option (α × zb_S)} (hkd : zb_kd b = 6) (hw : Cond.fieldLink own index "ZoneBeltModel" "textSize" "I" ∈ wsL_law) (hd : decode cc pc = .ok (.putfield index, 3)) (kk : ∀ S1 : zb_S, zb_Go em l G d own cc nL ret (pc + 3) lv rest S1 (kf S1)) : zb_Go em l G d own cc nL ret pc lv (.int x :: .ref (zb_ad G b) :: rest) S (zb_let (zb_pi S b 2 x) kf) := zg_puti (C := RX6) (Tt := TX6) (N := 27) (k := 2) hkd (by decide) rfl rfl inlX6 tyX6 tyX6_ok nmX6 (by decide) hw rfl rfl (by decide +kernel) hd kk
theorem zq_X6_3 {b index : Nat} (hkd : zb_kd b = 6) (hw : Cond.fieldLink own index "ZoneBeltModel" "place" "I" ∈ wsL_law) (hd : decode cc pc = .ok (.getfield index, 3)) (kk : zb_Go em l G d own cc nL ret (pc + 3) lv (.int (zb_i S b 3) :: rest) S o) : zb_Go em l G d own cc nL ret pc lv (.ref (zb_ad G b) :: rest) S o := zg_get (C := RX6) (Tt := TX6) (N := 27) (k := 3) hkd (by decide) rfl rfl inlX6 (by decide) rfl hw (zb_val_i (by rw [hkd]; rfl)) hd kk
theorem zp_X6_3 {b index : Nat} {x : Int32} {kf : zb_S → Option (α × zb_S)} (hkd : zb_kd b = 6) (hw : Cond.fieldLink own index "ZoneBeltModel" "place" "I" ∈ wsL_law) (hd : decode cc pc = .ok (.putfield index, 3)) (kk : ∀ S1 : zb_S, zb_Go em l G d own cc nL ret (pc + 3) lv rest S1 (kf S1)) : zb_Go em l G d own cc nL ret pc lv (.int x :: .ref (zb_ad G b) :: rest) S (zb_let (zb_pi S b 3 x) kf) := zg_puti (C := RX6) (Tt := TX6) (N := 27) (k := 3) hkd (by decide) rfl rfl inlX6 tyX6 tyX6_ok nmX6 (by decide) hw rfl rfl (by decide +kernel) hd kk
theorem zq_X6_4 {b index : Nat} (hkd : zb_kd b = 6) (hw : Cond.fieldLink own index "ZoneBeltModel" "main" "I" ∈ wsL_law) (hd : decode cc pc = .ok (.getfield index, 3)) (kk : zb_Go em l G d own cc nL ret (pc + 3) lv (.int (zb_i S b 4) :: rest) S o) : zb_Go em l G d own cc nL ret pc lv (.ref (zb_ad G b) :: rest) S o := zg_get (C := RX6) (Tt := TX6) (N := 27) (k := 4) hkd (by decide) rfl rfl inlX6 (by decide) rfl hw (zb_val_i (by rw [hkd]; rfl)) hd kk
theorem zp_X6_4 {b index : Nat} {x : Int32} {kf : zb_S → Option (α × zb_S)} (hkd : zb_kd b = 6) (hw : Cond.fieldLink own index "ZoneBeltModel" "main" "I" ∈ wsL_law) (hd : decode cc pc = .ok (.putfield index, 3)) (kk : ∀ S1 : zb_S, zb_Go em l G d own cc nL ret (pc + 3) lv rest S1 (kf S1)) : zb_Go em l G d own cc nL ret pc lv (.int x :: .ref (zb_ad G b) :: rest) S (zb_let (zb_pi S b 4 x) kf) := zg_puti (C := RX6) (Tt := TX6) (N := 27) (k := 4) hkd (by decide) rfl rfl inlX6 tyX6 tyX6_ok nmX6 (by decide) hw rfl rfl (by decide +kernel) hd kk
theorem zq_X6_5 {b index : Nat} (hkd : zb_kd b = 6) (hw : Cond.fieldLink own index "ZoneBeltModel" "side" "I" ∈ wsL_law) (hd : decode cc pc = .ok (.getfield index, 3)) (kk : zb_Go em l G d own cc nL ret (pc + 3) lv (.int (zb_i S b 5) :: rest) S o) : zb_Go em l G d own cc nL ret pc lv (.ref (zb_ad G b) :: rest) S o := zg_get (C := RX6) (Tt := TX6) (N := 27) (k := 5) hkd (by decide) rfl rfl inlX6 (by decide) rfl hw (zb_val_i (by rw [hkd]; rfl)) hd kk
theorem zp_X6_5 {b index : Nat} {x : Int32} {kf : zb_S → Option (α × zb_S)} (hkd : zb_kd b = 6) (hw : Cond.fieldLink own index "ZoneBeltModel" "side" "I" ∈ wsL_law) (hd : decode cc pc = .ok (.putfield index, 3)) (kk : ∀ S1 : zb_S, zb_Go em l G d own cc nL ret (pc + 3) lv rest S1 (kf S1)) : zb_Go em l G d own cc nL ret pc lv (.int x :: .ref (zb_ad G b) :: rest) S (zb_let (zb_pi S b 5 x) kf) := zg_puti (C := RX6) (Tt := TX6) (N := 27) (k := 5) hkd (by decide) rfl rfl inlX6 tyX6 tyX6_ok nmX6 (by decide) hw rfl rfl (by decide +kernel) hd kk
theorem zq_X6_6 {b index : Nat} (hkd : zb_kd b = 6) (hw : Cond.fieldLink own index "ZoneBeltModel" "meet" "I" ∈ wsL_law) (hd : decode cc pc = .ok (.getfield index, 3)) (kk : zb_Go em l G d own cc nL ret (pc + 3) lv (.int (zb_i S b 6) :: rest) S o) : zb_Go em l G d own cc nL ret pc lv (.ref (zb_ad G b) :: rest) S o := zg_get (C := RX6) (Tt := TX6) (N := 27) (k := 6) hkd (by decide) rfl rfl inlX6 (by decide) rfl hw (zb_val_i (by rw [hkd]; rfl)) hd kk
theorem zp_X6_6 {b index : Nat} {x : Int32} {kf : zb_S → Option (α × zb_S)} (hkd : zb_kd b = 6) (hw : Cond.fieldLink own index "ZoneBeltModel" "meet" "I" ∈ wsL_law) (hd : decode cc pc = .ok (.putfield index, 3)) (kk : ∀ S1 : zb_S, zb_Go em l G d own cc nL ret (pc + 3) lv rest S1 (kf S1)) : zb_Go em l G d own cc nL ret pc lv (.int x :: .ref (zb_ad G b) :: rest) S (zb_let (zb_pi S b 6 x) kf) := zg_puti (C := RX6) (Tt := TX6) (N := 27) (k := 6) hkd (by decide) rfl rfl inlX6 tyX6 tyX6_ok nmX6 (by decide) hw rfl rfl (by decide +kernel) hd kk
theorem zq_X6_7 {b index : Nat} (hkd : zb_kd b = 6) (hw : Cond.fieldLink own index "ZoneBeltModel" "readMain" "I" ∈ wsL_law) (hd : decode cc pc = .ok (.getfield index, 3)) (kk : zb_Go em l G d own cc nL ret (pc + 3) lv (.int (zb_i S b 7) :: rest) S o) : zb_Go em l G d own cc nL ret pc lv (.ref (zb_ad G b) :: rest) S o := zg_get (C := RX6) (Tt := TX6) (N := 27) (k := 7) hkd (by decide) rfl rfl inlX6 (by decide) rfl hw (zb_val_i (by rw [hkd]; rfl)) hd kk
theorem zp_X6_7 {b index : Nat} {x : Int32} {kf : zb_S → Option (α × zb_S)} (hkd : zb_kd b = 6) (hw : Cond.fieldLink own index "ZoneBeltModel" "readMain" "I" ∈ wsL_law) (hd : decode cc pc = .ok (.putfield index, 3)) (kk : ∀ S1 : zb_S, zb_Go em l G d own cc nL ret (pc + 3) lv rest S1 (kf S1)) : zb_Go em l G d own cc nL ret pc lv (.int x :: .ref (zb_ad G b) :: rest) S (zb_let (zb_pi S b 7 x) kf) := zg_puti (C := RX6) (Tt := TX6) (N := 27) (k := 7) hkd (by decide) rfl rfl inlX6 tyX6 tyX6_ok nmX6 (by decide) hw rfl rfl (by decide +kernel) hd kk
theorem zq_X6_8 {b index : Nat} (hkd : zb_kd b = 6) (hw : Cond.fieldLink own index "ZoneBeltModel" "readSide" "I" ∈ wsL_law) (hd : decode cc pc = .ok (.getfield index, 3)) (kk : zb_Go em l G d own cc nL ret (pc + 3) lv (.int (zb_i S b 8) :: rest) S o) : zb_Go em l G d own cc nL ret pc lv (.ref (zb_ad G b) :: rest) S o := zg_get (C := RX6) (Tt := TX6) (N := 27) (k := 8) hkd (by decide) rfl rfl inlX6 (by decide) rfl hw (zb_val_i (by rw [hkd]; rfl)) hd kk
theorem zp_X6_8 {b index : Nat} {x : Int32} {kf : zb_S → Option (α × zb_S)} (hkd : zb_kd b = 6) (hw : Cond.fieldLink own index "ZoneBeltModel" "readSide" "I" ∈ wsL_law) (hd : decode cc pc = .ok (.putfield index, 3)) (kk : ∀ S1 : zb_S, zb_Go em l G d own cc nL ret (pc + 3) lv rest S1 (kf S1)) : zb_Go em l G d own cc nL ret pc lv (.int x :: .ref (zb_ad G b) :: rest) S (zb_let (zb_pi S b 8 x) kf) := zg_puti (C := RX6) (Tt := TX6) (N := 27) (k := 8) hkd (by decide) rfl rfl inlX6 tyX6 tyX6_ok nmX6 (by decide) hw rfl rfl (by decide +kernel) hd kk
theorem zq_X6_9 {b index : Nat} (hkd : zb_kd b = 6) (hw : Cond.fieldLink own index "ZoneBeltModel" "readMeet" "I" ∈ wsL_law) (hd : decode cc pc = .ok (.getfield index, 3)) (kk : zb_Go em l G d own cc nL ret (pc + 3) lv (.int (zb_i S b 9) :: rest) S o) : zb_Go em l G d own cc nL ret pc lv (.ref (zb_ad G b) :: rest) S o := zg_get (C := RX6) (Tt := TX6) (N := 27) (k := 9) hkd (by decide) rfl rfl inlX6 (by decide) rfl hw (zb_val_i (by rw [hkd]; rfl)) hd kk
theorem zp_X6_9 {b index : Nat} {x : Int32} {kf : zb_S → Option (α × zb_S)} (hkd : zb_kd b = 6) (hw : Cond.fieldLink own index "ZoneBeltModel" "readMeet" "I" ∈ wsL_law) (hd : decode cc pc = .ok (.putfield index, 3)) (kk : ∀ S1 : zb_S, zb_Go em l G d own cc nL ret (pc + 3) lv rest S1 (kf S1)) : zb_Go em l G d own cc nL ret pc lv (.int x :: .ref (zb_ad G b) :: rest) S (zb_let (zb_pi S b 9 x) kf) := zg_puti (C := RX6) (Tt := TX6) (N := 27) (k := 9) hkd (by decide) rfl rfl inlX6 tyX6 tyX6_ok nmX6 (by decide) hw rfl rfl (by decide +kernel) hd kk
theorem zq_X6_10 {b index : Nat} {c : Nat} (hkd : zb_kd b = 6) (hr : zb_rf b 10 = c) (hw : Cond.fieldLink own index "ZoneBeltModel" "readPage" "[I" ∈ wsL_law) (hd : decode cc pc = .ok (.getfield index, 3)) (kk : zb_Go em l G d own cc nL ret (pc + 3) lv (.ref (zb_ad G c) :: rest) S o) : zb_Go em l G d own cc nL ret pc lv (.ref (zb_ad G b) :: rest) S o := zg_get (C := RX6) (Tt := TX6) (N := 27) (k := 10) hkd (by decide) rfl rfl inlX6 (by decide) rfl hw ((by rw [zb_val_r (by rw [hkd]; rfl), hr])) hd kk
theorem zq_X6_11 {b index : Nat} {c : Nat} (hkd : zb_kd b = 6) (hr : zb_rf b 11 = c) (hw : Cond.fieldLink own index "ZoneBeltModel" "page" "[I" ∈ wsL_law) (hd : decode cc pc = .ok (.getfield index, 3)) (kk : zb_Go em l G d own cc nL ret (pc + 3) lv (.ref (zb_ad G c) :: rest) S o) : zb_Go em l G d own cc nL ret pc lv (.ref (zb_ad G b) :: rest) S o := zg_get (C := RX6) (Tt := TX6) (N := 27) (k := 11) hkd (by decide) rfl rfl inlX6 (by decide) rfl hw ((by rw [zb_val_r (by rw [hkd]; rfl), hr])) hd kk
theorem zq_X6_12 {b index : Nat} {c : Nat} (hkd : zb_kd b = 6) (hr : zb_rf b 12 = c) (hw : Cond.fieldLink own index "ZoneBeltModel" "trial" "[I" ∈ wsL_law) (hd : decode cc pc = .ok (.getfield index, 3)) (kk : zb_Go em l G d own cc nL ret (pc + 3) lv (.ref (zb_ad G c) :: rest) S o) : zb_Go em l G d own cc nL ret pc lv (.ref (zb_ad G b) :: rest) S o := zg_get (C := RX6) (Tt := TX6) (N := 27) (k := 12) hkd (by decide) rfl rfl inlX6 (by decide) rfl hw ((by rw [zb_val_r (by rw [hkd]; rfl), hr])) hd kk
theorem zq_X6_13 {b index : Nat} {c : Nat} (hkd : zb_kd b = 6) (hr : zb_rf b 13 = c) (hw : Cond.fieldLink own index "ZoneBeltModel" "book" "[I" ∈ wsL_law) (hd : decode cc pc = .ok (.getfield index, 3)) (kk : zb_Go em l G d own cc nL ret (pc + 3) lv (.ref (zb_ad G c) :: rest) S o) : zb_Go em l G d own cc nL ret pc lv (.ref (zb_ad G b) :: rest) S o := zg_get (C := RX6) (Tt := TX6) (N := 27) (k := 13) hkd (by decide) rfl rfl inlX6 (by decide) rfl hw ((by rw [zb_val_r (by rw [hkd]; rfl), hr])) hd kk
theorem zq_X6_14 {b index : Nat} (hkd : zb_kd b = 6) (hw : Cond.fieldLink own index "ZoneBeltModel" "doings" "I" ∈ wsL_law) (hd : decode cc pc = .ok (.getfield index, 3)) (kk : zb_Go em l G d own cc nL ret (pc + 3) lv (.int (zb_i S b 14) :: rest) S o) : zb_Go em l G d own cc nL ret pc lv (.ref (zb_ad G b) :: rest) S o := zg_get (C := RX6) (Tt := TX6) (N := 27) (k := 14) hkd (by decide) rfl rfl inlX6 (by decide) rfl hw (zb_val_i (by rw [hkd]; rfl)) hd kk
theorem zp_X6_14 {b index : Nat} {x : Int32} {kf : zb_S → Option (α × zb_S)} (hkd : zb_kd b = 6) (hw : Cond.fieldLink own index "ZoneBeltModel" "doings" "I" ∈ wsL_law) (hd : decode cc pc = .ok (.putfield index, 3)) (kk : ∀ S1 : zb_S, zb_Go em l G d own cc nL ret (pc + 3) lv rest S1 (kf S1)) : zb_Go em l G d own cc nL ret pc lv (.int x :: .ref (zb_ad G b) :: rest) S (zb_let (zb_pi S b 14 x) kf) := zg_puti (C := RX6) (Tt := TX6) (N := 27) (k := 14) hkd (by decide) rfl rfl inlX6 tyX6 tyX6_ok nmX6 (by decide) hw rfl rfl (by decide +kernel) hd kk
theorem zq_X6_15 {b index : Nat} {c : Nat} (hkd : zb_kd b = 6) (hr : zb_rf b 15 = c) (hw : Cond.fieldLink own index "ZoneBeltModel" "kept" "[I" ∈ wsL_law) (hd : decode cc pc = .ok (.getfield index, 3)) (kk : zb_Go em l G d own cc nL ret (pc + 3) lv (.ref (zb_ad G c) :: rest) S o) : zb_Go em l G d own cc nL ret pc lv (.ref (zb_ad G b) :: rest) S o := zg_get (C := RX6) (Tt := TX6) (N := 27) (k := 15) hkd (by decide) rfl rfl inlX6 (by decide) rfl hw ((by rw [zb_val_r (by rw [hkd]; rfl), hr])) hd kk
theorem zq_X6_16 {b index : Nat} {c : Nat} (hkd : zb_kd b = 6) (hr : zb_rf b 16 = c) (hw : Cond.fieldLink own index "ZoneBeltModel" "isKept" "[Z" ∈ wsL_law) (hd : decode cc pc = .ok (.getfield index, 3)) (kk : zb_Go em l G d own cc nL ret (pc + 3) lv (.ref (zb_ad G c) :: rest) S o) : zb_Go em l G d own cc nL ret pc lv (.ref (zb_ad G b) :: rest) S o := zg_get (C := RX6) (Tt := TX6) (N := 27) (k := 16) hkd (by decide) rfl rfl inlX6 (by decide) rfl hw ((by rw [zb_val_r (by rw [hkd]; rfl), hr])) hd kk
theorem zq_X6_17 {b index : Nat} (hkd : zb_kd b = 6) (hw : Cond.fieldLink own index "ZoneBeltModel" "seen" "I" ∈ wsL_law) (hd : decode cc pc = .ok (.getfield index, 3)) (kk : zb_Go em l G d own cc nL ret (pc + 3) lv (.int (zb_i S b 17) :: rest) S o) : zb_Go em l G d own cc nL ret pc lv (.ref (zb_ad G b) :: rest) S o := zg_get (C := RX6) (Tt := TX6) (N := 27) (k := 17) hkd (by decide) rfl rfl inlX6 (by decide) rfl hw (zb_val_i (by rw [hkd]; rfl)) hd kk
theorem zp_X6_17 {b index : Nat} {x : Int32} {kf : zb_S → Option (α × zb_S)} (hkd : zb_kd b = 6) (hw : Cond.fieldLink own index "ZoneBeltModel" "seen" "I" ∈ wsL_law) (hd : decode cc pc = .ok (.putfield index, 3)) (kk : ∀ S1 : zb_S, zb_Go em l G d own cc nL ret (pc + 3) lv rest S1 (kf S1)) : zb_Go em l G d own cc nL ret pc lv (.int x :: .ref (zb_ad G b) :: rest) S (zb_let (zb_pi S b 17 x) kf) := zg_puti (C := RX6) (Tt := TX6) (N := 27) (k := 17) hkd (by decide) rfl rfl inlX6 tyX6 tyX6_ok nmX6 (by decide) hw rfl rfl (by decide +kernel) hd kk
theorem zq_X6_18 {b index : Nat} {c : Nat} (hkd : zb_kd b = 6) (hr : zb_rf b 18 = c) (hw : Cond.fieldLink own index "ZoneBeltModel" "seenBehind" "[I" ∈ wsL_law) (hd : decode cc pc = .ok (.getfield index, 3)) (kk : zb_Go em l G d own cc nL ret (pc + 3) lv (.ref (zb_ad G c) :: rest) S o) : zb_Go em l G d own cc nL ret pc lv (.ref (zb_ad G b) :: rest) S o := zg_get (C := RX6) (Tt := TX6) (N := 27) (k := 18) hkd (by decide) rfl rfl inlX6 (by decide) rfl hw ((by rw [zb_val_r (by rw [hkd]; rfl), hr])) hd kk
theorem zq_X6_19 {b index : Nat} {c : Nat} (hkd : zb_kd b = 6) (hr : zb_rf b 19 = c) (hw : Cond.fieldLink own index "ZoneBeltModel" "seenGone" "[I" ∈ wsL_law) (hd : decode cc pc = .ok (.getfield index, 3)) (kk : zb_Go em l G d own cc nL ret (pc + 3) lv (.ref (zb_ad G c) :: rest) S o) : zb_Go em l G d own cc nL ret pc lv (.ref (zb_ad G b) :: rest) S o := zg_get (C := RX6) (Tt := TX6) (N := 27) (k := 19) hkd (by decide) rfl rfl inlX6 (by decide) rfl hw ((by rw [zb_val_r (by rw [hkd]; rfl), hr])) hd kk
theorem zq_X6_20 {b index : Nat} {c : Nat} (hkd : zb_kd b = 6) (hr : zb_rf b 20 = c) (hw : Cond.fieldLink own index "ZoneBeltModel" "seenWas" "[I" ∈ wsL_law) (hd : decode cc pc = .ok (.getfield index, 3)) (kk : zb_Go em l G d own cc nL ret (pc + 3) lv (.ref (zb_ad G c) :: rest) S o) : zb_Go em l G d own cc nL ret pc lv (.ref (zb_ad G b) :: rest) S o := zg_get (C := RX6) (Tt := TX6) (N := 27) (k := 20) hkd (by decide) rfl rfl inlX6 (by decide) rfl hw ((by rw [zb_val_r (by rw [hkd]; rfl), hr])) hd kk
theorem zq_X6_21 {b index : Nat} (hkd : zb_kd b = 6) (hw : Cond.fieldLink own index "ZoneBeltModel" "seed" "J" ∈ wsL_law) (hd : decode cc pc = .ok (.getfield index, 3)) (kk : zb_Go em l G d own cc nL ret (pc + 3) lv (.long (zb_l S b 21) :: rest) S o) : zb_Go em l G d own cc nL ret pc lv (.ref (zb_ad G b) :: rest) S o := zg_get (C := RX6) (Tt := TX6) (N := 27) (k := 21) hkd (by decide) rfl rfl inlX6 (by decide) rfl hw (zb_val_l (by rw [hkd]; rfl)) hd kk
theorem zp_X6_21 {b index : Nat} {x : Int64} {kf : zb_S → Option (α × zb_S)} (hkd : zb_kd b = 6) (hw : Cond.fieldLink own index "ZoneBeltModel" "seed" "J" ∈ wsL_law) (hd : decode cc pc = .ok (.putfield index, 3)) (kk : ∀ S1 : zb_S, zb_Go em l G d own cc nL ret (pc + 3) lv rest S1 (kf S1)) : zb_Go em l G d own cc nL ret pc lv (.long x :: .ref (zb_ad G b) :: rest) S (zb_let (zb_pl S b 21 x) kf) := zg_putl (C := RX6) (Tt := TX6) (N := 27) (k := 21) hkd (by decide) rfl rfl inlX6 tyX6 tyX6_ok nmX6 (by decide) hw rfl rfl (by decide +kernel) hd kk
theorem zq_X6_22 {b index : Nat} (hkd : zb_kd b = 6) (hw : Cond.fieldLink own index "ZoneBeltModel" "sees" "I" ∈ wsL_law) (hd : decode cc pc = .ok (.getfield index, 3)) (kk : zb_Go em l G d own cc nL ret (pc + 3) lv (.int (zb_i S b 22) :: rest) S o) : zb_Go em l G d own cc nL ret pc lv (.ref (zb_ad G b) :: rest) S o := zg_get (C := RX6) (Tt := TX6) (N := 27) (k := 22) hkd (by decide) rfl rfl inlX6 (by decide) rfl hw (zb_val_i (by rw [hkd]; rfl)) hd kk
theorem zp_X6_22 {b index : Nat} {x : Int32} {kf : zb_S → Option (α × zb_S)} (hkd : zb_kd b = 6) (hw : Cond.fieldLink own index "ZoneBeltModel" "sees" "I" ∈ wsL_law) (hd : decode cc pc = .ok (.putfield index, 3)) (kk : ∀ S1 : zb_S, zb_Go em l G d own cc nL ret (pc + 3) lv rest S1 (kf S1)) : zb_Go em l G d own cc nL ret pc lv (.int x :: .ref (zb_ad G b) :: rest) S (zb_let (zb_pi S b 22 x) kf) := zg_puti (C := RX6) (Tt := TX6) (N := 27) (k := 22) hkd (by decide) rfl rfl inlX6 tyX6 tyX6_ok nmX6 (by decide) hw rfl rfl (by decide +kernel) hd kk
theorem zq_X6_23 {b index : Nat} (hkd : zb_kd b = 6) (hw : Cond.fieldLink own index "ZoneBeltModel" "wishes" "I" ∈ wsL_law) (hd : decode cc pc = .ok (.getfield index, 3)) (kk : zb_Go em l G d own cc nL ret (pc + 3) lv (.int (zb_i S b 23) :: rest) S o) : zb_Go em l G d own cc nL ret pc lv (.ref (zb_ad G b) :: rest) S o := zg_get (C := RX6) (Tt := TX6) (N := 27) (k := 23) hkd (by decide) rfl rfl inlX6 (by decide) rfl hw (zb_val_i (by rw [hkd]; rfl)) hd kk
theorem zp_X6_23 {b index : Nat} {x : Int32} {kf : zb_S → Option (α × zb_S)} (hkd : zb_kd b = 6) (hw : Cond.fieldLink own index "ZoneBeltModel" "wishes" "I" ∈ wsL_law) (hd : decode cc pc = .ok (.putfield index, 3)) (kk : ∀ S1 : zb_S, zb_Go em l G d own cc nL ret (pc + 3) lv rest S1 (kf S1)) : zb_Go em l G d own cc nL ret pc lv (.int x :: .ref (zb_ad G b) :: rest) S (zb_let (zb_pi S b 23 x) kf) := zg_puti (C := RX6) (Tt := TX6) (N := 27) (k := 23) hkd (by decide) rfl rfl inlX6 tyX6 tyX6_ok nmX6 (by decide) hw rfl rfl (by decide +kernel) hd kk
theorem zq_X6_24 {b index : Nat} (hkd : zb_kd b = 6) (hw : Cond.fieldLink own index "ZoneBeltModel" "goes" "I" ∈ wsL_law) (hd : decode cc pc = .ok (.getfield index, 3)) (kk : zb_Go em l G d own cc nL ret (pc + 3) lv (.int (zb_i S b 24) :: rest) S o) : zb_Go em l G d own cc nL ret pc lv (.ref (zb_ad G b) :: rest) S o := zg_get (C := RX6) (Tt := TX6) (N := 27) (k := 24) hkd (by decide) rfl rfl inlX6 (by decide) rfl hw (zb_val_i (by rw [hkd]; rfl)) hd kk
theorem zp_X6_24 {b index : Nat} {x : Int32} {kf : zb_S → Option (α × zb_S)} (hkd : zb_kd b = 6) (hw : Cond.fieldLink own index "ZoneBeltModel" "goes" "I" ∈ wsL_law) (hd : decode cc pc = .ok (.putfield index, 3)) (kk : ∀ S1 : zb_S, zb_Go em l G d own cc nL ret (pc + 3) lv rest S1 (kf S1)) : zb_Go em l G d own cc nL ret pc lv (.int x :: .ref (zb_ad G b) :: rest) S (zb_let (zb_pi S b 24 x) kf) := zg_puti (C := RX6) (Tt := TX6) (N := 27) (k := 24) hkd (by decide) rfl rfl inlX6 tyX6 tyX6_ok nmX6 (by decide) hw rfl rfl (by decide +kernel) hd kk
theorem zq_X6_25 {b index : Nat} (hkd : zb_kd b = 6) (hw : Cond.fieldLink own index "ZoneBeltModel" "slept" "I" ∈ wsL_law) (hd : decode cc pc = .ok (.getfield index, 3)) (kk : zb_Go em l G d own cc nL ret (pc + 3) lv (.int (zb_i S b 25) :: rest) S o) : zb_Go em l G d own cc nL ret pc lv (.ref (zb_ad G b) :: rest) S o := zg_get (C := RX6) (Tt := TX6) (N := 27) (k := 25) hkd (by decide) rfl rfl inlX6 (by decide) rfl hw (zb_val_i (by rw [hkd]; rfl)) hd kk
theorem zp_X6_25 {b index : Nat} {x : Int32} {kf : zb_S → Option (α × zb_S)} (hkd : zb_kd b = 6) (hw : Cond.fieldLink own index "ZoneBeltModel" "slept" "I" ∈ wsL_law) (hd : decode cc pc = .ok (.putfield index, 3)) (kk : ∀ S1 : zb_S, zb_Go em l G d own cc nL ret (pc + 3) lv rest S1 (kf S1)) : zb_Go em l G d own cc nL ret pc lv (.int x :: .ref (zb_ad G b) :: rest) S (zb_let (zb_pi S b 25 x) kf) := zg_puti (C := RX6) (Tt := TX6) (N := 27) (k := 25) hkd (by decide) rfl rfl inlX6 tyX6 tyX6_ok nmX6 (by decide) hw rfl rfl (by decide +kernel) hd kk
theorem zq_X6_26 {b index : Nat} (hkd : zb_kd b = 6) (hw : Cond.fieldLink own index "ZoneBeltModel" "went" "I" ∈ wsL_law) (hd : decode cc pc = .ok (.getfield index, 3)) (kk : zb_Go em l G d own cc nL ret (pc + 3) lv (.int (zb_i S b 26) :: rest) S o) : zb_Go em l G d own cc nL ret pc lv (.ref (zb_ad G b) :: rest) S o := zg_get (C := RX6) (Tt := TX6) (N := 27) (k := 26) hkd (by decide) rfl rfl inlX6 (by decide) rfl hw (zb_val_i (by rw [hkd]; rfl)) hd kk
theorem zp_X6_26 {b index : Nat} {x : Int32} {kf : zb_S → Option (α × zb_S)} (hkd : zb_kd b = 6) (hw : Cond.fieldLink own index "ZoneBeltModel" "went" "I" ∈ wsL_law) (hd : decode cc pc = .ok (.putfield index, 3)) (kk : ∀ S1 : zb_S, zb_Go em l G d own cc nL ret (pc + 3) lv rest S1 (kf S1)) : zb_Go em l G d own cc nL ret pc lv (.int x :: .ref (zb_ad G b) :: rest) S (zb_let (zb_pi S b 26 x) kf) := zg_puti (C := RX6) (Tt := TX6) (N := 27) (k := 26) hkd (by decide) rfl rfl inlX6 tyX6 tyX6_ok nmX6 (by decide) hw rfl rfl (by decide +kernel) hd kk
end ZF
end
section
-- X1_in
def fX1_in_0 (N : Nat) (S : zb_S) (a0 : Int32) (a1 : Int32) : Option (Int32 × zb_S) :=
  if ((a0 >>> (a1 &&& 31)) &&& 1) = 1 then
    if (1 : Int32) = 0 ∨ (1 : Int32) = 1 then some (1, S) else none
  else
    if (0 : Int32) = 0 ∨ (0 : Int32) = 1 then some (0, S) else none
set_option maxHeartbeats 4000000 in
set_option maxRecDepth 100000 in
theorem gX1_in_0 {l : Launch} {G : zb_G} (N : Nat) (S : zb_S) (a0 : Int32) (a1 : Int32) : zb_Go zb_eI l G 0 RX1 cX1_in 2 (some .boolean) 0 [(0, .int a0), (1, .int a1)] [] S (fX1_in_0 N S a0 a1) := by
  unfold fX1_in_0
  refine zg_iload_n 0 dX1_in_0 rfl rfl ?_
  refine zg_iload_n 1 dX1_in_1 rfl rfl ?_
  refine zg_ishr dX1_in_2 ?_
  refine zg_iconst (v := 1) dX1_in_3 (by decide) ?_
  refine zg_iand dX1_in_4 ?_
  refine zg_iconst (v := 1) dX1_in_5 (by decide) ?_
  refine zg_icmp_ne 13 dX1_in_6 (by decide) ?_ ?_
  · refine zg_iconst (v := 0) dX1_in_13 (by decide) ?_
    exact zg_zret rfl dX1_in_14
  · refine zg_iconst (v := 1) dX1_in_9 (by decide) ?_
    refine zg_goto (tgt := 14) dX1_in_10 (by decide) ?_
    exact zg_zret rfl dX1_in_14
def fX1_in (N : Nat) (S : zb_S) (a0 : Int32) (a1 : Int32) : Option (Int32 × zb_S) := fX1_in_0 N S a0 a1
theorem zcX1_in {l : Launch} {G : zb_G} (N : Nat) (S : zb_S) (a0 : Int32) (a1 : Int32) : zb_C zb_eI l G 0 yX1_in cX1_in 2 (some .boolean) [.int a0, .int a1] S (fX1_in N S a0 a1) :=
  zb_C.of (by decide +kernel) rfl (Nat.le_of_ble_eq_true rfl) rfl (gX1_in_0 N S a0 a1)
-- X1_isEye
def fX1_isEye_0 (N : Nat) (S : zb_S) (a0 : Int32) : Option (Int32 × zb_S) :=
  if a0 < 0 then
    if (0 : Int32) = 0 ∨ (0 : Int32) = 1 then some (0, S) else none
  else
    if 2 < a0 then
      if (0 : Int32) = 0 ∨ (0 : Int32) = 1 then some (0, S) else none
    else
      if (1 : Int32) = 0 ∨ (1 : Int32) = 1 then some (1, S) else none
set_option maxHeartbeats 4000000 in
set_option maxRecDepth 100000 in
theorem gX1_isEye_0 {l : Launch} {G : zb_G} (N : Nat) (S : zb_S) (a0 : Int32) : zb_Go zb_eI l G 0 RX1 cX1_isEye 1 (some .boolean) 0 [(0, .int a0)] [] S (fX1_isEye_0 N S a0) := by
  unfold fX1_isEye_0
  refine zg_iload_n 0 dX1_isEye_0 rfl rfl ?_
  refine zg_if_lt 13 dX1_isEye_1 (by decide) ?_ ?_
  · refine zg_iconst (v := 0) dX1_isEye_13 (by decide) ?_
    exact zg_zret rfl dX1_isEye_14
  · refine zg_iload_n 0 dX1_isEye_4 rfl rfl ?_
    refine zg_iconst (v := 2) dX1_isEye_5 (by decide) ?_
    refine zg_icmp_gt 13 dX1_isEye_6 (by decide) ?_ ?_
    · refine zg_iconst (v := 0) dX1_isEye_13 (by decide) ?_
      exact zg_zret rfl dX1_isEye_14
    · refine zg_iconst (v := 1) dX1_isEye_9 (by decide) ?_
      refine zg_goto (tgt := 14) dX1_isEye_10 (by decide) ?_
      exact zg_zret rfl dX1_isEye_14
def fX1_isEye (N : Nat) (S : zb_S) (a0 : Int32) : Option (Int32 × zb_S) := fX1_isEye_0 N S a0
theorem zcX1_isEye {l : Launch} {G : zb_G} (N : Nat) (S : zb_S) (a0 : Int32) : zb_C zb_eI l G 0 yX1_isEye cX1_isEye 1 (some .boolean) [.int a0] S (fX1_isEye N S a0) :=
  zb_C.of (by decide +kernel) rfl (Nat.le_of_ble_eq_true rfl) rfl (gX1_isEye_0 N S a0)
-- X1_begin
def fX1_begin_25b (N : Nat) (b0 : Nat) (k25 : zb_S → Int32 → Option (Unit × zb_S)) (S : zb_S) (l4 : Int32) : Option (Unit × zb_S) :=
  if 57 ≤ l4 then
    if zb_in 50 (zb_sz (b0 + 1)) then zb_let (zb_pa S (b0 + 1) (Int32.toNatClampNeg 50) 1) (fun S1 : zb_S =>
    some ((), S1)) else none
  else
    if zb_in l4 (zb_sz (b0 + 1)) then zb_let (zb_pa S (b0 + 1) (Int32.toNatClampNeg l4) 0) (fun S2 : zb_S =>
    zb_let (l4 + 1) (fun x3 : Int32 =>
    k25 S2 x3)) else none
set_option maxHeartbeats 4000000 in
set_option maxRecDepth 100000 in
theorem gX1_begin_25b {l : Launch} {G : zb_G} (N : Nat) (b0 : Nat) (h0 : zb_kd b0 = 1) (k25 : zb_S → Int32 → Option (Unit × zb_S)) (hk25 : ∀ (S : zb_S) (l4 : Int32), zb_Go zb_eV l G 0 RX1 cX1_begin 5 none 25 [(0, .ref (zb_ad G b0)), (4, .int l4)] [] S (k25 S l4)) (S : zb_S) (l4 : Int32) : zb_Go zb_eV l G 0 RX1 cX1_begin 5 none 25 [(0, .ref (zb_ad G b0)), (4, .int l4)] [] S (fX1_begin_25b N b0 k25 S l4) := by
  unfold fX1_begin_25b
  refine zg_iload 1 dX1_begin_25 rfl ?_
  refine zg_bipush (v := 57) dX1_begin_27 (by decide) ?_
  refine zg_icmp_ge 46 dX1_begin_29 (by decide) ?_ ?_
  · refine zg_aload_n 0 dX1_begin_46 rfl rfl ?_
    refine zq_X1_4 h0 (zk_X1_4 h0).1 zw_55 dX1_begin_47 ?_
    refine zg_bipush (v := 50) dX1_begin_50 (by decide) ?_
    refine zg_iconst (v := 1) dX1_begin_52 (by decide) ?_
    refine zg_iast (zk_X1_4 h0).2.1 dX1_begin_53 (fun S1 => ?_)
    exact zg_vret rfl dX1_begin_54
  · refine zg_aload_n 0 dX1_begin_32 rfl rfl ?_
    refine zq_X1_4 h0 (zk_X1_4 h0).1 zw_55 dX1_begin_33 ?_
    refine zg_iload 1 dX1_begin_36 rfl ?_
    refine zg_iconst (v := 0) dX1_begin_38 (by decide) ?_
    refine zg_iast (zk_X1_4 h0).2.1 dX1_begin_39 (fun S2 => ?_)
    refine zg_iincL (fun x3 => [(4, .int x3), (0, .ref (zb_ad G b0))]) 1 dX1_begin_40 rfl rfl (by decide) (fun _ => rfl) (fun x3 => ?_)
    refine zg_goto (tgt := 25) dX1_begin_43 (by decide) ?_
    refine zg_sub [1, 0] rfl ?_
    exact hk25 S2 x3
def fX1_begin_25 (N : Nat) (b0 : Nat) : Nat → zb_S → Int32 → Option (Unit × zb_S)
  | 0, _, _ => none
  | n + 1, S, l4 => fX1_begin_25b N b0 (fX1_begin_25 N b0 n) S l4
set_option maxHeartbeats 4000000 in
set_option maxRecDepth 100000 in
theorem gX1_begin_25 {l : Launch} {G : zb_G} (N : Nat) (b0 : Nat) (h0 : zb_kd b0 = 1) : ∀ (n : Nat) (S : zb_S) (l4 : Int32), zb_Go zb_eV l G 0 RX1 cX1_begin 5 none 25 [(0, .ref (zb_ad G b0)), (4, .int l4)] [] S (fX1_begin_25 N b0 n S l4) := by
  intro n
  induction n with
  | zero => intros; exact zg_none
  | succ n ih =>
    intro S l4
    exact gX1_begin_25b N b0 h0 (fX1_begin_25 N b0 n) ih S l4
def fX1_begin_0 (N : Nat) (b0 : Nat) (S : zb_S) (a1 : Int32) (a2 : Int32) (a3 : Int32) : Option (Unit × zb_S) :=
  zb_let (zb_pi S b0 0 a1) (fun S1 : zb_S =>
  zb_let (zb_pi S1 b0 1 a2) (fun S2 : zb_S =>
  zb_let (zb_pi S2 b0 2 (a1 + a2)) (fun S3 : zb_S =>
  zb_let (zb_pi S3 b0 3 a3) (fun S4 : zb_S =>
  fX1_begin_25 N b0 N S4 0))))
set_option maxHeartbeats 4000000 in
set_option maxRecDepth 100000 in
theorem gX1_begin_0 {l : Launch} {G : zb_G} (N : Nat) (b0 : Nat) (h0 : zb_kd b0 = 1) (S : zb_S) (a1 : Int32) (a2 : Int32) (a3 : Int32) : zb_Go zb_eV l G 0 RX1 cX1_begin 5 none 0 [(0, .ref (zb_ad G b0)), (1, .int a1), (2, .int a2), (3, .int a3)] [] S (fX1_begin_0 N b0 S a1 a2 a3) := by
  unfold fX1_begin_0
  refine zg_aload_n 0 dX1_begin_0 rfl rfl ?_
  refine zg_iload_n 1 dX1_begin_1 rfl rfl ?_
  refine zp_X1_0 h0 zw_51 dX1_begin_2 (fun S1 => ?_)
  refine zg_aload_n 0 dX1_begin_5 rfl rfl ?_
  refine zg_iload_n 2 dX1_begin_6 rfl rfl ?_
  refine zp_X1_1 h0 zw_52 dX1_begin_7 (fun S2 => ?_)
  refine zg_aload_n 0 dX1_begin_10 rfl rfl ?_
  refine zg_iload_n 1 dX1_begin_11 rfl rfl ?_
  refine zg_iload_n 2 dX1_begin_12 rfl rfl ?_
  refine zg_iadd dX1_begin_13 ?_
  refine zp_X1_2 h0 zw_53 dX1_begin_14 (fun S3 => ?_)
  refine zg_aload_n 0 dX1_begin_17 rfl rfl ?_
  refine zg_iload_n 3 dX1_begin_18 rfl rfl ?_
  refine zp_X1_3 h0 zw_54 dX1_begin_19 (fun S4 => ?_)
  refine zg_iconst (v := 0) dX1_begin_22 (by decide) ?_
  refine zg_istore (lv' := [(4, .int 0), (0, .ref (zb_ad G b0)), (1, .int a1), (2, .int a2), (3, .int a3)]) dX1_begin_23 (by decide) rfl ?_
  refine zg_sub [1, 0] rfl ?_
  exact gX1_begin_25 N b0 h0 N S4 0
def fX1_begin (N : Nat) (b0 : Nat) (S : zb_S) (a1 : Int32) (a2 : Int32) (a3 : Int32) : Option (Unit × zb_S) := fX1_begin_0 N b0 S a1 a2 a3
theorem zcX1_begin {l : Launch} {G : zb_G} (N : Nat) (b0 : Nat) (h0 : zb_kd b0 = 1) (S : zb_S) (a1 : Int32) (a2 : Int32) (a3 : Int32) : zb_C zb_eV l G 0 yX1_begin cX1_begin 5 none [.ref (zb_ad G b0), .int a1, .int a2, .int a3] S (fX1_begin N b0 S a1 a2 a3) :=
  zb_C.of (by decide +kernel) rfl (Nat.le_of_ble_eq_true rfl) rfl (gX1_begin_0 N b0 h0 S a1 a2 a3)
-- X1_copy
def fX1_copy_0 (N : Nat) (b0 : Nat) (b1 : Nat) (S : zb_S) : Option (Unit × zb_S) :=
  zb_let (zb_pi S b0 0 (zb_i S b1 0)) (fun S1 : zb_S =>
  zb_let (zb_pi S1 b0 1 (zb_i S1 b1 1)) (fun S2 : zb_S =>
  zb_let (zb_pi S2 b0 2 (zb_i S2 b1 2)) (fun S3 : zb_S =>
  zb_let (zb_pi S3 b0 3 (zb_i S3 b1 3)) (fun S4 : zb_S =>
  if zb_cpok 0 0 57 (zb_sz (b1 + 1)) (zb_sz (b0 + 1)) then zb_let (zb_cp S4 (b1 + 1) (Int32.toNatClampNeg 0) (b0 + 1) (Int32.toNatClampNeg 0) (Int32.toNatClampNeg 57)) (fun S5 : zb_S =>
  some ((), S5)) else none))))
set_option maxHeartbeats 4000000 in
set_option maxRecDepth 100000 in
theorem gX1_copy_0 {l : Launch} {G : zb_G} (N : Nat) (b0 : Nat) (h0 : zb_kd b0 = 1) (b1 : Nat) (h1 : zb_kd b1 = 1) (S : zb_S) : zb_Go zb_eV l G 0 RX1 cX1_copy 2 none 0 [(0, .ref (zb_ad G b0)), (1, .ref (zb_ad G b1))] [] S (fX1_copy_0 N b0 b1 S) := by
  unfold fX1_copy_0
  refine zg_aload_n 0 dX1_copy_0 rfl rfl ?_
  refine zg_aload_n 1 dX1_copy_1 rfl rfl ?_
  refine zq_X1_0 h1 zw_51 dX1_copy_2 ?_
  refine zp_X1_0 h0 zw_51 dX1_copy_5 (fun S1 => ?_)
  refine zg_aload_n 0 dX1_copy_8 rfl rfl ?_
  refine zg_aload_n 1 dX1_copy_9 rfl rfl ?_
  refine zq_X1_1 h1 zw_52 dX1_copy_10 ?_
  refine zp_X1_1 h0 zw_52 dX1_copy_13 (fun S2 => ?_)
  refine zg_aload_n 0 dX1_copy_16 rfl rfl ?_
  refine zg_aload_n 1 dX1_copy_17 rfl rfl ?_
  refine zq_X1_2 h1 zw_53 dX1_copy_18 ?_
  refine zp_X1_2 h0 zw_53 dX1_copy_21 (fun S3 => ?_)
  refine zg_aload_n 0 dX1_copy_24 rfl rfl ?_
  refine zg_aload_n 1 dX1_copy_25 rfl rfl ?_
  refine zq_X1_3 h1 zw_54 dX1_copy_26 ?_
  refine zp_X1_3 h0 zw_54 dX1_copy_29 (fun S4 => ?_)
  refine zg_aload_n 1 dX1_copy_32 rfl rfl ?_
  refine zq_X1_4 h1 (zk_X1_4 h1).1 zw_55 dX1_copy_33 ?_
  refine zg_iconst (v := 0) dX1_copy_36 (by decide) ?_
  refine zg_aload_n 0 dX1_copy_37 rfl rfl ?_
  refine zq_X1_4 h0 (zk_X1_4 h0).1 zw_55 dX1_copy_38 ?_
  refine zg_iconst (v := 0) dX1_copy_41 (by decide) ?_
  refine zg_bipush (v := 57) dX1_copy_42 (by decide) ?_
  refine zg_copy (zk_X1_4 h1).2.1 (zk_X1_4 h0).2.1 zw_537 zw_295 zw_296 zw_297 (Nat.le_of_ble_eq_true rfl) dX1_copy_44 (fun S5 => ?_)
  exact zg_vret rfl dX1_copy_47
def fX1_copy (N : Nat) (b0 : Nat) (b1 : Nat) (S : zb_S) : Option (Unit × zb_S) := fX1_copy_0 N b0 b1 S
theorem zcX1_copy {l : Launch} {G : zb_G} (N : Nat) (b0 : Nat) (h0 : zb_kd b0 = 1) (b1 : Nat) (h1 : zb_kd b1 = 1) (S : zb_S) : zb_C zb_eV l G 0 yX1_copy cX1_copy 2 none [.ref (zb_ad G b0), .ref (zb_ad G b1)] S (fX1_copy N b0 b1 S) :=
  zb_C.of (by decide +kernel) rfl (Nat.le_of_ble_eq_true rfl) rfl (gX1_copy_0 N b0 h0 b1 h1 S)
-- X1_hasZone
def fX1_hasZone_0 (N : Nat) (b0 : Nat) (S : zb_S) (a1 : Int32) : Option (Int32 × zb_S) :=
  if a1 < 0 then
    if (0 : Int32) = 0 ∨ (0 : Int32) = 1 then some (0, S) else none
  else
    if (zb_i S b0 2) ≤ a1 then
      if (0 : Int32) = 0 ∨ (0 : Int32) = 1 then some (0, S) else none
    else
      if 12 ≤ a1 then
        if (0 : Int32) = 0 ∨ (0 : Int32) = 1 then some (0, S) else none
      else
        if (1 : Int32) = 0 ∨ (1 : Int32) = 1 then some (1, S) else none
set_option maxHeartbeats 4000000 in
set_option maxRecDepth 100000 in
theorem gX1_hasZone_0 {l : Launch} {G : zb_G} (N : Nat) (b0 : Nat) (h0 : zb_kd b0 = 1) (S : zb_S) (a1 : Int32) : zb_Go zb_eI l G 0 RX1 cX1_hasZone 2 (some .boolean) 0 [(0, .ref (zb_ad G b0)), (1, .int a1)] [] S (fX1_hasZone_0 N b0 S a1) := by
  unfold fX1_hasZone_0
  refine zg_iload_n 1 dX1_hasZone_0 rfl rfl ?_
  refine zg_if_lt 22 dX1_hasZone_1 (by decide) ?_ ?_
  · refine zg_iconst (v := 0) dX1_hasZone_22 (by decide) ?_
    exact zg_zret rfl dX1_hasZone_23
  · refine zg_iload_n 1 dX1_hasZone_4 rfl rfl ?_
    refine zg_aload_n 0 dX1_hasZone_5 rfl rfl ?_
    refine zq_X1_2 h0 zw_53 dX1_hasZone_6 ?_
    refine zg_icmp_ge 22 dX1_hasZone_9 (by decide) ?_ ?_
    · refine zg_iconst (v := 0) dX1_hasZone_22 (by decide) ?_
      exact zg_zret rfl dX1_hasZone_23
    · refine zg_iload_n 1 dX1_hasZone_12 rfl rfl ?_
      refine zg_bipush (v := 12) dX1_hasZone_13 (by decide) ?_
      refine zg_icmp_ge 22 dX1_hasZone_15 (by decide) ?_ ?_
      · refine zg_iconst (v := 0) dX1_hasZone_22 (by decide) ?_
        exact zg_zret rfl dX1_hasZone_23
      · refine zg_iconst (v := 1) dX1_hasZone_18 (by decide) ?_
        refine zg_goto (tgt := 23) dX1_hasZone_19 (by decide) ?_
        exact zg_zret rfl dX1_hasZone_23
def fX1_hasZone (N : Nat) (b0 : Nat) (S : zb_S) (a1 : Int32) : Option (Int32 × zb_S) := fX1_hasZone_0 N b0 S a1
theorem zcX1_hasZone {l : Launch} {G : zb_G} (N : Nat) (b0 : Nat) (h0 : zb_kd b0 = 1) (S : zb_S) (a1 : Int32) : zb_C zb_eI l G 0 yX1_hasZone cX1_hasZone 2 (some .boolean) [.ref (zb_ad G b0), .int a1] S (fX1_hasZone N b0 S a1) :=
  zb_C.of (by decide +kernel) rfl (Nat.le_of_ble_eq_true rfl) rfl (gX1_hasZone_0 N b0 h0 S a1)
-- X1_hasLine
def fX1_hasLine_16 (N : Nat) (b0 : Nat) (S : zb_S) : Option (Int32 × zb_S) :=
  if (1 : Int32) = 0 ∨ (1 : Int32) = 1 then some (1, S) else none
set_option maxHeartbeats 4000000 in
set_option maxRecDepth 100000 in
theorem gX1_hasLine_16 {l : Launch} {G : zb_G} (N : Nat) (b0 : Nat) (h0 : zb_kd b0 = 1) (S : zb_S) : zb_Go zb_eI l G 0 RX1 cX1_hasLine 2 (some .boolean) 16 [] [] S (fX1_hasLine_16 N b0 S) := by
  unfold fX1_hasLine_16
  refine zg_iconst (v := 1) dX1_hasLine_16 (by decide) ?_
  refine zg_goto (tgt := 21) dX1_hasLine_17 (by decide) ?_
  exact zg_zret rfl dX1_hasLine_21
def fX1_hasLine_0 (N : Nat) (b0 : Nat) (S : zb_S) (a1 : Int32) : Option (Int32 × zb_S) :=
  if a1 = 0 then
    fX1_hasLine_16 N b0 S
  else
    if a1 = 1 then
      if (zb_i S b0 1) ≤ 0 then
        if (0 : Int32) = 0 ∨ (0 : Int32) = 1 then some (0, S) else none
      else
        fX1_hasLine_16 N b0 S
    else
      if (0 : Int32) = 0 ∨ (0 : Int32) = 1 then some (0, S) else none
set_option maxHeartbeats 4000000 in
set_option maxRecDepth 100000 in
theorem gX1_hasLine_0 {l : Launch} {G : zb_G} (N : Nat) (b0 : Nat) (h0 : zb_kd b0 = 1) (S : zb_S) (a1 : Int32) : zb_Go zb_eI l G 0 RX1 cX1_hasLine 2 (some .boolean) 0 [(0, .ref (zb_ad G b0)), (1, .int a1)] [] S (fX1_hasLine_0 N b0 S a1) := by
  unfold fX1_hasLine_0
  refine zg_iload_n 1 dX1_hasLine_0 rfl rfl ?_
  refine zg_if_eq 16 dX1_hasLine_1 (by decide) ?_ ?_
  · refine zg_sub [] rfl ?_
    exact gX1_hasLine_16 N b0 h0 S
  · refine zg_iload_n 1 dX1_hasLine_4 rfl rfl ?_
    refine zg_iconst (v := 1) dX1_hasLine_5 (by decide) ?_
    refine zg_icmp_ne 20 dX1_hasLine_6 (by decide) ?_ ?_
    · refine zg_iconst (v := 0) dX1_hasLine_20 (by decide) ?_
      exact zg_zret rfl dX1_hasLine_21
    · refine zg_aload_n 0 dX1_hasLine_9 rfl rfl ?_
      refine zq_X1_1 h0 zw_52 dX1_hasLine_10 ?_
      refine zg_if_le 20 dX1_hasLine_13 (by decide) ?_ ?_
      · refine zg_iconst (v := 0) dX1_hasLine_20 (by decide) ?_
        exact zg_zret rfl dX1_hasLine_21
      · refine zg_sub [] rfl ?_
        exact gX1_hasLine_16 N b0 h0 S
def fX1_hasLine (N : Nat) (b0 : Nat) (S : zb_S) (a1 : Int32) : Option (Int32 × zb_S) := fX1_hasLine_0 N b0 S a1
theorem zcX1_hasLine {l : Launch} {G : zb_G} (N : Nat) (b0 : Nat) (h0 : zb_kd b0 = 1) (S : zb_S) (a1 : Int32) : zb_C zb_eI l G 0 yX1_hasLine cX1_hasLine 2 (some .boolean) [.ref (zb_ad G b0), .int a1] S (fX1_hasLine N b0 S a1) :=
  zb_C.of (by decide +kernel) rfl (Nat.le_of_ble_eq_true rfl) rfl (gX1_hasLine_0 N b0 h0 S a1)
-- X1_entryOf
def fX1_entryOf_0 (N : Nat) (b0 : Nat) (S : zb_S) (a1 : Int32) : Option (Int32 × zb_S) :=
  if a1 = 0 then
    some (0, S)
  else
    some (zb_i S b0 0, S)
set_option maxHeartbeats 4000000 in
set_option maxRecDepth 100000 in
theorem gX1_entryOf_0 {l : Launch} {G : zb_G} (N : Nat) (b0 : Nat) (h0 : zb_kd b0 = 1) (S : zb_S) (a1 : Int32) : zb_Go zb_eI l G 0 RX1 cX1_entryOf 2 (some .int) 0 [(0, .ref (zb_ad G b0)), (1, .int a1)] [] S (fX1_entryOf_0 N b0 S a1) := by
  unfold fX1_entryOf_0
  refine zg_iload_n 1 dX1_entryOf_0 rfl rfl ?_
  refine zg_if_ne 8 dX1_entryOf_1 (by decide) ?_ ?_
  · refine zg_aload_n 0 dX1_entryOf_8 rfl rfl ?_
    refine zq_X1_0 h0 zw_51 dX1_entryOf_9 ?_
    exact zg_iret rfl dX1_entryOf_12
  · refine zg_iconst (v := 0) dX1_entryOf_4 (by decide) ?_
    refine zg_goto (tgt := 12) dX1_entryOf_5 (by decide) ?_
    exact zg_iret rfl dX1_entryOf_12
def fX1_entryOf (N : Nat) (b0 : Nat) (S : zb_S) (a1 : Int32) : Option (Int32 × zb_S) := fX1_entryOf_0 N b0 S a1
theorem zcX1_entryOf {l : Launch} {G : zb_G} (N : Nat) (b0 : Nat) (h0 : zb_kd b0 = 1) (S : zb_S) (a1 : Int32) : zb_C zb_eI l G 0 yX1_entryOf cX1_entryOf 2 (some .int) [.ref (zb_ad G b0), .int a1] S (fX1_entryOf N b0 S a1) :=
  zb_C.of (by decide +kernel) rfl (Nat.le_of_ble_eq_true rfl) rfl (gX1_entryOf_0 N b0 h0 S a1)
-- X1_hasCarton
def fX1_hasCarton_0 (N : Nat) (b0 : Nat) (S : zb_S) (a1 : Int32) : Option (Int32 × zb_S) :=
  if zb_in (0 + a1) (zb_sz (b0 + 1)) then
  if (zb_a S (b0 + 1) (Int32.toNatClampNeg (0 + a1))) = 0 then
    if (0 : Int32) = 0 ∨ (0 : Int32) = 1 then some (0, S) else none
  else
    if (1 : Int32) = 0 ∨ (1 : Int32) = 1 then some (1, S) else none else none
set_option maxHeartbeats 4000000 in
set_option maxRecDepth 100000 in
theorem gX1_hasCarton_0 {l : Launch} {G : zb_G} (N : Nat) (b0 : Nat) (h0 : zb_kd b0 = 1) (S : zb_S) (a1 : Int32) : zb_Go zb_eI l G 0 RX1 cX1_hasCarton 2 (some .boolean) 0 [(0, .ref (zb_ad G b0)), (1, .int a1)] [] S (fX1_hasCarton_0 N b0 S a1) := by
  unfold fX1_hasCarton_0
  refine zg_aload_n 0 dX1_hasCarton_0 rfl rfl ?_
  refine zq_X1_4 h0 (zk_X1_4 h0).1 zw_55 dX1_hasCarton_1 ?_
  refine zg_iconst (v := 0) dX1_hasCarton_4 (by decide) ?_
  refine zg_iload_n 1 dX1_hasCarton_5 rfl rfl ?_
  refine zg_iadd dX1_hasCarton_6 ?_
  refine zg_iald (zk_X1_4 h0).2.1 dX1_hasCarton_7 ?_
  refine zg_if_eq 15 dX1_hasCarton_8 (by decide) ?_ ?_
  · refine zg_iconst (v := 0) dX1_hasCarton_15 (by decide) ?_
    exact zg_zret rfl dX1_hasCarton_16
  · refine zg_iconst (v := 1) dX1_hasCarton_11 (by decide) ?_
    refine zg_goto (tgt := 16) dX1_hasCarton_12 (by decide) ?_
    exact zg_zret rfl dX1_hasCarton_16
def fX1_hasCarton (N : Nat) (b0 : Nat) (S : zb_S) (a1 : Int32) : Option (Int32 × zb_S) := fX1_hasCarton_0 N b0 S a1
theorem zcX1_hasCarton {l : Launch} {G : zb_G} (N : Nat) (b0 : Nat) (h0 : zb_kd b0 = 1) (S : zb_S) (a1 : Int32) : zb_C zb_eI l G 0 yX1_hasCarton cX1_hasCarton 2 (some .boolean) [.ref (zb_ad G b0), .int a1] S (fX1_hasCarton N b0 S a1) :=
  zb_C.of (by decide +kernel) rfl (Nat.le_of_ble_eq_true rfl) rfl (gX1_hasCarton_0 N b0 h0 S a1)
-- X1_isJammed
def fX1_isJammed_0 (N : Nat) (b0 : Nat) (S : zb_S) (a1 : Int32) : Option (Int32 × zb_S) :=
  if zb_in 48 (zb_sz (b0 + 1)) then
  zb_bind (fX1_in N S (zb_a S (b0 + 1) (Int32.toNatClampNeg 48)) a1) (fun r2 S1 =>
  if (r2 : Int32) = 0 ∨ (r2 : Int32) = 1 then some (r2, S1) else none) else none
set_option maxHeartbeats 4000000 in
set_option maxRecDepth 100000 in
theorem gX1_isJammed_0 {l : Launch} {G : zb_G} (N : Nat) (b0 : Nat) (h0 : zb_kd b0 = 1) (S : zb_S) (a1 : Int32) : zb_Go zb_eI l G 1 RX1 cX1_isJammed 2 (some .boolean) 0 [(0, .ref (zb_ad G b0)), (1, .int a1)] [] S (fX1_isJammed_0 N b0 S a1) := by
  unfold fX1_isJammed_0
  refine zg_aload_n 0 dX1_isJammed_0 rfl rfl ?_
  refine zq_X1_4 h0 (zk_X1_4 h0).1 zw_55 dX1_isJammed_1 ?_
  refine zg_bipush (v := 48) dX1_isJammed_4 (by decide) ?_
  refine zg_iald (zk_X1_4 h0).2.1 dX1_isJammed_6 ?_
  refine zg_iload_n 1 dX1_isJammed_7 rfl rfl ?_
  refine zg_callSI (As := [.int (zb_a S (b0 + 1) (Int32.toNatClampNeg 48)), .int a1]) (rest := []) 2 (zcX1_in N S (zb_a S (b0 + 1) (Int32.toNatClampNeg 48)) a1) (by decide) (by decide) zw_247 zw_157 zw_19 zw_158 (by decide +kernel) rfl rfl (Nat.le_of_ble_eq_true rfl) dX1_isJammed_8 (fun r2 S1 => ?_)
  exact zg_zret rfl dX1_isJammed_11
def fX1_isJammed (N : Nat) (b0 : Nat) (S : zb_S) (a1 : Int32) : Option (Int32 × zb_S) := fX1_isJammed_0 N b0 S a1
theorem zcX1_isJammed {l : Launch} {G : zb_G} (N : Nat) (b0 : Nat) (h0 : zb_kd b0 = 1) (S : zb_S) (a1 : Int32) : zb_C zb_eI l G 1 yX1_isJammed cX1_isJammed 2 (some .boolean) [.ref (zb_ad G b0), .int a1] S (fX1_isJammed N b0 S a1) :=
  zb_C.of (by decide +kernel) rfl (Nat.le_of_ble_eq_true rfl) rfl (gX1_isJammed_0 N b0 h0 S a1)
-- X1_canFeed
def fX1_canFeed_0 (N : Nat) (b0 : Nat) (S : zb_S) (a1 : Int32) : Option (Int32 × zb_S) :=
  zb_bind (fX1_hasLine N b0 S a1) (fun r2 S1 =>
  if r2 = 0 then
    if (0 : Int32) = 0 ∨ (0 : Int32) = 1 then some (0, S1) else none
  else
    zb_bind (fX1_entryOf N b0 S1 a1) (fun r4 S3 =>
    zb_bind (fX1_hasCarton N b0 S3 r4) (fun r6 S5 =>
    if r6 = 0 then
      if zb_in 54 (zb_sz (b0 + 1)) then
      if 99 ≤ (zb_a S5 (b0 + 1) (Int32.toNatClampNeg 54)) then
        if (0 : Int32) = 0 ∨ (0 : Int32) = 1 then some (0, S5) else none
      else
        if (1 : Int32) = 0 ∨ (1 : Int32) = 1 then some (1, S5) else none else none
    else
      if (0 : Int32) = 0 ∨ (0 : Int32) = 1 then some (0, S5) else none)))
set_option maxHeartbeats 4000000 in
set_option maxRecDepth 100000 in
theorem gX1_canFeed_0 {l : Launch} {G : zb_G} (N : Nat) (b0 : Nat) (h0 : zb_kd b0 = 1) (S : zb_S) (a1 : Int32) : zb_Go zb_eI l G 1 RX1 cX1_canFeed 2 (some .boolean) 0 [(0, .ref (zb_ad G b0)), (1, .int a1)] [] S (fX1_canFeed_0 N b0 S a1) := by
  unfold fX1_canFeed_0
  refine zg_aload_n 0 dX1_canFeed_0 rfl rfl ?_
  refine zg_iload_n 1 dX1_canFeed_1 rfl rfl ?_
  refine zg_callVI (As := [.int a1]) (rest := []) 1 (zcX1_hasLine N b0 h0 S a1) (by decide) (by decide) h0 (by decide) rfl zw_280 zw_269 zw_270 zw_19 zw_271 (by decide +kernel) rfl rfl (Nat.le_of_ble_eq_true rfl) dX1_canFeed_2 (fun r2 S1 => ?_)
  refine zg_if_eq 36 dX1_canFeed_5 (by decide) ?_ ?_
  · refine zg_iconst (v := 0) dX1_canFeed_36 (by decide) ?_
    exact zg_zret rfl dX1_canFeed_37
  · refine zg_aload_n 0 dX1_canFeed_8 rfl rfl ?_
    refine zg_aload_n 0 dX1_canFeed_9 rfl rfl ?_
    refine zg_iload_n 1 dX1_canFeed_10 rfl rfl ?_
    refine zg_callVI (As := [.int a1]) (rest := [.ref (zb_ad G b0)]) 1 (zcX1_entryOf N b0 h0 S1 a1) (by decide) (by decide) h0 (by decide) rfl zw_281 zw_273 zw_274 zw_19 zw_275 (by decide +kernel) rfl rfl (Nat.le_of_ble_eq_true rfl) dX1_canFeed_11 (fun r4 S3 => ?_)
    refine zg_callVI (As := [.int r4]) (rest := []) 1 (zcX1_hasCarton N b0 h0 S3 r4) (by decide) (by decide) h0 (by decide) rfl zw_241 zw_234 zw_235 zw_19 zw_236 (by decide +kernel) rfl rfl (Nat.le_of_ble_eq_true rfl) dX1_canFeed_14 (fun r6 S5 => ?_)
    refine zg_if_ne 36 dX1_canFeed_17 (by decide) ?_ ?_
    · refine zg_iconst (v := 0) dX1_canFeed_36 (by decide) ?_
      exact zg_zret rfl dX1_canFeed_37
    · refine zg_aload_n 0 dX1_canFeed_20 rfl rfl ?_
      refine zq_X1_4 h0 (zk_X1_4 h0).1 zw_55 dX1_canFeed_21 ?_
      refine zg_bipush (v := 54) dX1_canFeed_24 (by decide) ?_
      refine zg_iald (zk_X1_4 h0).2.1 dX1_canFeed_26 ?_
      refine zg_bipush (v := 99) dX1_canFeed_27 (by decide) ?_
      refine zg_icmp_ge 36 dX1_canFeed_29 (by decide) ?_ ?_
      · refine zg_iconst (v := 0) dX1_canFeed_36 (by decide) ?_
        exact zg_zret rfl dX1_canFeed_37
      · refine zg_iconst (v := 1) dX1_canFeed_32 (by decide) ?_
        refine zg_goto (tgt := 37) dX1_canFeed_33 (by decide) ?_
        exact zg_zret rfl dX1_canFeed_37
def fX1_canFeed (N : Nat) (b0 : Nat) (S : zb_S) (a1 : Int32) : Option (Int32 × zb_S) := fX1_canFeed_0 N b0 S a1
theorem zcX1_canFeed {l : Launch} {G : zb_G} (N : Nat) (b0 : Nat) (h0 : zb_kd b0 = 1) (S : zb_S) (a1 : Int32) : zb_C zb_eI l G 1 yX1_canFeed cX1_canFeed 2 (some .boolean) [.ref (zb_ad G b0), .int a1] S (fX1_canFeed N b0 S a1) :=
  zb_C.of (by decide +kernel) rfl (Nat.le_of_ble_eq_true rfl) rfl (gX1_canFeed_0 N b0 h0 S a1)
-- X1_change
def fX1_change_0 (N : Nat) (b0 : Nat) (S : zb_S) (a1 : Int32) (a2 : Int32) : Option (Int32 × zb_S) :=
  if zb_in a1 (zb_sz (b0 + 1)) then
  zb_let (zb_a S (b0 + 1) (Int32.toNatClampNeg a1)) (fun x1 : Int32 =>
  if zb_in a1 (zb_sz (b0 + 1)) then zb_let (zb_pa S (b0 + 1) (Int32.toNatClampNeg a1) a2) (fun S2 : zb_S =>
  some (x1, S2)) else none) else none
set_option maxHeartbeats 4000000 in
set_option maxRecDepth 100000 in
theorem gX1_change_0 {l : Launch} {G : zb_G} (N : Nat) (b0 : Nat) (h0 : zb_kd b0 = 1) (S : zb_S) (a1 : Int32) (a2 : Int32) : zb_Go zb_eI l G 0 RX1 cX1_change 4 (some .int) 0 [(0, .ref (zb_ad G b0)), (1, .int a1), (2, .int a2)] [] S (fX1_change_0 N b0 S a1 a2) := by
  unfold fX1_change_0
  refine zg_aload_n 0 dX1_change_0 rfl rfl ?_
  refine zq_X1_4 h0 (zk_X1_4 h0).1 zw_55 dX1_change_1 ?_
  refine zg_iload_n 1 dX1_change_4 rfl rfl ?_
  refine zg_iald (zk_X1_4 h0).2.1 dX1_change_5 ?_
  refine zg_istore_nL (fun x1 => [(3, .int x1), (0, .ref (zb_ad G b0)), (1, .int a1), (2, .int a2)]) dX1_change_6 rfl (by decide) (fun _ => rfl) (fun x1 => ?_)
  refine zg_aload_n 1 dX1_change_7 rfl rfl ?_
  refine zq_X1_4 h0 (zk_X1_4 h0).1 zw_55 dX1_change_8 ?_
  refine zg_iload_n 2 dX1_change_11 rfl rfl ?_
  refine zg_iload_n 3 dX1_change_12 rfl rfl ?_
  refine zg_iast (zk_X1_4 h0).2.1 dX1_change_13 (fun S2 => ?_)
  refine zg_iload_n 0 dX1_change_14 rfl rfl ?_
  exact zg_iret rfl dX1_change_15
def fX1_change (N : Nat) (b0 : Nat) (S : zb_S) (a1 : Int32) (a2 : Int32) : Option (Int32 × zb_S) := fX1_change_0 N b0 S a1 a2
theorem zcX1_change {l : Launch} {G : zb_G} (N : Nat) (b0 : Nat) (h0 : zb_kd b0 = 1) (S : zb_S) (a1 : Int32) (a2 : Int32) : zb_C zb_eI l G 0 yX1_change cX1_change 4 (some .int) [.ref (zb_ad G b0), .int a1, .int a2] S (fX1_change N b0 S a1 a2) :=
  zb_C.of (by decide +kernel) rfl (Nat.le_of_ble_eq_true rfl) rfl (gX1_change_0 N b0 h0 S a1 a2)
-- X1_putNext
def fX1_putNext_0 (N : Nat) (b0 : Nat) (S : zb_S) (a1 : Int32) : Option (Int32 × zb_S) :=
  if zb_in 54 (zb_sz (b0 + 1)) then
  if zb_in 54 (zb_sz (b0 + 1)) then zb_let (zb_pa S (b0 + 1) (Int32.toNatClampNeg 54) ((zb_a S (b0 + 1) (Int32.toNatClampNeg 54)) + 1)) (fun S1 : zb_S =>
  if zb_in 54 (zb_sz (b0 + 1)) then
  if zb_in (0 + a1) (zb_sz (b0 + 1)) then zb_let (zb_pa S1 (b0 + 1) (Int32.toNatClampNeg (0 + a1)) (zb_a S1 (b0 + 1) (Int32.toNatClampNeg 54))) (fun S2 : zb_S =>
  if zb_in 54 (zb_sz (b0 + 1)) then
  some (zb_a S2 (b0 + 1) (Int32.toNatClampNeg 54), S2) else none) else none else none) else none else none
set_option maxHeartbeats 4000000 in
set_option maxRecDepth 100000 in
theorem gX1_putNext_0 {l : Launch} {G : zb_G} (N : Nat) (b0 : Nat) (h0 : zb_kd b0 = 1) (S : zb_S) (a1 : Int32) : zb_Go zb_eI l G 0 RX1 cX1_putNext 2 (some .int) 0 [(0, .ref (zb_ad G b0)), (1, .int a1)] [] S (fX1_putNext_0 N b0 S a1) := by
  unfold fX1_putNext_0
  refine zg_aload_n 0 dX1_putNext_0 rfl rfl ?_
  refine zq_X1_4 h0 (zk_X1_4 h0).1 zw_55 dX1_putNext_1 ?_
  refine zg_bipush (v := 54) dX1_putNext_4 (by decide) ?_
  refine zg_dup2 dX1_putNext_6 rfl rfl ?_
  refine zg_iald (zk_X1_4 h0).2.1 dX1_putNext_7 ?_
  refine zg_iconst (v := 1) dX1_putNext_8 (by decide) ?_
  refine zg_iadd dX1_putNext_9 ?_
  refine zg_iast (zk_X1_4 h0).2.1 dX1_putNext_10 (fun S1 => ?_)
  refine zg_aload_n 0 dX1_putNext_11 rfl rfl ?_
  refine zq_X1_4 h0 (zk_X1_4 h0).1 zw_55 dX1_putNext_12 ?_
  refine zg_iconst (v := 0) dX1_putNext_15 (by decide) ?_
  refine zg_iload_n 1 dX1_putNext_16 rfl rfl ?_
  refine zg_iadd dX1_putNext_17 ?_
  refine zg_aload_n 0 dX1_putNext_18 rfl rfl ?_
  refine zq_X1_4 h0 (zk_X1_4 h0).1 zw_55 dX1_putNext_19 ?_
  refine zg_bipush (v := 54) dX1_putNext_22 (by decide) ?_
  refine zg_iald (zk_X1_4 h0).2.1 dX1_putNext_24 ?_
  refine zg_iast (zk_X1_4 h0).2.1 dX1_putNext_25 (fun S2 => ?_)
  refine zg_aload_n 0 dX1_putNext_26 rfl rfl ?_
  refine zq_X1_4 h0 (zk_X1_4 h0).1 zw_55 dX1_putNext_27 ?_
  refine zg_bipush (v := 54) dX1_putNext_30 (by decide) ?_
  refine zg_iald (zk_X1_4 h0).2.1 dX1_putNext_32 ?_
  exact zg_iret rfl dX1_putNext_33
def fX1_putNext (N : Nat) (b0 : Nat) (S : zb_S) (a1 : Int32) : Option (Int32 × zb_S) := fX1_putNext_0 N b0 S a1
theorem zcX1_putNext {l : Launch} {G : zb_G} (N : Nat) (b0 : Nat) (h0 : zb_kd b0 = 1) (S : zb_S) (a1 : Int32) : zb_C zb_eI l G 0 yX1_putNext cX1_putNext 2 (some .int) [.ref (zb_ad G b0), .int a1] S (fX1_putNext N b0 S a1) :=
  zb_C.of (by decide +kernel) rfl (Nat.le_of_ble_eq_true rfl) rfl (gX1_putNext_0 N b0 h0 S a1)
-- X1_freeJam
def fX1_freeJam_0 (N : Nat) (b0 : Nat) (S : zb_S) (a1 : Int32) : Option (Unit × zb_S) :=
  if zb_in 48 (zb_sz (b0 + 1)) then
  if zb_in 48 (zb_sz (b0 + 1)) then zb_let (zb_pa S (b0 + 1) (Int32.toNatClampNeg 48) ((zb_a S (b0 + 1) (Int32.toNatClampNeg 48)) &&& ((1 <<< (a1 &&& 31)) ^^^ (-1)))) (fun S1 : zb_S =>
  some ((), S1)) else none else none
set_option maxHeartbeats 4000000 in
set_option maxRecDepth 100000 in
theorem gX1_freeJam_0 {l : Launch} {G : zb_G} (N : Nat) (b0 : Nat) (h0 : zb_kd b0 = 1) (S : zb_S) (a1 : Int32) : zb_Go zb_eV l G 0 RX1 cX1_freeJam 2 none 0 [(0, .ref (zb_ad G b0)), (1, .int a1)] [] S (fX1_freeJam_0 N b0 S a1) := by
  unfold fX1_freeJam_0
  refine zg_aload_n 0 dX1_freeJam_0 rfl rfl ?_
  refine zq_X1_4 h0 (zk_X1_4 h0).1 zw_55 dX1_freeJam_1 ?_
  refine zg_bipush (v := 48) dX1_freeJam_4 (by decide) ?_
  refine zg_dup2 dX1_freeJam_6 rfl rfl ?_
  refine zg_iald (zk_X1_4 h0).2.1 dX1_freeJam_7 ?_
  refine zg_iconst (v := 1) dX1_freeJam_8 (by decide) ?_
  refine zg_iload_n 1 dX1_freeJam_9 rfl rfl ?_
  refine zg_ishl dX1_freeJam_10 ?_
  refine zg_iconst (v := (-1)) dX1_freeJam_11 (by decide) ?_
  refine zg_ixor dX1_freeJam_12 ?_
  refine zg_iand dX1_freeJam_13 ?_
  refine zg_iast (zk_X1_4 h0).2.1 dX1_freeJam_14 (fun S1 => ?_)
  exact zg_vret rfl dX1_freeJam_15
def fX1_freeJam (N : Nat) (b0 : Nat) (S : zb_S) (a1 : Int32) : Option (Unit × zb_S) := fX1_freeJam_0 N b0 S a1
theorem zcX1_freeJam {l : Launch} {G : zb_G} (N : Nat) (b0 : Nat) (h0 : zb_kd b0 = 1) (S : zb_S) (a1 : Int32) : zb_C zb_eV l G 0 yX1_freeJam cX1_freeJam 2 none [.ref (zb_ad G b0), .int a1] S (fX1_freeJam N b0 S a1) :=
  zb_C.of (by decide +kernel) rfl (Nat.le_of_ble_eq_true rfl) rfl (gX1_freeJam_0 N b0 h0 S a1)
-- X1_takeAway
def fX1_takeAway_0 (N : Nat) (b0 : Nat) (S : zb_S) (a1 : Int32) : Option (Int32 × zb_S) :=
  zb_bind (fX1_freeJam N b0 S a1) (fun _ S1 =>
  zb_bind (fX1_change N b0 S1 (0 + a1) 0) (fun r4 S3 =>
  some (r4, S3)))
set_option maxHeartbeats 4000000 in
set_option maxRecDepth 100000 in
theorem gX1_takeAway_0 {l : Launch} {G : zb_G} (N : Nat) (b0 : Nat) (h0 : zb_kd b0 = 1) (S : zb_S) (a1 : Int32) : zb_Go zb_eI l G 1 RX1 cX1_takeAway 2 (some .int) 0 [(0, .ref (zb_ad G b0)), (1, .int a1)] [] S (fX1_takeAway_0 N b0 S a1) := by
  unfold fX1_takeAway_0
  refine zg_aload_n 0 dX1_takeAway_0 rfl rfl ?_
  refine zg_iload_n 1 dX1_takeAway_1 rfl rfl ?_
  refine zg_callVV (As := [.int a1]) (rest := []) 1 (zcX1_freeJam N b0 h0 S a1) (by decide) (by decide) h0 (by decide) rfl zw_327 zw_328 zw_329 zw_19 zw_330 (by decide +kernel) rfl rfl (Nat.le_of_ble_eq_true rfl) dX1_takeAway_2 (fun S1 => ?_)
  refine zg_aload_n 0 dX1_takeAway_5 rfl rfl ?_
  refine zg_iconst (v := 0) dX1_takeAway_6 (by decide) ?_
  refine zg_iload_n 1 dX1_takeAway_7 rfl rfl ?_
  refine zg_iadd dX1_takeAway_8 ?_
  refine zg_iconst (v := 0) dX1_takeAway_9 (by decide) ?_
  refine zg_callVI (As := [.int (0 + a1), .int 0]) (rest := []) 2 (zcX1_change N b0 h0 S1 (0 + a1) 0) (by decide) (by decide) h0 (by decide) rfl zw_331 zw_332 zw_333 zw_19 zw_334 (by decide +kernel) rfl rfl (Nat.le_of_ble_eq_true rfl) dX1_takeAway_10 (fun r4 S3 => ?_)
  exact zg_iret rfl dX1_takeAway_13
def fX1_takeAway (N : Nat) (b0 : Nat) (S : zb_S) (a1 : Int32) : Option (Int32 × zb_S) := fX1_takeAway_0 N b0 S a1
theorem zcX1_takeAway {l : Launch} {G : zb_G} (N : Nat) (b0 : Nat) (h0 : zb_kd b0 = 1) (S : zb_S) (a1 : Int32) : zb_C zb_eI l G 1 yX1_takeAway cX1_takeAway 2 (some .int) [.ref (zb_ad G b0), .int a1] S (fX1_takeAway N b0 S a1) :=
  zb_C.of (by decide +kernel) rfl (Nat.le_of_ble_eq_true rfl) rfl (gX1_takeAway_0 N b0 h0 S a1)
-- X1_turnExit
def fX1_turnExit_0 (N : Nat) (b0 : Nat) (S : zb_S) : Option (Int32 × zb_S) :=
  if zb_in 50 (zb_sz (b0 + 1)) then
  if zb_in 50 (zb_sz (b0 + 1)) then zb_let (zb_pa S (b0 + 1) (Int32.toNatClampNeg 50) (1 - (zb_a S (b0 + 1) (Int32.toNatClampNeg 50)))) (fun S1 : zb_S =>
  if zb_in 50 (zb_sz (b0 + 1)) then
  some (zb_a S1 (b0 + 1) (Int32.toNatClampNeg 50), S1) else none) else none else none
set_option maxHeartbeats 4000000 in
set_option maxRecDepth 100000 in
theorem gX1_turnExit_0 {l : Launch} {G : zb_G} (N : Nat) (b0 : Nat) (h0 : zb_kd b0 = 1) (S : zb_S) : zb_Go zb_eI l G 0 RX1 cX1_turnExit 1 (some .int) 0 [(0, .ref (zb_ad G b0))] [] S (fX1_turnExit_0 N b0 S) := by
  unfold fX1_turnExit_0
  refine zg_aload_n 0 dX1_turnExit_0 rfl rfl ?_
  refine zq_X1_4 h0 (zk_X1_4 h0).1 zw_55 dX1_turnExit_1 ?_
  refine zg_bipush (v := 50) dX1_turnExit_4 (by decide) ?_
  refine zg_iconst (v := 1) dX1_turnExit_6 (by decide) ?_
  refine zg_aload_n 0 dX1_turnExit_7 rfl rfl ?_
  refine zq_X1_4 h0 (zk_X1_4 h0).1 zw_55 dX1_turnExit_8 ?_
  refine zg_bipush (v := 50) dX1_turnExit_11 (by decide) ?_
  refine zg_iald (zk_X1_4 h0).2.1 dX1_turnExit_13 ?_
  refine zg_isub dX1_turnExit_14 ?_
  refine zg_iast (zk_X1_4 h0).2.1 dX1_turnExit_15 (fun S1 => ?_)
  refine zg_aload_n 0 dX1_turnExit_16 rfl rfl ?_
  refine zq_X1_4 h0 (zk_X1_4 h0).1 zw_55 dX1_turnExit_17 ?_
  refine zg_bipush (v := 50) dX1_turnExit_20 (by decide) ?_
  refine zg_iald (zk_X1_4 h0).2.1 dX1_turnExit_22 ?_
  exact zg_iret rfl dX1_turnExit_23
def fX1_turnExit (N : Nat) (b0 : Nat) (S : zb_S) : Option (Int32 × zb_S) := fX1_turnExit_0 N b0 S
theorem zcX1_turnExit {l : Launch} {G : zb_G} (N : Nat) (b0 : Nat) (h0 : zb_kd b0 = 1) (S : zb_S) : zb_C zb_eI l G 0 yX1_turnExit cX1_turnExit 1 (some .int) [.ref (zb_ad G b0)] S (fX1_turnExit N b0 S) :=
  zb_C.of (by decide +kernel) rfl (Nat.le_of_ble_eq_true rfl) rfl (gX1_turnExit_0 N b0 h0 S)
-- X1_loaded
def fX1_loaded_26 (N : Nat) (b0 : Nat) (k4 : zb_S → Int32 → Int32 → Option (Int32 × zb_S)) (S : zb_S) (l1 : Int32) (l2 : Int32) : Option (Int32 × zb_S) :=
  zb_let (l2 + 1) (fun x1 : Int32 =>
  k4 S l1 x1)
set_option maxHeartbeats 4000000 in
set_option maxRecDepth 100000 in
theorem gX1_loaded_26 {l : Launch} {G : zb_G} (N : Nat) (b0 : Nat) (h0 : zb_kd b0 = 1) (k4 : zb_S → Int32 → Int32 → Option (Int32 × zb_S)) (hk4 : ∀ (S : zb_S) (l1 : Int32) (l2 : Int32), zb_Go zb_eI l G 1 RX1 cX1_loaded 3 (some .int) 4 [(0, .ref (zb_ad G b0)), (1, .int l1), (2, .int l2)] [] S (k4 S l1 l2)) (S : zb_S) (l1 : Int32) (l2 : Int32) : zb_Go zb_eI l G 1 RX1 cX1_loaded 3 (some .int) 26 [(0, .ref (zb_ad G b0)), (1, .int l1), (2, .int l2)] [] S (fX1_loaded_26 N b0 k4 S l1 l2) := by
  unfold fX1_loaded_26
  refine zg_iincL (fun x1 => [(2, .int x1), (0, .ref (zb_ad G b0)), (1, .int l1)]) 2 dX1_loaded_26 rfl rfl (by decide) (fun _ => rfl) (fun x1 => ?_)
  refine zg_goto (tgt := 4) dX1_loaded_29 (by decide) ?_
  refine zg_sub [1, 2, 0] rfl ?_
  exact hk4 S l1 x1
def fX1_loaded_4b (N : Nat) (b0 : Nat) (k4 : zb_S → Int32 → Int32 → Option (Int32 × zb_S)) (S : zb_S) (l1 : Int32) (l2 : Int32) : Option (Int32 × zb_S) :=
  if (zb_i S b0 2) ≤ l2 then
    some (l1, S)
  else
    zb_bind (fX1_hasCarton N b0 S l2) (fun r2 S1 =>
    if r2 = 0 then
      fX1_loaded_26 N b0 k4 S1 l1 l2
    else
      zb_let (l1 ||| (1 <<< (l2 &&& 31))) (fun x3 : Int32 =>
      fX1_loaded_26 N b0 k4 S1 x3 l2))
set_option maxHeartbeats 4000000 in
set_option maxRecDepth 100000 in
theorem gX1_loaded_4b {l : Launch} {G : zb_G} (N : Nat) (b0 : Nat) (h0 : zb_kd b0 = 1) (k4 : zb_S → Int32 → Int32 → Option (Int32 × zb_S)) (hk4 : ∀ (S : zb_S) (l1 : Int32) (l2 : Int32), zb_Go zb_eI l G 1 RX1 cX1_loaded 3 (some .int) 4 [(0, .ref (zb_ad G b0)), (1, .int l1), (2, .int l2)] [] S (k4 S l1 l2)) (S : zb_S) (l1 : Int32) (l2 : Int32) : zb_Go zb_eI l G 1 RX1 cX1_loaded 3 (some .int) 4 [(0, .ref (zb_ad G b0)), (1, .int l1), (2, .int l2)] [] S (fX1_loaded_4b N b0 k4 S l1 l2) := by
  unfold fX1_loaded_4b
  refine zg_iload_n 2 dX1_loaded_4 rfl rfl ?_
  refine zg_aload_n 0 dX1_loaded_5 rfl rfl ?_
  refine zq_X1_2 h0 zw_53 dX1_loaded_6 ?_
  refine zg_icmp_ge 32 dX1_loaded_9 (by decide) ?_ ?_
  · refine zg_iload_n 1 dX1_loaded_32 rfl rfl ?_
    exact zg_iret rfl dX1_loaded_33
  · refine zg_aload_n 0 dX1_loaded_12 rfl rfl ?_
    refine zg_iload_n 2 dX1_loaded_13 rfl rfl ?_
    refine zg_callVI (As := [.int l2]) (rest := []) 1 (zcX1_hasCarton N b0 h0 S l2) (by decide) (by decide) h0 (by decide) rfl zw_241 zw_234 zw_235 zw_19 zw_236 (by decide +kernel) rfl rfl (Nat.le_of_ble_eq_true rfl) dX1_loaded_14 (fun r2 S1 => ?_)
    refine zg_if_eq 26 dX1_loaded_17 (by decide) ?_ ?_
    · exact gX1_loaded_26 N b0 h0 k4 hk4 S1 l1 l2
    · refine zg_iload_n 1 dX1_loaded_20 rfl rfl ?_
      refine zg_iconst (v := 1) dX1_loaded_21 (by decide) ?_
      refine zg_iload_n 2 dX1_loaded_22 rfl rfl ?_
      refine zg_ishl dX1_loaded_23 ?_
      refine zg_ior dX1_loaded_24 ?_
      refine zg_istore_nL (fun x3 => [(1, .int x3), (0, .ref (zb_ad G b0)), (2, .int l2)]) dX1_loaded_25 rfl (by decide) (fun _ => rfl) (fun x3 => ?_)
      refine zg_sub [1, 0, 2] rfl ?_
      exact gX1_loaded_26 N b0 h0 k4 hk4 S1 x3 l2
def fX1_loaded_4 (N : Nat) (b0 : Nat) : Nat → zb_S → Int32 → Int32 → Option (Int32 × zb_S)
  | 0, _, _, _ => none
  | n + 1, S, l1, l2 => fX1_loaded_4b N b0 (fX1_loaded_4 N b0 n) S l1 l2
set_option maxHeartbeats 4000000 in
set_option maxRecDepth 100000 in
theorem gX1_loaded_4 {l : Launch} {G : zb_G} (N : Nat) (b0 : Nat) (h0 : zb_kd b0 = 1) : ∀ (n : Nat) (S : zb_S) (l1 : Int32) (l2 : Int32), zb_Go zb_eI l G 1 RX1 cX1_loaded 3 (some .int) 4 [(0, .ref (zb_ad G b0)), (1, .int l1), (2, .int l2)] [] S (fX1_loaded_4 N b0 n S l1 l2) := by
  intro n
  induction n with
  | zero => intros; exact zg_none
  | succ n ih =>
    intro S l1 l2
    exact gX1_loaded_4b N b0 h0 (fX1_loaded_4 N b0 n) ih S l1 l2
def fX1_loaded_0 (N : Nat) (b0 : Nat) (S : zb_S) : Option (Int32 × zb_S) :=
  fX1_loaded_4 N b0 N S 0 0
set_option maxHeartbeats 4000000 in
set_option maxRecDepth 100000 in
theorem gX1_loaded_0 {l : Launch} {G : zb_G} (N : Nat) (b0 : Nat) (h0 : zb_kd b0 = 1) (S : zb_S) : zb_Go zb_eI l G 1 RX1 cX1_loaded 3 (some .int) 0 [(0, .ref (zb_ad G b0))] [] S (fX1_loaded_0 N b0 S) := by
  unfold fX1_loaded_0
  refine zg_iconst (v := 0) dX1_loaded_0 (by decide) ?_
  refine zg_istore_n (lv' := [(1, .int 0), (0, .ref (zb_ad G b0))]) dX1_loaded_1 rfl (by decide) rfl ?_
  refine zg_iconst (v := 0) dX1_loaded_2 (by decide) ?_
  refine zg_istore_n (lv' := [(2, .int 0), (1, .int 0), (0, .ref (zb_ad G b0))]) dX1_loaded_3 rfl (by decide) rfl ?_
  refine zg_sub [2, 1, 0] rfl ?_
  exact gX1_loaded_4 N b0 h0 N S 0 0
def fX1_loaded (N : Nat) (b0 : Nat) (S : zb_S) : Option (Int32 × zb_S) := fX1_loaded_0 N b0 S
theorem zcX1_loaded {l : Launch} {G : zb_G} (N : Nat) (b0 : Nat) (h0 : zb_kd b0 = 1) (S : zb_S) : zb_C zb_eI l G 1 yX1_loaded cX1_loaded 3 (some .int) [.ref (zb_ad G b0)] S (fX1_loaded N b0 S) :=
  zb_C.of (by decide +kernel) rfl (Nat.le_of_ble_eq_true rfl) rfl (gX1_loaded_0 N b0 h0 S)
-- X1_seeing
def fX1_seeing_45 (N : Nat) (b0 : Nat) (k4 : zb_S → Int32 → Int32 → Option (Int32 × zb_S)) (S : zb_S) (l1 : Int32) (l2 : Int32) : Option (Int32 × zb_S) :=
  zb_let (l2 + 1) (fun x1 : Int32 =>
  k4 S l1 x1)
set_option maxHeartbeats 4000000 in
set_option maxRecDepth 100000 in
theorem gX1_seeing_45 {l : Launch} {G : zb_G} (N : Nat) (b0 : Nat) (h0 : zb_kd b0 = 1) (k4 : zb_S → Int32 → Int32 → Option (Int32 × zb_S)) (hk4 : ∀ (S : zb_S) (l1 : Int32) (l2 : Int32), zb_Go zb_eI l G 1 RX1 cX1_seeing 4 (some .int) 4 [(0, .ref (zb_ad G b0)), (1, .int l1), (2, .int l2)] [] S (k4 S l1 l2)) (S : zb_S) (l1 : Int32) (l2 : Int32) : zb_Go zb_eI l G 1 RX1 cX1_seeing 4 (some .int) 45 [(0, .ref (zb_ad G b0)), (1, .int l1), (2, .int l2)] [] S (fX1_seeing_45 N b0 k4 S l1 l2) := by
  unfold fX1_seeing_45
  refine zg_iincL (fun x1 => [(2, .int x1), (0, .ref (zb_ad G b0)), (1, .int l1)]) 2 dX1_seeing_45 rfl rfl (by decide) (fun _ => rfl) (fun x1 => ?_)
  refine zg_goto (tgt := 4) dX1_seeing_48 (by decide) ?_
  refine zg_sub [1, 2, 0] rfl ?_
  exact hk4 S l1 x1
def fX1_seeing_39 (N : Nat) (b0 : Nat) (k4 : zb_S → Int32 → Int32 → Option (Int32 × zb_S)) (S : zb_S) (l1 : Int32) (l2 : Int32) : Option (Int32 × zb_S) :=
  zb_let (l1 ||| (1 <<< (l2 &&& 31))) (fun x1 : Int32 =>
  fX1_seeing_45 N b0 k4 S x1 l2)
set_option maxHeartbeats 4000000 in
set_option maxRecDepth 100000 in
theorem gX1_seeing_39 {l : Launch} {G : zb_G} (N : Nat) (b0 : Nat) (h0 : zb_kd b0 = 1) (k4 : zb_S → Int32 → Int32 → Option (Int32 × zb_S)) (hk4 : ∀ (S : zb_S) (l1 : Int32) (l2 : Int32), zb_Go zb_eI l G 1 RX1 cX1_seeing 4 (some .int) 4 [(0, .ref (zb_ad G b0)), (1, .int l1), (2, .int l2)] [] S (k4 S l1 l2)) (S : zb_S) (l1 : Int32) (l2 : Int32) : zb_Go zb_eI l G 1 RX1 cX1_seeing 4 (some .int) 39 [(0, .ref (zb_ad G b0)), (1, .int l1), (2, .int l2)] [] S (fX1_seeing_39 N b0 k4 S l1 l2) := by
  unfold fX1_seeing_39
  refine zg_iload_n 1 dX1_seeing_39 rfl rfl ?_
  refine zg_iconst (v := 1) dX1_seeing_40 (by decide) ?_
  refine zg_iload_n 2 dX1_seeing_41 rfl rfl ?_
  refine zg_ishl dX1_seeing_42 ?_
  refine zg_ior dX1_seeing_43 ?_
  refine zg_istore_nL (fun x1 => [(1, .int x1), (0, .ref (zb_ad G b0)), (2, .int l2)]) dX1_seeing_44 rfl (by decide) (fun _ => rfl) (fun x1 => ?_)
  refine zg_sub [1, 0, 2] rfl ?_
  exact gX1_seeing_45 N b0 h0 k4 hk4 S x1 l2
def fX1_seeing_4b (N : Nat) (b0 : Nat) (k4 : zb_S → Int32 → Int32 → Option (Int32 × zb_S)) (S : zb_S) (l1 : Int32) (l2 : Int32) : Option (Int32 × zb_S) :=
  if (zb_i S b0 2) ≤ l2 then
    some (l1, S)
  else
    if zb_in (12 + l2) (zb_sz (b0 + 1)) then
    zb_let (zb_a S (b0 + 1) (Int32.toNatClampNeg (12 + l2))) (fun x1 : Int32 =>
    if x1 = 2 then
      fX1_seeing_39 N b0 k4 S l1 l2
    else
      if x1 = 0 then
        zb_bind (fX1_hasCarton N b0 S l2) (fun r3 S2 =>
        if r3 = 0 then
          fX1_seeing_45 N b0 k4 S2 l1 l2
        else
          fX1_seeing_39 N b0 k4 S2 l1 l2)
      else
        fX1_seeing_45 N b0 k4 S l1 l2) else none
set_option maxHeartbeats 4000000 in
set_option maxRecDepth 100000 in
theorem gX1_seeing_4b {l : Launch} {G : zb_G} (N : Nat) (b0 : Nat) (h0 : zb_kd b0 = 1) (k4 : zb_S → Int32 → Int32 → Option (Int32 × zb_S)) (hk4 : ∀ (S : zb_S) (l1 : Int32) (l2 : Int32), zb_Go zb_eI l G 1 RX1 cX1_seeing 4 (some .int) 4 [(0, .ref (zb_ad G b0)), (1, .int l1), (2, .int l2)] [] S (k4 S l1 l2)) (S : zb_S) (l1 : Int32) (l2 : Int32) : zb_Go zb_eI l G 1 RX1 cX1_seeing 4 (some .int) 4 [(0, .ref (zb_ad G b0)), (1, .int l1), (2, .int l2)] [] S (fX1_seeing_4b N b0 k4 S l1 l2) := by
  unfold fX1_seeing_4b
  refine zg_iload_n 2 dX1_seeing_4 rfl rfl ?_
  refine zg_aload_n 0 dX1_seeing_5 rfl rfl ?_
  refine zq_X1_2 h0 zw_53 dX1_seeing_6 ?_
  refine zg_icmp_ge 51 dX1_seeing_9 (by decide) ?_ ?_
  · refine zg_iload_n 1 dX1_seeing_51 rfl rfl ?_
    exact zg_iret rfl dX1_seeing_52
  · refine zg_aload_n 0 dX1_seeing_12 rfl rfl ?_
    refine zq_X1_4 h0 (zk_X1_4 h0).1 zw_55 dX1_seeing_13 ?_
    refine zg_bipush (v := 12) dX1_seeing_16 (by decide) ?_
    refine zg_iload_n 2 dX1_seeing_18 rfl rfl ?_
    refine zg_iadd dX1_seeing_19 ?_
    refine zg_iald (zk_X1_4 h0).2.1 dX1_seeing_20 ?_
    refine zg_istore_nL (fun x1 => [(3, .int x1), (0, .ref (zb_ad G b0)), (1, .int l1), (2, .int l2)]) dX1_seeing_21 rfl (by decide) (fun _ => rfl) (fun x1 => ?_)
    refine zg_iload_n 0 dX1_seeing_22 rfl rfl ?_
    refine zg_iconst (v := 2) dX1_seeing_23 (by decide) ?_
    refine zg_icmp_eq 39 dX1_seeing_24 (by decide) ?_ ?_
    · refine zg_sub [1, 2, 3] rfl ?_
      exact gX1_seeing_39 N b0 h0 k4 hk4 S l1 l2
    · refine zg_iload_n 0 dX1_seeing_27 rfl rfl ?_
      refine zg_if_ne 45 dX1_seeing_28 (by decide) ?_ ?_
      · refine zg_sub [1, 2, 3] rfl ?_
        exact gX1_seeing_45 N b0 h0 k4 hk4 S l1 l2
      · refine zg_aload_n 1 dX1_seeing_31 rfl rfl ?_
        refine zg_iload_n 3 dX1_seeing_32 rfl rfl ?_
        refine zg_callVI (As := [.int l2]) (rest := []) 1 (zcX1_hasCarton N b0 h0 S l2) (by decide) (by decide) h0 (by decide) rfl zw_241 zw_234 zw_235 zw_19 zw_236 (by decide +kernel) rfl rfl (Nat.le_of_ble_eq_true rfl) dX1_seeing_33 (fun r3 S2 => ?_)
        refine zg_if_eq 45 dX1_seeing_36 (by decide) ?_ ?_
        · refine zg_sub [1, 2, 3] rfl ?_
          exact gX1_seeing_45 N b0 h0 k4 hk4 S2 l1 l2
        · refine zg_sub [1, 2, 3] rfl ?_
          exact gX1_seeing_39 N b0 h0 k4 hk4 S2 l1 l2
def fX1_seeing_4 (N : Nat) (b0 : Nat) : Nat → zb_S → Int32 → Int32 → Option (Int32 × zb_S)
  | 0, _, _, _ => none
  | n + 1, S, l1, l2 => fX1_seeing_4b N b0 (fX1_seeing_4 N b0 n) S l1 l2
set_option maxHeartbeats 4000000 in
set_option maxRecDepth 100000 in
theorem gX1_seeing_4 {l : Launch} {G : zb_G} (N : Nat) (b0 : Nat) (h0 : zb_kd b0 = 1) : ∀ (n : Nat) (S : zb_S) (l1 : Int32) (l2 : Int32), zb_Go zb_eI l G 1 RX1 cX1_seeing 4 (some .int) 4 [(0, .ref (zb_ad G b0)), (1, .int l1), (2, .int l2)] [] S (fX1_seeing_4 N b0 n S l1 l2) := by
  intro n
  induction n with
  | zero => intros; exact zg_none
  | succ n ih =>
    intro S l1 l2
    exact gX1_seeing_4b N b0 h0 (fX1_seeing_4 N b0 n) ih S l1 l2
def fX1_seeing_0 (N : Nat) (b0 : Nat) (S : zb_S) : Option (Int32 × zb_S) :=
  fX1_seeing_4 N b0 N S 0 0
set_option maxHeartbeats 4000000 in
set_option maxRecDepth 100000 in
theorem gX1_seeing_0 {l : Launch} {G : zb_G} (N : Nat) (b0 : Nat) (h0 : zb_kd b0 = 1) (S : zb_S) : zb_Go zb_eI l G 1 RX1 cX1_seeing 4 (some .int) 0 [(0, .ref (zb_ad G b0))] [] S (fX1_seeing_0 N b0 S) := by
  unfold fX1_seeing_0
  refine zg_iconst (v := 0) dX1_seeing_0 (by decide) ?_
  refine zg_istore_n (lv' := [(1, .int 0), (0, .ref (zb_ad G b0))]) dX1_seeing_1 rfl (by decide) rfl ?_
  refine zg_iconst (v := 0) dX1_seeing_2 (by decide) ?_
  refine zg_istore_n (lv' := [(2, .int 0), (1, .int 0), (0, .ref (zb_ad G b0))]) dX1_seeing_3 rfl (by decide) rfl ?_
  refine zg_sub [2, 1, 0] rfl ?_
  exact gX1_seeing_4 N b0 h0 N S 0 0
def fX1_seeing (N : Nat) (b0 : Nat) (S : zb_S) : Option (Int32 × zb_S) := fX1_seeing_0 N b0 S
theorem zcX1_seeing {l : Launch} {G : zb_G} (N : Nat) (b0 : Nat) (h0 : zb_kd b0 = 1) (S : zb_S) : zb_C zb_eI l G 1 yX1_seeing cX1_seeing 4 (some .int) [.ref (zb_ad G b0)] S (fX1_seeing N b0 S) :=
  zb_C.of (by decide +kernel) rfl (Nat.le_of_ble_eq_true rfl) rfl (gX1_seeing_0 N b0 h0 S)
-- X1_countUnsound
def fX1_countUnsound_27 (N : Nat) (b0 : Nat) (k4 : zb_S → Int32 → Int32 → Option (Int32 × zb_S)) (S : zb_S) (l1 : Int32) (l2 : Int32) : Option (Int32 × zb_S) :=
  zb_let (l2 + 1) (fun x1 : Int32 =>
  k4 S l1 x1)
set_option maxHeartbeats 4000000 in
set_option maxRecDepth 100000 in
theorem gX1_countUnsound_27 {l : Launch} {G : zb_G} (N : Nat) (b0 : Nat) (h0 : zb_kd b0 = 1) (k4 : zb_S → Int32 → Int32 → Option (Int32 × zb_S)) (hk4 : ∀ (S : zb_S) (l1 : Int32) (l2 : Int32), zb_Go zb_eI l G 0 RX1 cX1_countUnsound 3 (some .int) 4 [(0, .ref (zb_ad G b0)), (1, .int l1), (2, .int l2)] [] S (k4 S l1 l2)) (S : zb_S) (l1 : Int32) (l2 : Int32) : zb_Go zb_eI l G 0 RX1 cX1_countUnsound 3 (some .int) 27 [(0, .ref (zb_ad G b0)), (1, .int l1), (2, .int l2)] [] S (fX1_countUnsound_27 N b0 k4 S l1 l2) := by
  unfold fX1_countUnsound_27
  refine zg_iincL (fun x1 => [(2, .int x1), (0, .ref (zb_ad G b0)), (1, .int l1)]) 2 dX1_countUnsound_27 rfl rfl (by decide) (fun _ => rfl) (fun x1 => ?_)
  refine zg_goto (tgt := 4) dX1_countUnsound_30 (by decide) ?_
  refine zg_sub [1, 2, 0] rfl ?_
  exact hk4 S l1 x1
def fX1_countUnsound_4b (N : Nat) (b0 : Nat) (k4 : zb_S → Int32 → Int32 → Option (Int32 × zb_S)) (S : zb_S) (l1 : Int32) (l2 : Int32) : Option (Int32 × zb_S) :=
  if (zb_i S b0 2) ≤ l2 then
    some (l1, S)
  else
    if zb_in (12 + l2) (zb_sz (b0 + 1)) then
    if (zb_a S (b0 + 1) (Int32.toNatClampNeg (12 + l2))) = 0 then
      fX1_countUnsound_27 N b0 k4 S l1 l2
    else
      zb_let (l1 + 1) (fun x1 : Int32 =>
      fX1_countUnsound_27 N b0 k4 S x1 l2) else none
set_option maxHeartbeats 4000000 in
set_option maxRecDepth 100000 in
theorem gX1_countUnsound_4b {l : Launch} {G : zb_G} (N : Nat) (b0 : Nat) (h0 : zb_kd b0 = 1) (k4 : zb_S → Int32 → Int32 → Option (Int32 × zb_S)) (hk4 : ∀ (S : zb_S) (l1 : Int32) (l2 : Int32), zb_Go zb_eI l G 0 RX1 cX1_countUnsound 3 (some .int) 4 [(0, .ref (zb_ad G b0)), (1, .int l1), (2, .int l2)] [] S (k4 S l1 l2)) (S : zb_S) (l1 : Int32) (l2 : Int32) : zb_Go zb_eI l G 0 RX1 cX1_countUnsound 3 (some .int) 4 [(0, .ref (zb_ad G b0)), (1, .int l1), (2, .int l2)] [] S (fX1_countUnsound_4b N b0 k4 S l1 l2) := by
  unfold fX1_countUnsound_4b
  refine zg_iload_n 2 dX1_countUnsound_4 rfl rfl ?_
  refine zg_aload_n 0 dX1_countUnsound_5 rfl rfl ?_
  refine zq_X1_2 h0 zw_53 dX1_countUnsound_6 ?_
  refine zg_icmp_ge 33 dX1_countUnsound_9 (by decide) ?_ ?_
  · refine zg_iload_n 1 dX1_countUnsound_33 rfl rfl ?_
    exact zg_iret rfl dX1_countUnsound_34
  · refine zg_aload_n 0 dX1_countUnsound_12 rfl rfl ?_
    refine zq_X1_4 h0 (zk_X1_4 h0).1 zw_55 dX1_countUnsound_13 ?_
    refine zg_bipush (v := 12) dX1_countUnsound_16 (by decide) ?_
    refine zg_iload_n 2 dX1_countUnsound_18 rfl rfl ?_
    refine zg_iadd dX1_countUnsound_19 ?_
    refine zg_iald (zk_X1_4 h0).2.1 dX1_countUnsound_20 ?_
    refine zg_if_eq 27 dX1_countUnsound_21 (by decide) ?_ ?_
    · exact gX1_countUnsound_27 N b0 h0 k4 hk4 S l1 l2
    · refine zg_iincL (fun x1 => [(1, .int x1), (0, .ref (zb_ad G b0)), (2, .int l2)]) 1 dX1_countUnsound_24 rfl rfl (by decide) (fun _ => rfl) (fun x1 => ?_)
      refine zg_sub [1, 0, 2] rfl ?_
      exact gX1_countUnsound_27 N b0 h0 k4 hk4 S x1 l2
def fX1_countUnsound_4 (N : Nat) (b0 : Nat) : Nat → zb_S → Int32 → Int32 → Option (Int32 × zb_S)
  | 0, _, _, _ => none
  | n + 1, S, l1, l2 => fX1_countUnsound_4b N b0 (fX1_countUnsound_4 N b0 n) S l1 l2
set_option maxHeartbeats 4000000 in
set_option maxRecDepth 100000 in
theorem gX1_countUnsound_4 {l : Launch} {G : zb_G} (N : Nat) (b0 : Nat) (h0 : zb_kd b0 = 1) : ∀ (n : Nat) (S : zb_S) (l1 : Int32) (l2 : Int32), zb_Go zb_eI l G 0 RX1 cX1_countUnsound 3 (some .int) 4 [(0, .ref (zb_ad G b0)), (1, .int l1), (2, .int l2)] [] S (fX1_countUnsound_4 N b0 n S l1 l2) := by
  intro n
  induction n with
  | zero => intros; exact zg_none
  | succ n ih =>
    intro S l1 l2
    exact gX1_countUnsound_4b N b0 h0 (fX1_countUnsound_4 N b0 n) ih S l1 l2
def fX1_countUnsound_0 (N : Nat) (b0 : Nat) (S : zb_S) : Option (Int32 × zb_S) :=
  fX1_countUnsound_4 N b0 N S 0 0
set_option maxHeartbeats 4000000 in
set_option maxRecDepth 100000 in
theorem gX1_countUnsound_0 {l : Launch} {G : zb_G} (N : Nat) (b0 : Nat) (h0 : zb_kd b0 = 1) (S : zb_S) : zb_Go zb_eI l G 0 RX1 cX1_countUnsound 3 (some .int) 0 [(0, .ref (zb_ad G b0))] [] S (fX1_countUnsound_0 N b0 S) := by
  unfold fX1_countUnsound_0
  refine zg_iconst (v := 0) dX1_countUnsound_0 (by decide) ?_
  refine zg_istore_n (lv' := [(1, .int 0), (0, .ref (zb_ad G b0))]) dX1_countUnsound_1 rfl (by decide) rfl ?_
  refine zg_iconst (v := 0) dX1_countUnsound_2 (by decide) ?_
  refine zg_istore_n (lv' := [(2, .int 0), (1, .int 0), (0, .ref (zb_ad G b0))]) dX1_countUnsound_3 rfl (by decide) rfl ?_
  refine zg_sub [2, 1, 0] rfl ?_
  exact gX1_countUnsound_4 N b0 h0 N S 0 0
def fX1_countUnsound (N : Nat) (b0 : Nat) (S : zb_S) : Option (Int32 × zb_S) := fX1_countUnsound_0 N b0 S
theorem zcX1_countUnsound {l : Launch} {G : zb_G} (N : Nat) (b0 : Nat) (h0 : zb_kd b0 = 1) (S : zb_S) : zb_C zb_eI l G 0 yX1_countUnsound cX1_countUnsound 3 (some .int) [.ref (zb_ad G b0)] S (fX1_countUnsound N b0 S) :=
  zb_C.of (by decide +kernel) rfl (Nat.le_of_ble_eq_true rfl) rfl (gX1_countUnsound_0 N b0 h0 S)
-- X1_behind
def fX1_behind_0 (N : Nat) (b0 : Nat) (S : zb_S) (a1 : Int32) : Option (Int32 × zb_S) :=
  if a1 = ((zb_i S b0 2) - 1) then
    some (zb_i S b0 3, S)
  else
    some (a1 + 1, S)
set_option maxHeartbeats 4000000 in
set_option maxRecDepth 100000 in
theorem gX1_behind_0 {l : Launch} {G : zb_G} (N : Nat) (b0 : Nat) (h0 : zb_kd b0 = 1) (S : zb_S) (a1 : Int32) : zb_Go zb_eI l G 0 RX1 cX1_behind 2 (some .int) 0 [(0, .ref (zb_ad G b0)), (1, .int a1)] [] S (fX1_behind_0 N b0 S a1) := by
  unfold fX1_behind_0
  refine zg_iload_n 1 dX1_behind_0 rfl rfl ?_
  refine zg_aload_n 0 dX1_behind_1 rfl rfl ?_
  refine zq_X1_2 h0 zw_53 dX1_behind_2 ?_
  refine zg_iconst (v := 1) dX1_behind_5 (by decide) ?_
  refine zg_isub dX1_behind_6 ?_
  refine zg_icmp_ne 17 dX1_behind_7 (by decide) ?_ ?_
  · refine zg_iload_n 1 dX1_behind_17 rfl rfl ?_
    refine zg_iconst (v := 1) dX1_behind_18 (by decide) ?_
    refine zg_iadd dX1_behind_19 ?_
    exact zg_iret rfl dX1_behind_20
  · refine zg_aload_n 0 dX1_behind_10 rfl rfl ?_
    refine zq_X1_3 h0 zw_54 dX1_behind_11 ?_
    refine zg_goto (tgt := 20) dX1_behind_14 (by decide) ?_
    exact zg_iret rfl dX1_behind_20
def fX1_behind (N : Nat) (b0 : Nat) (S : zb_S) (a1 : Int32) : Option (Int32 × zb_S) := fX1_behind_0 N b0 S a1
theorem zcX1_behind {l : Launch} {G : zb_G} (N : Nat) (b0 : Nat) (h0 : zb_kd b0 = 1) (S : zb_S) (a1 : Int32) : zb_C zb_eI l G 0 yX1_behind cX1_behind 2 (some .int) [.ref (zb_ad G b0), .int a1] S (fX1_behind N b0 S a1) :=
  zb_C.of (by decide +kernel) rfl (Nat.le_of_ble_eq_true rfl) rfl (gX1_behind_0 N b0 h0 S a1)
-- X1_behindThose
def fX1_behindThose_40 (N : Nat) (b0 : Nat) (k4 : zb_S → Int32 → Int32 → Int32 → Option (Int32 × zb_S)) (S : zb_S) (l1 : Int32) (l2 : Int32) (l3 : Int32) : Option (Int32 × zb_S) :=
  zb_let (l3 + 1) (fun x1 : Int32 =>
  k4 S l1 l2 x1)
set_option maxHeartbeats 4000000 in
set_option maxRecDepth 100000 in
theorem gX1_behindThose_40 {l : Launch} {G : zb_G} (N : Nat) (b0 : Nat) (h0 : zb_kd b0 = 1) (k4 : zb_S → Int32 → Int32 → Int32 → Option (Int32 × zb_S)) (hk4 : ∀ (S : zb_S) (l1 : Int32) (l2 : Int32) (l3 : Int32), zb_Go zb_eI l G 1 RX1 cX1_behindThose 4 (some .int) 4 [(0, .ref (zb_ad G b0)), (1, .int l1), (2, .int l2), (3, .int l3)] [] S (k4 S l1 l2 l3)) (S : zb_S) (l1 : Int32) (l2 : Int32) (l3 : Int32) : zb_Go zb_eI l G 1 RX1 cX1_behindThose 4 (some .int) 40 [(0, .ref (zb_ad G b0)), (1, .int l1), (2, .int l2), (3, .int l3)] [] S (fX1_behindThose_40 N b0 k4 S l1 l2 l3) := by
  unfold fX1_behindThose_40
  refine zg_iincL (fun x1 => [(3, .int x1), (0, .ref (zb_ad G b0)), (1, .int l1), (2, .int l2)]) 3 dX1_behindThose_40 rfl rfl (by decide) (fun _ => rfl) (fun x1 => ?_)
  refine zg_goto (tgt := 4) dX1_behindThose_43 (by decide) ?_
  refine zg_sub [1, 2, 3, 0] rfl ?_
  exact hk4 S l1 l2 x1
def fX1_behindThose_4b (N : Nat) (b0 : Nat) (k4 : zb_S → Int32 → Int32 → Int32 → Option (Int32 × zb_S)) (S : zb_S) (l1 : Int32) (l2 : Int32) (l3 : Int32) : Option (Int32 × zb_S) :=
  if (zb_i S b0 2) ≤ l3 then
    some (l2, S)
  else
    zb_bind (fX1_in N S l1 l3) (fun r2 S1 =>
    if r2 = 0 then
      fX1_behindThose_40 N b0 k4 S1 l1 l2 l3
    else
      if l3 = ((zb_i S1 b0 0) - 1) then
        fX1_behindThose_40 N b0 k4 S1 l1 l2 l3
      else
        zb_bind (fX1_behind N b0 S1 l3) (fun r4 S3 =>
        zb_let (l2 ||| (1 <<< (r4 &&& 31))) (fun x5 : Int32 =>
        fX1_behindThose_40 N b0 k4 S3 l1 x5 l3)))
set_option maxHeartbeats 4000000 in
set_option maxRecDepth 100000 in
theorem gX1_behindThose_4b {l : Launch} {G : zb_G} (N : Nat) (b0 : Nat) (h0 : zb_kd b0 = 1) (k4 : zb_S → Int32 → Int32 → Int32 → Option (Int32 × zb_S)) (hk4 : ∀ (S : zb_S) (l1 : Int32) (l2 : Int32) (l3 : Int32), zb_Go zb_eI l G 1 RX1 cX1_behindThose 4 (some .int) 4 [(0, .ref (zb_ad G b0)), (1, .int l1), (2, .int l2), (3, .int l3)] [] S (k4 S l1 l2 l3)) (S : zb_S) (l1 : Int32) (l2 : Int32) (l3 : Int32) : zb_Go zb_eI l G 1 RX1 cX1_behindThose 4 (some .int) 4 [(0, .ref (zb_ad G b0)), (1, .int l1), (2, .int l2), (3, .int l3)] [] S (fX1_behindThose_4b N b0 k4 S l1 l2 l3) := by
  unfold fX1_behindThose_4b
  refine zg_iload_n 3 dX1_behindThose_4 rfl rfl ?_
  refine zg_aload_n 0 dX1_behindThose_5 rfl rfl ?_
  refine zq_X1_2 h0 zw_53 dX1_behindThose_6 ?_
  refine zg_icmp_ge 46 dX1_behindThose_9 (by decide) ?_ ?_
  · refine zg_iload_n 2 dX1_behindThose_46 rfl rfl ?_
    exact zg_iret rfl dX1_behindThose_47
  · refine zg_iload_n 1 dX1_behindThose_12 rfl rfl ?_
    refine zg_iload_n 3 dX1_behindThose_13 rfl rfl ?_
    refine zg_callSI (As := [.int l1, .int l3]) (rest := []) 2 (zcX1_in N S l1 l3) (by decide) (by decide) zw_247 zw_157 zw_19 zw_158 (by decide +kernel) rfl rfl (Nat.le_of_ble_eq_true rfl) dX1_behindThose_14 (fun r2 S1 => ?_)
    refine zg_if_eq 40 dX1_behindThose_17 (by decide) ?_ ?_
    · exact gX1_behindThose_40 N b0 h0 k4 hk4 S1 l1 l2 l3
    · refine zg_iload_n 3 dX1_behindThose_20 rfl rfl ?_
      refine zg_aload_n 0 dX1_behindThose_21 rfl rfl ?_
      refine zq_X1_0 h0 zw_51 dX1_behindThose_22 ?_
      refine zg_iconst (v := 1) dX1_behindThose_25 (by decide) ?_
      refine zg_isub dX1_behindThose_26 ?_
      refine zg_icmp_eq 40 dX1_behindThose_27 (by decide) ?_ ?_
      · exact gX1_behindThose_40 N b0 h0 k4 hk4 S1 l1 l2 l3
      · refine zg_iload_n 2 dX1_behindThose_30 rfl rfl ?_
        refine zg_iconst (v := 1) dX1_behindThose_31 (by decide) ?_
        refine zg_aload_n 0 dX1_behindThose_32 rfl rfl ?_
        refine zg_iload_n 3 dX1_behindThose_33 rfl rfl ?_
        refine zg_callVI (As := [.int l3]) (rest := [.int 1, .int l2]) 1 (zcX1_behind N b0 h0 S1 l3) (by decide) (by decide) h0 (by decide) rfl zw_415 zw_416 zw_417 zw_19 zw_418 (by decide +kernel) rfl rfl (Nat.le_of_ble_eq_true rfl) dX1_behindThose_34 (fun r4 S3 => ?_)
        refine zg_ishl dX1_behindThose_37 ?_
        refine zg_ior dX1_behindThose_38 ?_
        refine zg_istore_nL (fun x5 => [(2, .int x5), (0, .ref (zb_ad G b0)), (1, .int l1), (3, .int l3)]) dX1_behindThose_39 rfl (by decide) (fun _ => rfl) (fun x5 => ?_)
        refine zg_sub [1, 2, 0, 3] rfl ?_
        exact gX1_behindThose_40 N b0 h0 k4 hk4 S3 l1 x5 l3
def fX1_behindThose_4 (N : Nat) (b0 : Nat) : Nat → zb_S → Int32 → Int32 → Int32 → Option (Int32 × zb_S)
  | 0, _, _, _, _ => none
  | n + 1, S, l1, l2, l3 => fX1_behindThose_4b N b0 (fX1_behindThose_4 N b0 n) S l1 l2 l3
set_option maxHeartbeats 4000000 in
set_option maxRecDepth 100000 in
theorem gX1_behindThose_4 {l : Launch} {G : zb_G} (N : Nat) (b0 : Nat) (h0 : zb_kd b0 = 1) : ∀ (n : Nat) (S : zb_S) (l1 : Int32) (l2 : Int32) (l3 : Int32), zb_Go zb_eI l G 1 RX1 cX1_behindThose 4 (some .int) 4 [(0, .ref (zb_ad G b0)), (1, .int l1), (2, .int l2), (3, .int l3)] [] S (fX1_behindThose_4 N b0 n S l1 l2 l3) := by
  intro n
  induction n with
  | zero => intros; exact zg_none
  | succ n ih =>
    intro S l1 l2 l3
    exact gX1_behindThose_4b N b0 h0 (fX1_behindThose_4 N b0 n) ih S l1 l2 l3
def fX1_behindThose_0 (N : Nat) (b0 : Nat) (S : zb_S) (a1 : Int32) : Option (Int32 × zb_S) :=
  fX1_behindThose_4 N b0 N S a1 0 0
set_option maxHeartbeats 4000000 in
set_option maxRecDepth 100000 in
theorem gX1_behindThose_0 {l : Launch} {G : zb_G} (N : Nat) (b0 : Nat) (h0 : zb_kd b0 = 1) (S : zb_S) (a1 : Int32) : zb_Go zb_eI l G 1 RX1 cX1_behindThose 4 (some .int) 0 [(0, .ref (zb_ad G b0)), (1, .int a1)] [] S (fX1_behindThose_0 N b0 S a1) := by
  unfold fX1_behindThose_0
  refine zg_iconst (v := 0) dX1_behindThose_0 (by decide) ?_
  refine zg_istore_n (lv' := [(2, .int 0), (0, .ref (zb_ad G b0)), (1, .int a1)]) dX1_behindThose_1 rfl (by decide) rfl ?_
  refine zg_iconst (v := 0) dX1_behindThose_2 (by decide) ?_
  refine zg_istore_n (lv' := [(3, .int 0), (2, .int 0), (0, .ref (zb_ad G b0)), (1, .int a1)]) dX1_behindThose_3 rfl (by decide) rfl ?_
  refine zg_sub [2, 3, 1, 0] rfl ?_
  exact gX1_behindThose_4 N b0 h0 N S a1 0 0
def fX1_behindThose (N : Nat) (b0 : Nat) (S : zb_S) (a1 : Int32) : Option (Int32 × zb_S) := fX1_behindThose_0 N b0 S a1
theorem zcX1_behindThose {l : Launch} {G : zb_G} (N : Nat) (b0 : Nat) (h0 : zb_kd b0 = 1) (S : zb_S) (a1 : Int32) : zb_C zb_eI l G 1 yX1_behindThose cX1_behindThose 4 (some .int) [.ref (zb_ad G b0), .int a1] S (fX1_behindThose N b0 S a1) :=
  zb_C.of (by decide +kernel) rfl (Nat.le_of_ble_eq_true rfl) rfl (gX1_behindThose_0 N b0 h0 S a1)
-- X1_giveTicket
def fX1_giveTicket_0 (N : Nat) (b0 : Nat) (S : zb_S) (a1 : Int32) (a2 : Int32) : Option (Unit × zb_S) :=
  zb_bind (fX1_in N S a1 a2) (fun r2 S1 =>
  if r2 = 0 then
    some ((), S1)
  else
    if zb_in (36 + a2) (zb_sz (b0 + 1)) then
    if (zb_a S1 (b0 + 1) (Int32.toNatClampNeg (36 + a2))) = 0 then
      if zb_in 53 (zb_sz (b0 + 1)) then
      if zb_in 53 (zb_sz (b0 + 1)) then zb_let (zb_pa S1 (b0 + 1) (Int32.toNatClampNeg 53) ((zb_a S1 (b0 + 1) (Int32.toNatClampNeg 53)) + 1)) (fun S3 : zb_S =>
      if zb_in 53 (zb_sz (b0 + 1)) then
      if zb_in (36 + a2) (zb_sz (b0 + 1)) then zb_let (zb_pa S3 (b0 + 1) (Int32.toNatClampNeg (36 + a2)) (zb_a S3 (b0 + 1) (Int32.toNatClampNeg 53))) (fun S4 : zb_S =>
      some ((), S4)) else none else none) else none else none
    else
      some ((), S1) else none)
set_option maxHeartbeats 4000000 in
set_option maxRecDepth 100000 in
theorem gX1_giveTicket_0 {l : Launch} {G : zb_G} (N : Nat) (b0 : Nat) (h0 : zb_kd b0 = 1) (S : zb_S) (a1 : Int32) (a2 : Int32) : zb_Go zb_eV l G 1 RX1 cX1_giveTicket 3 none 0 [(0, .ref (zb_ad G b0)), (1, .int a1), (2, .int a2)] [] S (fX1_giveTicket_0 N b0 S a1 a2) := by
  unfold fX1_giveTicket_0
  refine zg_iload_n 1 dX1_giveTicket_0 rfl rfl ?_
  refine zg_iload_n 2 dX1_giveTicket_1 rfl rfl ?_
  refine zg_callSI (As := [.int a1, .int a2]) (rest := []) 2 (zcX1_in N S a1 a2) (by decide) (by decide) zw_247 zw_157 zw_19 zw_158 (by decide +kernel) rfl rfl (Nat.le_of_ble_eq_true rfl) dX1_giveTicket_2 (fun r2 S1 => ?_)
  refine zg_if_eq 47 dX1_giveTicket_5 (by decide) ?_ ?_
  · exact zg_vret rfl dX1_giveTicket_47
  · refine zg_aload_n 0 dX1_giveTicket_8 rfl rfl ?_
    refine zq_X1_4 h0 (zk_X1_4 h0).1 zw_55 dX1_giveTicket_9 ?_
    refine zg_bipush (v := 36) dX1_giveTicket_12 (by decide) ?_
    refine zg_iload_n 2 dX1_giveTicket_14 rfl rfl ?_
    refine zg_iadd dX1_giveTicket_15 ?_
    refine zg_iald (zk_X1_4 h0).2.1 dX1_giveTicket_16 ?_
    refine zg_if_ne 47 dX1_giveTicket_17 (by decide) ?_ ?_
    · exact zg_vret rfl dX1_giveTicket_47
    · refine zg_aload_n 0 dX1_giveTicket_20 rfl rfl ?_
      refine zq_X1_4 h0 (zk_X1_4 h0).1 zw_55 dX1_giveTicket_21 ?_
      refine zg_bipush (v := 53) dX1_giveTicket_24 (by decide) ?_
      refine zg_dup2 dX1_giveTicket_26 rfl rfl ?_
      refine zg_iald (zk_X1_4 h0).2.1 dX1_giveTicket_27 ?_
      refine zg_iconst (v := 1) dX1_giveTicket_28 (by decide) ?_
      refine zg_iadd dX1_giveTicket_29 ?_
      refine zg_iast (zk_X1_4 h0).2.1 dX1_giveTicket_30 (fun S3 => ?_)
      refine zg_aload_n 0 dX1_giveTicket_31 rfl rfl ?_
      refine zq_X1_4 h0 (zk_X1_4 h0).1 zw_55 dX1_giveTicket_32 ?_
      refine zg_bipush (v := 36) dX1_giveTicket_35 (by decide) ?_
      refine zg_iload_n 2 dX1_giveTicket_37 rfl rfl ?_
      refine zg_iadd dX1_giveTicket_38 ?_
      refine zg_aload_n 0 dX1_giveTicket_39 rfl rfl ?_
      refine zq_X1_4 h0 (zk_X1_4 h0).1 zw_55 dX1_giveTicket_40 ?_
      refine zg_bipush (v := 53) dX1_giveTicket_43 (by decide) ?_
      refine zg_iald (zk_X1_4 h0).2.1 dX1_giveTicket_45 ?_
      refine zg_iast (zk_X1_4 h0).2.1 dX1_giveTicket_46 (fun S4 => ?_)
      exact zg_vret rfl dX1_giveTicket_47
def fX1_giveTicket (N : Nat) (b0 : Nat) (S : zb_S) (a1 : Int32) (a2 : Int32) : Option (Unit × zb_S) := fX1_giveTicket_0 N b0 S a1 a2
theorem zcX1_giveTicket {l : Launch} {G : zb_G} (N : Nat) (b0 : Nat) (h0 : zb_kd b0 = 1) (S : zb_S) (a1 : Int32) (a2 : Int32) : zb_C zb_eV l G 1 yX1_giveTicket cX1_giveTicket 3 none [.ref (zb_ad G b0), .int a1, .int a2] S (fX1_giveTicket N b0 S a1 a2) :=
  zb_C.of (by decide +kernel) rfl (Nat.le_of_ble_eq_true rfl) rfl (gX1_giveTicket_0 N b0 h0 S a1 a2)
-- X1_giveTickets
def fX1_giveTickets_0 (N : Nat) (b0 : Nat) (S : zb_S) (a1 : Int32) : Option (Unit × zb_S) :=
  zb_bind (fX1_giveTicket N b0 S a1 ((zb_i S b0 3) - 1)) (fun _ S1 =>
  if (zb_i S1 b0 1) ≤ 0 then
    some ((), S1)
  else
    zb_bind (fX1_giveTicket N b0 S1 a1 ((zb_i S1 b0 2) - 1)) (fun _ S3 =>
    some ((), S3)))
set_option maxHeartbeats 4000000 in
set_option maxRecDepth 100000 in
theorem gX1_giveTickets_0 {l : Launch} {G : zb_G} (N : Nat) (b0 : Nat) (h0 : zb_kd b0 = 1) (S : zb_S) (a1 : Int32) : zb_Go zb_eV l G 2 RX1 cX1_giveTickets 2 none 0 [(0, .ref (zb_ad G b0)), (1, .int a1)] [] S (fX1_giveTickets_0 N b0 S a1) := by
  unfold fX1_giveTickets_0
  refine zg_aload_n 0 dX1_giveTickets_0 rfl rfl ?_
  refine zg_iload_n 1 dX1_giveTickets_1 rfl rfl ?_
  refine zg_aload_n 0 dX1_giveTickets_2 rfl rfl ?_
  refine zq_X1_3 h0 zw_54 dX1_giveTickets_3 ?_
  refine zg_iconst (v := 1) dX1_giveTickets_6 (by decide) ?_
  refine zg_isub dX1_giveTickets_7 ?_
  refine zg_callVV (As := [.int a1, .int ((zb_i S b0 3) - 1)]) (rest := []) 2 (zcX1_giveTicket N b0 h0 S a1 ((zb_i S b0 3) - 1)) (by decide) (by decide) h0 (by decide) rfl zw_423 zw_424 zw_425 zw_19 zw_426 (by decide +kernel) rfl rfl (Nat.le_of_ble_eq_true rfl) dX1_giveTickets_8 (fun S1 => ?_)
  refine zg_aload_n 0 dX1_giveTickets_11 rfl rfl ?_
  refine zq_X1_1 h0 zw_52 dX1_giveTickets_12 ?_
  refine zg_if_le 29 dX1_giveTickets_15 (by decide) ?_ ?_
  · exact zg_vret rfl dX1_giveTickets_29
  · refine zg_aload_n 0 dX1_giveTickets_18 rfl rfl ?_
    refine zg_iload_n 1 dX1_giveTickets_19 rfl rfl ?_
    refine zg_aload_n 0 dX1_giveTickets_20 rfl rfl ?_
    refine zq_X1_2 h0 zw_53 dX1_giveTickets_21 ?_
    refine zg_iconst (v := 1) dX1_giveTickets_24 (by decide) ?_
    refine zg_isub dX1_giveTickets_25 ?_
    refine zg_callVV (As := [.int a1, .int ((zb_i S1 b0 2) - 1)]) (rest := []) 2 (zcX1_giveTicket N b0 h0 S1 a1 ((zb_i S1 b0 2) - 1)) (by decide) (by decide) h0 (by decide) rfl zw_423 zw_424 zw_425 zw_19 zw_426 (by decide +kernel) rfl rfl (Nat.le_of_ble_eq_true rfl) dX1_giveTickets_26 (fun S3 => ?_)
    exact zg_vret rfl dX1_giveTickets_29
def fX1_giveTickets (N : Nat) (b0 : Nat) (S : zb_S) (a1 : Int32) : Option (Unit × zb_S) := fX1_giveTickets_0 N b0 S a1
theorem zcX1_giveTickets {l : Launch} {G : zb_G} (N : Nat) (b0 : Nat) (h0 : zb_kd b0 = 1) (S : zb_S) (a1 : Int32) : zb_C zb_eV l G 2 yX1_giveTickets cX1_giveTickets 2 none [.ref (zb_ad G b0), .int a1] S (fX1_giveTickets N b0 S a1) :=
  zb_C.of (by decide +kernel) rfl (Nat.le_of_ble_eq_true rfl) rfl (gX1_giveTickets_0 N b0 h0 S a1)
-- X1_yielding
def fX1_yielding_0 (N : Nat) (b0 : Nat) (S : zb_S) (a1 : Int32) : Option (Int32 × zb_S) :=
  zb_let ((zb_i S b0 3) - 1) (fun x1 : Int32 =>
  zb_let ((zb_i S b0 2) - 1) (fun x2 : Int32 =>
  if (zb_i S b0 1) = 0 then
    some (0, S)
  else
    zb_bind (fX1_in N S a1 x1) (fun r4 S3 =>
    if r4 = 0 then
      some (0, S3)
    else
      zb_bind (fX1_in N S3 a1 x2) (fun r6 S5 =>
      if r6 = 0 then
        some (0, S5)
      else
        if zb_in (36 + x1) (zb_sz (b0 + 1)) then
        if zb_in (36 + x2) (zb_sz (b0 + 1)) then
        if (zb_a S5 (b0 + 1) (Int32.toNatClampNeg (36 + x2))) ≤ (zb_a S5 (b0 + 1) (Int32.toNatClampNeg (36 + x1))) then
          some (1 <<< (x1 &&& 31), S5)
        else
          some (1 <<< (x2 &&& 31), S5) else none else none))))
set_option maxHeartbeats 4000000 in
set_option maxRecDepth 100000 in
theorem gX1_yielding_0 {l : Launch} {G : zb_G} (N : Nat) (b0 : Nat) (h0 : zb_kd b0 = 1) (S : zb_S) (a1 : Int32) : zb_Go zb_eI l G 1 RX1 cX1_yielding 4 (some .int) 0 [(0, .ref (zb_ad G b0)), (1, .int a1)] [] S (fX1_yielding_0 N b0 S a1) := by
  unfold fX1_yielding_0
  refine zg_aload_n 0 dX1_yielding_0 rfl rfl ?_
  refine zq_X1_3 h0 zw_54 dX1_yielding_1 ?_
  refine zg_iconst (v := 1) dX1_yielding_4 (by decide) ?_
  refine zg_isub dX1_yielding_5 ?_
  refine zg_istore_nL (fun x1 => [(2, .int x1), (0, .ref (zb_ad G b0)), (1, .int a1)]) dX1_yielding_6 rfl (by decide) (fun _ => rfl) (fun x1 => ?_)
  refine zg_aload_n 1 dX1_yielding_7 rfl rfl ?_
  refine zq_X1_2 h0 zw_53 dX1_yielding_8 ?_
  refine zg_iconst (v := 1) dX1_yielding_11 (by decide) ?_
  refine zg_isub dX1_yielding_12 ?_
  refine zg_istore_nL (fun x2 => [(3, .int x2), (2, .int x1), (0, .ref (zb_ad G b0)), (1, .int a1)]) dX1_yielding_13 rfl (by decide) (fun _ => rfl) (fun x2 => ?_)
  refine zg_aload_n 2 dX1_yielding_14 rfl rfl ?_
  refine zq_X1_1 h0 zw_52 dX1_yielding_15 ?_
  refine zg_if_eq 37 dX1_yielding_18 (by decide) ?_ ?_
  · refine zg_iconst (v := 0) dX1_yielding_37 (by decide) ?_
    exact zg_iret rfl dX1_yielding_38
  · refine zg_iload_n 3 dX1_yielding_21 rfl rfl ?_
    refine zg_iload_n 1 dX1_yielding_22 rfl rfl ?_
    refine zg_callSI (As := [.int a1, .int x1]) (rest := []) 2 (zcX1_in N S a1 x1) (by decide) (by decide) zw_247 zw_157 zw_19 zw_158 (by decide +kernel) rfl rfl (Nat.le_of_ble_eq_true rfl) dX1_yielding_23 (fun r4 S3 => ?_)
    refine zg_if_eq 37 dX1_yielding_26 (by decide) ?_ ?_
    · refine zg_iconst (v := 0) dX1_yielding_37 (by decide) ?_
      exact zg_iret rfl dX1_yielding_38
    · refine zg_iload_n 3 dX1_yielding_29 rfl rfl ?_
      refine zg_iload_n 0 dX1_yielding_30 rfl rfl ?_
      refine zg_callSI (As := [.int a1, .int x2]) (rest := []) 2 (zcX1_in N S3 a1 x2) (by decide) (by decide) zw_247 zw_157 zw_19 zw_158 (by decide +kernel) rfl rfl (Nat.le_of_ble_eq_true rfl) dX1_yielding_31 (fun r6 S5 => ?_)
      refine zg_if_ne 39 dX1_yielding_34 (by decide) ?_ ?_
      · refine zg_aload_n 2 dX1_yielding_39 rfl rfl ?_
        refine zq_X1_4 h0 (zk_X1_4 h0).1 zw_55 dX1_yielding_40 ?_
        refine zg_bipush (v := 36) dX1_yielding_43 (by decide) ?_
        refine zg_iload_n 1 dX1_yielding_45 rfl rfl ?_
        refine zg_iadd dX1_yielding_46 ?_
        refine zg_iald (zk_X1_4 h0).2.1 dX1_yielding_47 ?_
        refine zg_aload_n 2 dX1_yielding_48 rfl rfl ?_
        refine zq_X1_4 h0 (zk_X1_4 h0).1 zw_55 dX1_yielding_49 ?_
        refine zg_bipush (v := 36) dX1_yielding_52 (by decide) ?_
        refine zg_iload_n 0 dX1_yielding_54 rfl rfl ?_
        refine zg_iadd dX1_yielding_55 ?_
        refine zg_iald (zk_X1_4 h0).2.1 dX1_yielding_56 ?_
        refine zg_icmp_ge 66 dX1_yielding_57 (by decide) ?_ ?_
        · refine zg_iconst (v := 1) dX1_yielding_66 (by decide) ?_
          refine zg_iload_n 1 dX1_yielding_67 rfl rfl ?_
          refine zg_ishl dX1_yielding_68 ?_
          exact zg_iret rfl dX1_yielding_69
        · refine zg_iconst (v := 1) dX1_yielding_60 (by decide) ?_
          refine zg_iload_n 0 dX1_yielding_61 rfl rfl ?_
          refine zg_ishl dX1_yielding_62 ?_
          refine zg_goto (tgt := 69) dX1_yielding_63 (by decide) ?_
          exact zg_iret rfl dX1_yielding_69
      · refine zg_iconst (v := 0) dX1_yielding_37 (by decide) ?_
        exact zg_iret rfl dX1_yielding_38
def fX1_yielding (N : Nat) (b0 : Nat) (S : zb_S) (a1 : Int32) : Option (Int32 × zb_S) := fX1_yielding_0 N b0 S a1
theorem zcX1_yielding {l : Launch} {G : zb_G} (N : Nat) (b0 : Nat) (h0 : zb_kd b0 = 1) (S : zb_S) (a1 : Int32) : zb_C zb_eI l G 1 yX1_yielding cX1_yielding 4 (some .int) [.ref (zb_ad G b0), .int a1] S (fX1_yielding N b0 S a1) :=
  zb_C.of (by decide +kernel) rfl (Nat.le_of_ble_eq_true rfl) rfl (gX1_yielding_0 N b0 h0 S a1)
-- X1_roomWith
def fX1_roomWith_0 (N : Nat) (b0 : Nat) (S : zb_S) (a1 : Int32) (a2 : Int32) : Option (Int32 × zb_S) :=
  if zb_in 51 (zb_sz (b0 + 1)) then
  if (zb_a S (b0 + 1) (Int32.toNatClampNeg 51)) = 1 then
    some (a2 ||| a1, S)
  else
    some (a2, S) else none
set_option maxHeartbeats 4000000 in
set_option maxRecDepth 100000 in
theorem gX1_roomWith_0 {l : Launch} {G : zb_G} (N : Nat) (b0 : Nat) (h0 : zb_kd b0 = 1) (S : zb_S) (a1 : Int32) (a2 : Int32) : zb_Go zb_eI l G 0 RX1 cX1_roomWith 3 (some .int) 0 [(0, .ref (zb_ad G b0)), (1, .int a1), (2, .int a2)] [] S (fX1_roomWith_0 N b0 S a1 a2) := by
  unfold fX1_roomWith_0
  refine zg_aload_n 0 dX1_roomWith_0 rfl rfl ?_
  refine zq_X1_4 h0 (zk_X1_4 h0).1 zw_55 dX1_roomWith_1 ?_
  refine zg_bipush (v := 51) dX1_roomWith_4 (by decide) ?_
  refine zg_iald (zk_X1_4 h0).2.1 dX1_roomWith_6 ?_
  refine zg_iconst (v := 1) dX1_roomWith_7 (by decide) ?_
  refine zg_icmp_ne 17 dX1_roomWith_8 (by decide) ?_ ?_
  · refine zg_iload_n 2 dX1_roomWith_17 rfl rfl ?_
    exact zg_iret rfl dX1_roomWith_18
  · refine zg_iload_n 2 dX1_roomWith_11 rfl rfl ?_
    refine zg_iload_n 1 dX1_roomWith_12 rfl rfl ?_
    refine zg_ior dX1_roomWith_13 ?_
    refine zg_goto (tgt := 18) dX1_roomWith_14 (by decide) ?_
    exact zg_iret rfl dX1_roomWith_18
def fX1_roomWith (N : Nat) (b0 : Nat) (S : zb_S) (a1 : Int32) (a2 : Int32) : Option (Int32 × zb_S) := fX1_roomWith_0 N b0 S a1 a2
theorem zcX1_roomWith {l : Launch} {G : zb_G} (N : Nat) (b0 : Nat) (h0 : zb_kd b0 = 1) (S : zb_S) (a1 : Int32) (a2 : Int32) : zb_C zb_eI l G 0 yX1_roomWith cX1_roomWith 3 (some .int) [.ref (zb_ad G b0), .int a1, .int a2] S (fX1_roomWith N b0 S a1 a2) :=
  zb_C.of (by decide +kernel) rfl (Nat.le_of_ble_eq_true rfl) rfl (gX1_roomWith_0 N b0 h0 S a1 a2)
-- X1_goer
def fX1_goer_0 (N : Nat) (b0 : Nat) (S : zb_S) (a1 : Int32) (a2 : Int32) (a3 : Int32) : Option (Int32 × zb_S) :=
  zb_bind (fX1_in N S a2 a1) (fun r2 S1 =>
  if r2 = 0 then
    some (0, S1)
  else
    zb_bind (fX1_behind N b0 S1 a1) (fun r4 S3 =>
    zb_bind (fX1_in N S3 a3 r4) (fun r6 S5 =>
    if r6 = 0 then
      some (0, S5)
    else
      some (1 <<< (a1 &&& 31), S5))))
set_option maxHeartbeats 4000000 in
set_option maxRecDepth 100000 in
theorem gX1_goer_0 {l : Launch} {G : zb_G} (N : Nat) (b0 : Nat) (h0 : zb_kd b0 = 1) (S : zb_S) (a1 : Int32) (a2 : Int32) (a3 : Int32) : zb_Go zb_eI l G 1 RX1 cX1_goer 4 (some .int) 0 [(0, .ref (zb_ad G b0)), (1, .int a1), (2, .int a2), (3, .int a3)] [] S (fX1_goer_0 N b0 S a1 a2 a3) := by
  unfold fX1_goer_0
  refine zg_iload_n 2 dX1_goer_0 rfl rfl ?_
  refine zg_iload_n 1 dX1_goer_1 rfl rfl ?_
  refine zg_callSI (As := [.int a2, .int a1]) (rest := []) 2 (zcX1_in N S a2 a1) (by decide) (by decide) zw_247 zw_157 zw_19 zw_158 (by decide +kernel) rfl rfl (Nat.le_of_ble_eq_true rfl) dX1_goer_2 (fun r2 S1 => ?_)
  refine zg_if_eq 26 dX1_goer_5 (by decide) ?_ ?_
  · refine zg_iconst (v := 0) dX1_goer_26 (by decide) ?_
    exact zg_iret rfl dX1_goer_27
  · refine zg_iload_n 3 dX1_goer_8 rfl rfl ?_
    refine zg_aload_n 0 dX1_goer_9 rfl rfl ?_
    refine zg_iload_n 1 dX1_goer_10 rfl rfl ?_
    refine zg_callVI (As := [.int a1]) (rest := [.int a3]) 1 (zcX1_behind N b0 h0 S1 a1) (by decide) (by decide) h0 (by decide) rfl zw_415 zw_416 zw_417 zw_19 zw_418 (by decide +kernel) rfl rfl (Nat.le_of_ble_eq_true rfl) dX1_goer_11 (fun r4 S3 => ?_)
    refine zg_callSI (As := [.int a3, .int r4]) (rest := []) 2 (zcX1_in N S3 a3 r4) (by decide) (by decide) zw_247 zw_157 zw_19 zw_158 (by decide +kernel) rfl rfl (Nat.le_of_ble_eq_true rfl) dX1_goer_14 (fun r6 S5 => ?_)
    refine zg_if_eq 26 dX1_goer_17 (by decide) ?_ ?_
    · refine zg_iconst (v := 0) dX1_goer_26 (by decide) ?_
      exact zg_iret rfl dX1_goer_27
    · refine zg_iconst (v := 1) dX1_goer_20 (by decide) ?_
      refine zg_iload_n 1 dX1_goer_21 rfl rfl ?_
      refine zg_ishl dX1_goer_22 ?_
      refine zg_goto (tgt := 27) dX1_goer_23 (by decide) ?_
      exact zg_iret rfl dX1_goer_27
def fX1_goer (N : Nat) (b0 : Nat) (S : zb_S) (a1 : Int32) (a2 : Int32) (a3 : Int32) : Option (Int32 × zb_S) := fX1_goer_0 N b0 S a1 a2 a3
theorem zcX1_goer {l : Launch} {G : zb_G} (N : Nat) (b0 : Nat) (h0 : zb_kd b0 = 1) (S : zb_S) (a1 : Int32) (a2 : Int32) (a3 : Int32) : zb_C zb_eI l G 1 yX1_goer cX1_goer 4 (some .int) [.ref (zb_ad G b0), .int a1, .int a2, .int a3] S (fX1_goer N b0 S a1 a2 a3) :=
  zb_C.of (by decide +kernel) rfl (Nat.le_of_ble_eq_true rfl) rfl (gX1_goer_0 N b0 h0 S a1 a2 a3)
-- X1_settle
def fX1_settle_72b (N : Nat) (b0 : Nat) (k72 : zb_S → Int32 → Int32 → Int32 → Int32 → Option (Int32 × zb_S)) (S : zb_S) (l1 : Int32) (l2 : Int32) (l4 : Int32) (l5 : Int32) : Option (Int32 × zb_S) :=
  if l5 < (zb_i S b0 0) then
    some (l4, S)
  else
    zb_bind (fX1_roomWith N b0 S l4 l2) (fun r2 S1 =>
    zb_bind (fX1_goer N b0 S1 l5 l1 r2) (fun r4 S3 =>
    zb_let (l4 ||| r4) (fun x5 : Int32 =>
    zb_let (l5 + (-1)) (fun x6 : Int32 =>
    k72 S3 l1 l2 x5 x6))))
set_option maxHeartbeats 4000000 in
set_option maxRecDepth 100000 in
theorem gX1_settle_72b {l : Launch} {G : zb_G} (N : Nat) (b0 : Nat) (h0 : zb_kd b0 = 1) (k72 : zb_S → Int32 → Int32 → Int32 → Int32 → Option (Int32 × zb_S)) (hk72 : ∀ (S : zb_S) (l1 : Int32) (l2 : Int32) (l4 : Int32) (l5 : Int32), zb_Go zb_eI l G 2 RX1 cX1_settle 6 (some .int) 72 [(0, .ref (zb_ad G b0)), (1, .int l1), (2, .int l2), (4, .int l4), (5, .int l5)] [] S (k72 S l1 l2 l4 l5)) (S : zb_S) (l1 : Int32) (l2 : Int32) (l4 : Int32) (l5 : Int32) : zb_Go zb_eI l G 2 RX1 cX1_settle 6 (some .int) 72 [(0, .ref (zb_ad G b0)), (1, .int l1), (2, .int l2), (4, .int l4), (5, .int l5)] [] S (fX1_settle_72b N b0 k72 S l1 l2 l4 l5) := by
  unfold fX1_settle_72b
  refine zg_iload 4 dX1_settle_72 rfl ?_
  refine zg_aload_n 0 dX1_settle_74 rfl rfl ?_
  refine zq_X1_0 h0 zw_51 dX1_settle_75 ?_
  refine zg_icmp_lt 106 dX1_settle_78 (by decide) ?_ ?_
  · refine zg_iload 3 dX1_settle_106 rfl ?_
    exact zg_iret rfl dX1_settle_108
  · refine zg_iload 3 dX1_settle_81 rfl ?_
    refine zg_aload_n 0 dX1_settle_83 rfl rfl ?_
    refine zg_iload 4 dX1_settle_84 rfl ?_
    refine zg_iload_n 1 dX1_settle_86 rfl rfl ?_
    refine zg_aload_n 0 dX1_settle_87 rfl rfl ?_
    refine zg_iload 3 dX1_settle_88 rfl ?_
    refine zg_iload_n 2 dX1_settle_90 rfl rfl ?_
    refine zg_callVI (As := [.int l4, .int l2]) (rest := [.int l1, .int l5, .ref (zb_ad G b0), .int l4]) 2 (zcX1_roomWith N b0 h0 S l4 l2) (by decide) (by decide) h0 (by decide) rfl zw_435 zw_436 zw_437 zw_19 zw_438 (by decide +kernel) rfl rfl (Nat.le_of_ble_eq_true rfl) dX1_settle_91 (fun r2 S1 => ?_)
    refine zg_callVI (As := [.int l5, .int l1, .int r2]) (rest := [.int l4]) 3 (zcX1_goer N b0 h0 S1 l5 l1 r2) (by decide) (by decide) h0 (by decide) rfl zw_439 zw_440 zw_441 zw_19 zw_442 (by decide +kernel) rfl rfl (Nat.le_of_ble_eq_true rfl) dX1_settle_94 (fun r4 S3 => ?_)
    refine zg_ior dX1_settle_97 ?_
    refine zg_istoreL (fun x5 => [(4, .int x5), (0, .ref (zb_ad G b0)), (1, .int l1), (2, .int l2), (5, .int l5)]) dX1_settle_98 (by decide) (fun _ => rfl) (fun x5 => ?_)
    refine zg_iincL (fun x6 => [(5, .int x6), (4, .int x5), (0, .ref (zb_ad G b0)), (1, .int l1), (2, .int l2)]) 4 dX1_settle_100 rfl rfl (by decide) (fun _ => rfl) (fun x6 => ?_)
    refine zg_goto (tgt := 72) dX1_settle_103 (by decide) ?_
    refine zg_sub [2, 3, 4, 1, 0] rfl ?_
    exact hk72 S3 l1 l2 x5 x6
def fX1_settle_72 (N : Nat) (b0 : Nat) : Nat → zb_S → Int32 → Int32 → Int32 → Int32 → Option (Int32 × zb_S)
  | 0, _, _, _, _, _ => none
  | n + 1, S, l1, l2, l4, l5 => fX1_settle_72b N b0 (fX1_settle_72 N b0 n) S l1 l2 l4 l5
set_option maxHeartbeats 4000000 in
set_option maxRecDepth 100000 in
theorem gX1_settle_72 {l : Launch} {G : zb_G} (N : Nat) (b0 : Nat) (h0 : zb_kd b0 = 1) : ∀ (n : Nat) (S : zb_S) (l1 : Int32) (l2 : Int32) (l4 : Int32) (l5 : Int32), zb_Go zb_eI l G 2 RX1 cX1_settle 6 (some .int) 72 [(0, .ref (zb_ad G b0)), (1, .int l1), (2, .int l2), (4, .int l4), (5, .int l5)] [] S (fX1_settle_72 N b0 n S l1 l2 l4 l5) := by
  intro n
  induction n with
  | zero => intros; exact zg_none
  | succ n ih =>
    intro S l1 l2 l4 l5
    exact gX1_settle_72b N b0 h0 (fX1_settle_72 N b0 n) ih S l1 l2 l4 l5
def fX1_settle_34b (N : Nat) (b0 : Nat) (k34 : zb_S → Int32 → Int32 → Int32 → Int32 → Option (Int32 × zb_S)) (S : zb_S) (l1 : Int32) (l2 : Int32) (l4 : Int32) (l5 : Int32) : Option (Int32 × zb_S) :=
  if l5 < 0 then
    zb_let ((zb_i S b0 2) - 1) (fun x1 : Int32 =>
    fX1_settle_72 N b0 N S l1 l2 l4 x1)
  else
    zb_bind (fX1_roomWith N b0 S l4 l2) (fun r3 S2 =>
    zb_bind (fX1_goer N b0 S2 l5 l1 r3) (fun r5 S4 =>
    zb_let (l4 ||| r5) (fun x6 : Int32 =>
    zb_let (l5 + (-1)) (fun x7 : Int32 =>
    k34 S4 l1 l2 x6 x7))))
set_option maxHeartbeats 4000000 in
set_option maxRecDepth 100000 in
theorem gX1_settle_34b {l : Launch} {G : zb_G} (N : Nat) (b0 : Nat) (h0 : zb_kd b0 = 1) (k34 : zb_S → Int32 → Int32 → Int32 → Int32 → Option (Int32 × zb_S)) (hk34 : ∀ (S : zb_S) (l1 : Int32) (l2 : Int32) (l4 : Int32) (l5 : Int32), zb_Go zb_eI l G 2 RX1 cX1_settle 6 (some .int) 34 [(0, .ref (zb_ad G b0)), (1, .int l1), (2, .int l2), (4, .int l4), (5, .int l5)] [] S (k34 S l1 l2 l4 l5)) (S : zb_S) (l1 : Int32) (l2 : Int32) (l4 : Int32) (l5 : Int32) : zb_Go zb_eI l G 2 RX1 cX1_settle 6 (some .int) 34 [(0, .ref (zb_ad G b0)), (1, .int l1), (2, .int l2), (4, .int l4), (5, .int l5)] [] S (fX1_settle_34b N b0 k34 S l1 l2 l4 l5) := by
  unfold fX1_settle_34b
  refine zg_iload 4 dX1_settle_34 rfl ?_
  refine zg_if_lt 64 dX1_settle_36 (by decide) ?_ ?_
  · refine zg_aload_n 0 dX1_settle_64 rfl rfl ?_
    refine zq_X1_2 h0 zw_53 dX1_settle_65 ?_
    refine zg_iconst (v := 1) dX1_settle_68 (by decide) ?_
    refine zg_isub dX1_settle_69 ?_
    refine zg_istoreL (fun x1 => [(5, .int x1), (0, .ref (zb_ad G b0)), (1, .int l1), (2, .int l2), (4, .int l4)]) dX1_settle_70 (by decide) (fun _ => rfl) (fun x1 => ?_)
    refine zg_sub [1, 2, 3, 4, 0] rfl ?_
    exact gX1_settle_72 N b0 h0 N S l1 l2 l4 x1
  · refine zg_iload 3 dX1_settle_39 rfl ?_
    refine zg_aload_n 0 dX1_settle_41 rfl rfl ?_
    refine zg_iload 4 dX1_settle_42 rfl ?_
    refine zg_iload_n 1 dX1_settle_44 rfl rfl ?_
    refine zg_aload_n 0 dX1_settle_45 rfl rfl ?_
    refine zg_iload 3 dX1_settle_46 rfl ?_
    refine zg_iload_n 2 dX1_settle_48 rfl rfl ?_
    refine zg_callVI (As := [.int l4, .int l2]) (rest := [.int l1, .int l5, .ref (zb_ad G b0), .int l4]) 2 (zcX1_roomWith N b0 h0 S l4 l2) (by decide) (by decide) h0 (by decide) rfl zw_435 zw_436 zw_437 zw_19 zw_438 (by decide +kernel) rfl rfl (Nat.le_of_ble_eq_true rfl) dX1_settle_49 (fun r3 S2 => ?_)
    refine zg_callVI (As := [.int l5, .int l1, .int r3]) (rest := [.int l4]) 3 (zcX1_goer N b0 h0 S2 l5 l1 r3) (by decide) (by decide) h0 (by decide) rfl zw_439 zw_440 zw_441 zw_19 zw_442 (by decide +kernel) rfl rfl (Nat.le_of_ble_eq_true rfl) dX1_settle_52 (fun r5 S4 => ?_)
    refine zg_ior dX1_settle_55 ?_
    refine zg_istoreL (fun x6 => [(4, .int x6), (0, .ref (zb_ad G b0)), (1, .int l1), (2, .int l2), (5, .int l5)]) dX1_settle_56 (by decide) (fun _ => rfl) (fun x6 => ?_)
    refine zg_iincL (fun x7 => [(5, .int x7), (4, .int x6), (0, .ref (zb_ad G b0)), (1, .int l1), (2, .int l2)]) 4 dX1_settle_58 rfl rfl (by decide) (fun _ => rfl) (fun x7 => ?_)
    refine zg_goto (tgt := 34) dX1_settle_61 (by decide) ?_
    refine zg_sub [2, 3, 4, 1, 0] rfl ?_
    exact hk34 S4 l1 l2 x6 x7
def fX1_settle_34 (N : Nat) (b0 : Nat) : Nat → zb_S → Int32 → Int32 → Int32 → Int32 → Option (Int32 × zb_S)
  | 0, _, _, _, _, _ => none
  | n + 1, S, l1, l2, l4, l5 => fX1_settle_34b N b0 (fX1_settle_34 N b0 n) S l1 l2 l4 l5
set_option maxHeartbeats 4000000 in
set_option maxRecDepth 100000 in
theorem gX1_settle_34 {l : Launch} {G : zb_G} (N : Nat) (b0 : Nat) (h0 : zb_kd b0 = 1) : ∀ (n : Nat) (S : zb_S) (l1 : Int32) (l2 : Int32) (l4 : Int32) (l5 : Int32), zb_Go zb_eI l G 2 RX1 cX1_settle 6 (some .int) 34 [(0, .ref (zb_ad G b0)), (1, .int l1), (2, .int l2), (4, .int l4), (5, .int l5)] [] S (fX1_settle_34 N b0 n S l1 l2 l4 l5) := by
  intro n
  induction n with
  | zero => intros; exact zg_none
  | succ n ih =>
    intro S l1 l2 l4 l5
    exact gX1_settle_34b N b0 h0 (fX1_settle_34 N b0 n) ih S l1 l2 l4 l5
def fX1_settle_27 (N : Nat) (b0 : Nat) (S : zb_S) (l1 : Int32) (l2 : Int32) (l3 : Int32) (s0 : Int32) : Option (Int32 × zb_S) :=
  zb_let (l3 - 1) (fun x1 : Int32 =>
  fX1_settle_34 N b0 N S l1 l2 s0 x1)
set_option maxHeartbeats 4000000 in
set_option maxRecDepth 100000 in
theorem gX1_settle_27 {l : Launch} {G : zb_G} (N : Nat) (b0 : Nat) (h0 : zb_kd b0 = 1) (S : zb_S) (l1 : Int32) (l2 : Int32) (l3 : Int32) (s0 : Int32) : zb_Go zb_eI l G 2 RX1 cX1_settle 6 (some .int) 27 [(0, .ref (zb_ad G b0)), (1, .int l1), (2, .int l2), (3, .int l3)] [.int s0] S (fX1_settle_27 N b0 S l1 l2 l3 s0) := by
  unfold fX1_settle_27
  refine zg_istore (lv' := [(4, .int s0), (0, .ref (zb_ad G b0)), (1, .int l1), (2, .int l2), (3, .int l3)]) dX1_settle_27 (by decide) rfl ?_
  refine zg_iload_n 4 dX1_settle_29 rfl rfl ?_
  refine zg_iconst (v := 1) dX1_settle_30 (by decide) ?_
  refine zg_isub dX1_settle_31 ?_
  refine zg_istoreL (fun x1 => [(5, .int x1), (4, .int s0), (0, .ref (zb_ad G b0)), (1, .int l1), (2, .int l2), (3, .int l3)]) dX1_settle_32 (by decide) (fun _ => rfl) (fun x1 => ?_)
  refine zg_sub [2, 3, 4, 1, 0] rfl ?_
  exact gX1_settle_34 N b0 h0 N S l1 l2 s0 x1
def fX1_settle_0 (N : Nat) (b0 : Nat) (S : zb_S) (a1 : Int32) (a2 : Int32) : Option (Int32 × zb_S) :=
  zb_let ((zb_i S b0 0) - 1) (fun x1 : Int32 =>
  if zb_in 50 (zb_sz (b0 + 1)) then
  if (zb_a S (b0 + 1) (Int32.toNatClampNeg 50)) = 1 then
    fX1_settle_27 N b0 S a1 a2 x1 (a1 &&& (1 <<< (x1 &&& 31)))
  else
    fX1_settle_27 N b0 S a1 a2 x1 0 else none)
set_option maxHeartbeats 4000000 in
set_option maxRecDepth 100000 in
theorem gX1_settle_0 {l : Launch} {G : zb_G} (N : Nat) (b0 : Nat) (h0 : zb_kd b0 = 1) (S : zb_S) (a1 : Int32) (a2 : Int32) : zb_Go zb_eI l G 2 RX1 cX1_settle 6 (some .int) 0 [(0, .ref (zb_ad G b0)), (1, .int a1), (2, .int a2)] [] S (fX1_settle_0 N b0 S a1 a2) := by
  unfold fX1_settle_0
  refine zg_aload_n 0 dX1_settle_0 rfl rfl ?_
  refine zq_X1_0 h0 zw_51 dX1_settle_1 ?_
  refine zg_iconst (v := 1) dX1_settle_4 (by decide) ?_
  refine zg_isub dX1_settle_5 ?_
  refine zg_istore_nL (fun x1 => [(3, .int x1), (0, .ref (zb_ad G b0)), (1, .int a1), (2, .int a2)]) dX1_settle_6 rfl (by decide) (fun _ => rfl) (fun x1 => ?_)
  refine zg_aload_n 1 dX1_settle_7 rfl rfl ?_
  refine zq_X1_4 h0 (zk_X1_4 h0).1 zw_55 dX1_settle_8 ?_
  refine zg_bipush (v := 50) dX1_settle_11 (by decide) ?_
  refine zg_iald (zk_X1_4 h0).2.1 dX1_settle_13 ?_
  refine zg_iconst (v := 1) dX1_settle_14 (by decide) ?_
  refine zg_icmp_ne 26 dX1_settle_15 (by decide) ?_ ?_
  · refine zg_iconst (v := 0) dX1_settle_26 (by decide) ?_
    refine zg_sub [1, 2, 3, 0] rfl ?_
    exact gX1_settle_27 N b0 h0 S a1 a2 x1 0
  · refine zg_iload_n 2 dX1_settle_18 rfl rfl ?_
    refine zg_iconst (v := 1) dX1_settle_19 (by decide) ?_
    refine zg_iload_n 0 dX1_settle_20 rfl rfl ?_
    refine zg_ishl dX1_settle_21 ?_
    refine zg_iand dX1_settle_22 ?_
    refine zg_goto (tgt := 27) dX1_settle_23 (by decide) ?_
    refine zg_sub [1, 2, 3, 0] rfl ?_
    exact gX1_settle_27 N b0 h0 S a1 a2 x1 (a1 &&& (1 <<< (x1 &&& 31)))
def fX1_settle (N : Nat) (b0 : Nat) (S : zb_S) (a1 : Int32) (a2 : Int32) : Option (Int32 × zb_S) := fX1_settle_0 N b0 S a1 a2
theorem zcX1_settle {l : Launch} {G : zb_G} (N : Nat) (b0 : Nat) (h0 : zb_kd b0 = 1) (S : zb_S) (a1 : Int32) (a2 : Int32) : zb_C zb_eI l G 2 yX1_settle cX1_settle 6 (some .int) [.ref (zb_ad G b0), .int a1, .int a2] S (fX1_settle N b0 S a1 a2) :=
  zb_C.of (by decide +kernel) rfl (Nat.le_of_ble_eq_true rfl) rfl (gX1_settle_0 N b0 h0 S a1 a2)
-- X1_handOn
def fX1_handOn_0 (N : Nat) (b0 : Nat) (S : zb_S) (a1 : Int32) : Option (Unit × zb_S) :=
  if zb_in (36 + a1) (zb_sz (b0 + 1)) then zb_let (zb_pa S (b0 + 1) (Int32.toNatClampNeg (36 + a1)) 0) (fun S1 : zb_S =>
  zb_bind (fX1_hasCarton N b0 S1 a1) (fun r3 S2 =>
  if r3 = 0 then
    some ((), S2)
  else
    if a1 = ((zb_i S2 b0 0) - 1) then
      zb_bind (fX1_change N b0 S2 (0 + a1) 0) (fun r15 S14 =>
      zb_let (zb_pi S14 b0 5 r15) (fun S16 : zb_S =>
      if zb_in 55 (zb_sz (b0 + 1)) then
      if zb_in 55 (zb_sz (b0 + 1)) then zb_let (zb_pa S16 (b0 + 1) (Int32.toNatClampNeg 55) ((zb_a S16 (b0 + 1) (Int32.toNatClampNeg 55)) + 1)) (fun S17 : zb_S =>
      some ((), S17)) else none else none))
    else
      zb_bind (fX1_behind N b0 S2 a1) (fun r5 S4 =>
      zb_bind (fX1_hasCarton N b0 S4 r5) (fun r7 S6 =>
      if r7 = 0 then
        zb_bind (fX1_behind N b0 S6 a1) (fun r9 S8 =>
        zb_bind (fX1_change N b0 S8 (0 + a1) 0) (fun r11 S10 =>
        if zb_in (0 + r9) (zb_sz (b0 + 1)) then zb_let (zb_pa S10 (b0 + 1) (Int32.toNatClampNeg (0 + r9)) r11) (fun S12 : zb_S =>
        some ((), S12)) else none))
      else
        if zb_in 48 (zb_sz (b0 + 1)) then
        if zb_in 48 (zb_sz (b0 + 1)) then zb_let (zb_pa S6 (b0 + 1) (Int32.toNatClampNeg 48) ((zb_a S6 (b0 + 1) (Int32.toNatClampNeg 48)) ||| (1 <<< (a1 &&& 31)))) (fun S13 : zb_S =>
        some ((), S13)) else none else none)))) else none
set_option maxHeartbeats 4000000 in
set_option maxRecDepth 100000 in
theorem gX1_handOn_0 {l : Launch} {G : zb_G} (N : Nat) (b0 : Nat) (h0 : zb_kd b0 = 1) (S : zb_S) (a1 : Int32) : zb_Go zb_eV l G 1 RX1 cX1_handOn 2 none 0 [(0, .ref (zb_ad G b0)), (1, .int a1)] [] S (fX1_handOn_0 N b0 S a1) := by
  unfold fX1_handOn_0
  refine zg_aload_n 0 dX1_handOn_0 rfl rfl ?_
  refine zq_X1_4 h0 (zk_X1_4 h0).1 zw_55 dX1_handOn_1 ?_
  refine zg_bipush (v := 36) dX1_handOn_4 (by decide) ?_
  refine zg_iload_n 1 dX1_handOn_6 rfl rfl ?_
  refine zg_iadd dX1_handOn_7 ?_
  refine zg_iconst (v := 0) dX1_handOn_8 (by decide) ?_
  refine zg_iast (zk_X1_4 h0).2.1 dX1_handOn_9 (fun S1 => ?_)
  refine zg_aload_n 0 dX1_handOn_10 rfl rfl ?_
  refine zg_iload_n 1 dX1_handOn_11 rfl rfl ?_
  refine zg_callVI (As := [.int a1]) (rest := []) 1 (zcX1_hasCarton N b0 h0 S1 a1) (by decide) (by decide) h0 (by decide) rfl zw_241 zw_234 zw_235 zw_19 zw_236 (by decide +kernel) rfl rfl (Nat.le_of_ble_eq_true rfl) dX1_handOn_12 (fun r3 S2 => ?_)
  refine zg_if_ne 19 dX1_handOn_15 (by decide) ?_ ?_
  · refine zg_iload_n 1 dX1_handOn_19 rfl rfl ?_
    refine zg_aload_n 0 dX1_handOn_20 rfl rfl ?_
    refine zq_X1_0 h0 zw_51 dX1_handOn_21 ?_
    refine zg_iconst (v := 1) dX1_handOn_24 (by decide) ?_
    refine zg_isub dX1_handOn_25 ?_
    refine zg_icmp_ne 55 dX1_handOn_26 (by decide) ?_ ?_
    · refine zg_aload_n 0 dX1_handOn_55 rfl rfl ?_
      refine zg_aload_n 0 dX1_handOn_56 rfl rfl ?_
      refine zg_iload_n 1 dX1_handOn_57 rfl rfl ?_
      refine zg_callVI (As := [.int a1]) (rest := [.ref (zb_ad G b0)]) 1 (zcX1_behind N b0 h0 S2 a1) (by decide) (by decide) h0 (by decide) rfl zw_415 zw_416 zw_417 zw_19 zw_418 (by decide +kernel) rfl rfl (Nat.le_of_ble_eq_true rfl) dX1_handOn_58 (fun r5 S4 => ?_)
      refine zg_callVI (As := [.int r5]) (rest := []) 1 (zcX1_hasCarton N b0 h0 S4 r5) (by decide) (by decide) h0 (by decide) rfl zw_241 zw_234 zw_235 zw_19 zw_236 (by decide +kernel) rfl rfl (Nat.le_of_ble_eq_true rfl) dX1_handOn_61 (fun r7 S6 => ?_)
      refine zg_if_eq 83 dX1_handOn_64 (by decide) ?_ ?_
      · refine zg_aload_n 0 dX1_handOn_83 rfl rfl ?_
        refine zq_X1_4 h0 (zk_X1_4 h0).1 zw_55 dX1_handOn_84 ?_
        refine zg_iconst (v := 0) dX1_handOn_87 (by decide) ?_
        refine zg_aload_n 0 dX1_handOn_88 rfl rfl ?_
        refine zg_iload_n 1 dX1_handOn_89 rfl rfl ?_
        refine zg_callVI (As := [.int a1]) (rest := [.int 0, .ref (zb_ad G (b0 + 1))]) 1 (zcX1_behind N b0 h0 S6 a1) (by decide) (by decide) h0 (by decide) rfl zw_415 zw_416 zw_417 zw_19 zw_418 (by decide +kernel) rfl rfl (Nat.le_of_ble_eq_true rfl) dX1_handOn_90 (fun r9 S8 => ?_)
        refine zg_iadd dX1_handOn_93 ?_
        refine zg_aload_n 0 dX1_handOn_94 rfl rfl ?_
        refine zg_iconst (v := 0) dX1_handOn_95 (by decide) ?_
        refine zg_iload_n 1 dX1_handOn_96 rfl rfl ?_
        refine zg_iadd dX1_handOn_97 ?_
        refine zg_iconst (v := 0) dX1_handOn_98 (by decide) ?_
        refine zg_callVI (As := [.int (0 + a1), .int 0]) (rest := [.int (0 + r9), .ref (zb_ad G (b0 + 1))]) 2 (zcX1_change N b0 h0 S8 (0 + a1) 0) (by decide) (by decide) h0 (by decide) rfl zw_331 zw_332 zw_333 zw_19 zw_334 (by decide +kernel) rfl rfl (Nat.le_of_ble_eq_true rfl) dX1_handOn_99 (fun r11 S10 => ?_)
        refine zg_iast (zk_X1_4 h0).2.1 dX1_handOn_102 (fun S12 => ?_)
        exact zg_vret rfl dX1_handOn_103
      · refine zg_aload_n 0 dX1_handOn_67 rfl rfl ?_
        refine zq_X1_4 h0 (zk_X1_4 h0).1 zw_55 dX1_handOn_68 ?_
        refine zg_bipush (v := 48) dX1_handOn_71 (by decide) ?_
        refine zg_dup2 dX1_handOn_73 rfl rfl ?_
        refine zg_iald (zk_X1_4 h0).2.1 dX1_handOn_74 ?_
        refine zg_iconst (v := 1) dX1_handOn_75 (by decide) ?_
        refine zg_iload_n 1 dX1_handOn_76 rfl rfl ?_
        refine zg_ishl dX1_handOn_77 ?_
        refine zg_ior dX1_handOn_78 ?_
        refine zg_iast (zk_X1_4 h0).2.1 dX1_handOn_79 (fun S13 => ?_)
        refine zg_goto (tgt := 103) dX1_handOn_80 (by decide) ?_
        exact zg_vret rfl dX1_handOn_103
    · refine zg_aload_n 0 dX1_handOn_29 rfl rfl ?_
      refine zg_aload_n 0 dX1_handOn_30 rfl rfl ?_
      refine zg_iconst (v := 0) dX1_handOn_31 (by decide) ?_
      refine zg_iload_n 1 dX1_handOn_32 rfl rfl ?_
      refine zg_iadd dX1_handOn_33 ?_
      refine zg_iconst (v := 0) dX1_handOn_34 (by decide) ?_
      refine zg_callVI (As := [.int (0 + a1), .int 0]) (rest := [.ref (zb_ad G b0)]) 2 (zcX1_change N b0 h0 S2 (0 + a1) 0) (by decide) (by decide) h0 (by decide) rfl zw_331 zw_332 zw_333 zw_19 zw_334 (by decide +kernel) rfl rfl (Nat.le_of_ble_eq_true rfl) dX1_handOn_35 (fun r15 S14 => ?_)
      refine zp_X1_5 h0 zw_56 dX1_handOn_38 (fun S16 => ?_)
      refine zg_aload_n 0 dX1_handOn_41 rfl rfl ?_
      refine zq_X1_4 h0 (zk_X1_4 h0).1 zw_55 dX1_handOn_42 ?_
      refine zg_bipush (v := 55) dX1_handOn_45 (by decide) ?_
      refine zg_dup2 dX1_handOn_47 rfl rfl ?_
      refine zg_iald (zk_X1_4 h0).2.1 dX1_handOn_48 ?_
      refine zg_iconst (v := 1) dX1_handOn_49 (by decide) ?_
      refine zg_iadd dX1_handOn_50 ?_
      refine zg_iast (zk_X1_4 h0).2.1 dX1_handOn_51 (fun S17 => ?_)
      refine zg_goto (tgt := 103) dX1_handOn_52 (by decide) ?_
      exact zg_vret rfl dX1_handOn_103
  · exact zg_vret rfl dX1_handOn_18
def fX1_handOn (N : Nat) (b0 : Nat) (S : zb_S) (a1 : Int32) : Option (Unit × zb_S) := fX1_handOn_0 N b0 S a1
theorem zcX1_handOn {l : Launch} {G : zb_G} (N : Nat) (b0 : Nat) (h0 : zb_kd b0 = 1) (S : zb_S) (a1 : Int32) : zb_C zb_eV l G 1 yX1_handOn cX1_handOn 2 none [.ref (zb_ad G b0), .int a1] S (fX1_handOn N b0 S a1) :=
  zb_C.of (by decide +kernel) rfl (Nat.le_of_ble_eq_true rfl) rfl (gX1_handOn_0 N b0 h0 S a1)
-- X1_moveThose
def fX1_moveThose_63 (N : Nat) (b0 : Nat) (k42 : zb_S → Int32 → Int32 → Option (Unit × zb_S)) (S : zb_S) (l1 : Int32) (l2 : Int32) : Option (Unit × zb_S) :=
  zb_let (l2 + (-1)) (fun x1 : Int32 =>
  k42 S l1 x1)
set_option maxHeartbeats 4000000 in
set_option maxRecDepth 100000 in
theorem gX1_moveThose_63 {l : Launch} {G : zb_G} (N : Nat) (b0 : Nat) (h0 : zb_kd b0 = 1) (k42 : zb_S → Int32 → Int32 → Option (Unit × zb_S)) (hk42 : ∀ (S : zb_S) (l1 : Int32) (l2 : Int32), zb_Go zb_eV l G 2 RX1 cX1_moveThose 3 none 42 [(0, .ref (zb_ad G b0)), (1, .int l1), (2, .int l2)] [] S (k42 S l1 l2)) (S : zb_S) (l1 : Int32) (l2 : Int32) : zb_Go zb_eV l G 2 RX1 cX1_moveThose 3 none 63 [(0, .ref (zb_ad G b0)), (1, .int l1), (2, .int l2)] [] S (fX1_moveThose_63 N b0 k42 S l1 l2) := by
  unfold fX1_moveThose_63
  refine zg_iincL (fun x1 => [(2, .int x1), (0, .ref (zb_ad G b0)), (1, .int l1)]) 2 dX1_moveThose_63 rfl rfl (by decide) (fun _ => rfl) (fun x1 => ?_)
  refine zg_goto (tgt := 42) dX1_moveThose_66 (by decide) ?_
  refine zg_sub [1, 2, 0] rfl ?_
  exact hk42 S l1 x1
def fX1_moveThose_42b (N : Nat) (b0 : Nat) (k42 : zb_S → Int32 → Int32 → Option (Unit × zb_S)) (S : zb_S) (l1 : Int32) (l2 : Int32) : Option (Unit × zb_S) :=
  if l2 < (zb_i S b0 0) then
    some ((), S)
  else
    zb_bind (fX1_in N S l1 l2) (fun r2 S1 =>
    if r2 = 0 then
      fX1_moveThose_63 N b0 k42 S1 l1 l2
    else
      zb_bind (fX1_handOn N b0 S1 l2) (fun _ S3 =>
      fX1_moveThose_63 N b0 k42 S3 l1 l2))
set_option maxHeartbeats 4000000 in
set_option maxRecDepth 100000 in
theorem gX1_moveThose_42b {l : Launch} {G : zb_G} (N : Nat) (b0 : Nat) (h0 : zb_kd b0 = 1) (k42 : zb_S → Int32 → Int32 → Option (Unit × zb_S)) (hk42 : ∀ (S : zb_S) (l1 : Int32) (l2 : Int32), zb_Go zb_eV l G 2 RX1 cX1_moveThose 3 none 42 [(0, .ref (zb_ad G b0)), (1, .int l1), (2, .int l2)] [] S (k42 S l1 l2)) (S : zb_S) (l1 : Int32) (l2 : Int32) : zb_Go zb_eV l G 2 RX1 cX1_moveThose 3 none 42 [(0, .ref (zb_ad G b0)), (1, .int l1), (2, .int l2)] [] S (fX1_moveThose_42b N b0 k42 S l1 l2) := by
  unfold fX1_moveThose_42b
  refine zg_iload_n 2 dX1_moveThose_42 rfl rfl ?_
  refine zg_aload_n 0 dX1_moveThose_43 rfl rfl ?_
  refine zq_X1_0 h0 zw_51 dX1_moveThose_44 ?_
  refine zg_icmp_lt 69 dX1_moveThose_47 (by decide) ?_ ?_
  · exact zg_vret rfl dX1_moveThose_69
  · refine zg_iload_n 1 dX1_moveThose_50 rfl rfl ?_
    refine zg_iload_n 2 dX1_moveThose_51 rfl rfl ?_
    refine zg_callSI (As := [.int l1, .int l2]) (rest := []) 2 (zcX1_in N S l1 l2) (by decide) (by decide) zw_247 zw_157 zw_19 zw_158 (by decide +kernel) rfl rfl (Nat.le_of_ble_eq_true rfl) dX1_moveThose_52 (fun r2 S1 => ?_)
    refine zg_if_eq 63 dX1_moveThose_55 (by decide) ?_ ?_
    · exact gX1_moveThose_63 N b0 h0 k42 hk42 S1 l1 l2
    · refine zg_aload_n 0 dX1_moveThose_58 rfl rfl ?_
      refine zg_iload_n 2 dX1_moveThose_59 rfl rfl ?_
      refine zg_callVV (As := [.int l2]) (rest := []) 1 (zcX1_handOn N b0 h0 S1 l2) (by decide) (by decide) h0 (by decide) rfl zw_447 zw_448 zw_449 zw_19 zw_450 (by decide +kernel) rfl rfl (Nat.le_of_ble_eq_true rfl) dX1_moveThose_60 (fun S3 => ?_)
      exact gX1_moveThose_63 N b0 h0 k42 hk42 S3 l1 l2
def fX1_moveThose_42 (N : Nat) (b0 : Nat) : Nat → zb_S → Int32 → Int32 → Option (Unit × zb_S)
  | 0, _, _, _ => none
  | n + 1, S, l1, l2 => fX1_moveThose_42b N b0 (fX1_moveThose_42 N b0 n) S l1 l2
set_option maxHeartbeats 4000000 in
set_option maxRecDepth 100000 in
theorem gX1_moveThose_42 {l : Launch} {G : zb_G} (N : Nat) (b0 : Nat) (h0 : zb_kd b0 = 1) : ∀ (n : Nat) (S : zb_S) (l1 : Int32) (l2 : Int32), zb_Go zb_eV l G 2 RX1 cX1_moveThose 3 none 42 [(0, .ref (zb_ad G b0)), (1, .int l1), (2, .int l2)] [] S (fX1_moveThose_42 N b0 n S l1 l2) := by
  intro n
  induction n with
  | zero => intros; exact zg_none
  | succ n ih =>
    intro S l1 l2
    exact gX1_moveThose_42b N b0 h0 (fX1_moveThose_42 N b0 n) ih S l1 l2
def fX1_moveThose_29 (N : Nat) (b0 : Nat) (k12 : zb_S → Int32 → Int32 → Option (Unit × zb_S)) (S : zb_S) (l1 : Int32) (l2 : Int32) : Option (Unit × zb_S) :=
  zb_let (l2 + (-1)) (fun x1 : Int32 =>
  k12 S l1 x1)
set_option maxHeartbeats 4000000 in
set_option maxRecDepth 100000 in
theorem gX1_moveThose_29 {l : Launch} {G : zb_G} (N : Nat) (b0 : Nat) (h0 : zb_kd b0 = 1) (k12 : zb_S → Int32 → Int32 → Option (Unit × zb_S)) (hk12 : ∀ (S : zb_S) (l1 : Int32) (l2 : Int32), zb_Go zb_eV l G 2 RX1 cX1_moveThose 3 none 12 [(0, .ref (zb_ad G b0)), (1, .int l1), (2, .int l2)] [] S (k12 S l1 l2)) (S : zb_S) (l1 : Int32) (l2 : Int32) : zb_Go zb_eV l G 2 RX1 cX1_moveThose 3 none 29 [(0, .ref (zb_ad G b0)), (1, .int l1), (2, .int l2)] [] S (fX1_moveThose_29 N b0 k12 S l1 l2) := by
  unfold fX1_moveThose_29
  refine zg_iincL (fun x1 => [(2, .int x1), (0, .ref (zb_ad G b0)), (1, .int l1)]) 2 dX1_moveThose_29 rfl rfl (by decide) (fun _ => rfl) (fun x1 => ?_)
  refine zg_goto (tgt := 12) dX1_moveThose_32 (by decide) ?_
  refine zg_sub [1, 2, 0] rfl ?_
  exact hk12 S l1 x1
def fX1_moveThose_12b (N : Nat) (b0 : Nat) (k12 : zb_S → Int32 → Int32 → Option (Unit × zb_S)) (S : zb_S) (l1 : Int32) (l2 : Int32) : Option (Unit × zb_S) :=
  if l2 < 0 then
    zb_let ((zb_i S b0 2) - 1) (fun x1 : Int32 =>
    fX1_moveThose_42 N b0 N S l1 x1)
  else
    zb_bind (fX1_in N S l1 l2) (fun r3 S2 =>
    if r3 = 0 then
      fX1_moveThose_29 N b0 k12 S2 l1 l2
    else
      zb_bind (fX1_handOn N b0 S2 l2) (fun _ S4 =>
      fX1_moveThose_29 N b0 k12 S4 l1 l2))
set_option maxHeartbeats 4000000 in
set_option maxRecDepth 100000 in
theorem gX1_moveThose_12b {l : Launch} {G : zb_G} (N : Nat) (b0 : Nat) (h0 : zb_kd b0 = 1) (k12 : zb_S → Int32 → Int32 → Option (Unit × zb_S)) (hk12 : ∀ (S : zb_S) (l1 : Int32) (l2 : Int32), zb_Go zb_eV l G 2 RX1 cX1_moveThose 3 none 12 [(0, .ref (zb_ad G b0)), (1, .int l1), (2, .int l2)] [] S (k12 S l1 l2)) (S : zb_S) (l1 : Int32) (l2 : Int32) : zb_Go zb_eV l G 2 RX1 cX1_moveThose 3 none 12 [(0, .ref (zb_ad G b0)), (1, .int l1), (2, .int l2)] [] S (fX1_moveThose_12b N b0 k12 S l1 l2) := by
  unfold fX1_moveThose_12b
  refine zg_iload_n 2 dX1_moveThose_12 rfl rfl ?_
  refine zg_if_lt 35 dX1_moveThose_13 (by decide) ?_ ?_
  · refine zg_aload_n 0 dX1_moveThose_35 rfl rfl ?_
    refine zq_X1_2 h0 zw_53 dX1_moveThose_36 ?_
    refine zg_iconst (v := 1) dX1_moveThose_39 (by decide) ?_
    refine zg_isub dX1_moveThose_40 ?_
    refine zg_istore_nL (fun x1 => [(2, .int x1), (0, .ref (zb_ad G b0)), (1, .int l1)]) dX1_moveThose_41 rfl (by decide) (fun _ => rfl) (fun x1 => ?_)
    refine zg_sub [1, 2, 0] rfl ?_
    exact gX1_moveThose_42 N b0 h0 N S l1 x1
  · refine zg_iload_n 1 dX1_moveThose_16 rfl rfl ?_
    refine zg_iload_n 2 dX1_moveThose_17 rfl rfl ?_
    refine zg_callSI (As := [.int l1, .int l2]) (rest := []) 2 (zcX1_in N S l1 l2) (by decide) (by decide) zw_247 zw_157 zw_19 zw_158 (by decide +kernel) rfl rfl (Nat.le_of_ble_eq_true rfl) dX1_moveThose_18 (fun r3 S2 => ?_)
    refine zg_if_eq 29 dX1_moveThose_21 (by decide) ?_ ?_
    · exact gX1_moveThose_29 N b0 h0 k12 hk12 S2 l1 l2
    · refine zg_aload_n 0 dX1_moveThose_24 rfl rfl ?_
      refine zg_iload_n 2 dX1_moveThose_25 rfl rfl ?_
      refine zg_callVV (As := [.int l2]) (rest := []) 1 (zcX1_handOn N b0 h0 S2 l2) (by decide) (by decide) h0 (by decide) rfl zw_447 zw_448 zw_449 zw_19 zw_450 (by decide +kernel) rfl rfl (Nat.le_of_ble_eq_true rfl) dX1_moveThose_26 (fun S4 => ?_)
      exact gX1_moveThose_29 N b0 h0 k12 hk12 S4 l1 l2
def fX1_moveThose_12 (N : Nat) (b0 : Nat) : Nat → zb_S → Int32 → Int32 → Option (Unit × zb_S)
  | 0, _, _, _ => none
  | n + 1, S, l1, l2 => fX1_moveThose_12b N b0 (fX1_moveThose_12 N b0 n) S l1 l2
set_option maxHeartbeats 4000000 in
set_option maxRecDepth 100000 in
theorem gX1_moveThose_12 {l : Launch} {G : zb_G} (N : Nat) (b0 : Nat) (h0 : zb_kd b0 = 1) : ∀ (n : Nat) (S : zb_S) (l1 : Int32) (l2 : Int32), zb_Go zb_eV l G 2 RX1 cX1_moveThose 3 none 12 [(0, .ref (zb_ad G b0)), (1, .int l1), (2, .int l2)] [] S (fX1_moveThose_12 N b0 n S l1 l2) := by
  intro n
  induction n with
  | zero => intros; exact zg_none
  | succ n ih =>
    intro S l1 l2
    exact gX1_moveThose_12b N b0 h0 (fX1_moveThose_12 N b0 n) ih S l1 l2
def fX1_moveThose_0 (N : Nat) (b0 : Nat) (S : zb_S) (a1 : Int32) : Option (Unit × zb_S) :=
  zb_let (zb_pi S b0 5 0) (fun S1 : zb_S =>
  zb_let ((zb_i S1 b0 0) - 1) (fun x2 : Int32 =>
  fX1_moveThose_12 N b0 N S1 a1 x2))
set_option maxHeartbeats 4000000 in
set_option maxRecDepth 100000 in
theorem gX1_moveThose_0 {l : Launch} {G : zb_G} (N : Nat) (b0 : Nat) (h0 : zb_kd b0 = 1) (S : zb_S) (a1 : Int32) : zb_Go zb_eV l G 2 RX1 cX1_moveThose 3 none 0 [(0, .ref (zb_ad G b0)), (1, .int a1)] [] S (fX1_moveThose_0 N b0 S a1) := by
  unfold fX1_moveThose_0
  refine zg_aload_n 0 dX1_moveThose_0 rfl rfl ?_
  refine zg_iconst (v := 0) dX1_moveThose_1 (by decide) ?_
  refine zp_X1_5 h0 zw_56 dX1_moveThose_2 (fun S1 => ?_)
  refine zg_aload_n 0 dX1_moveThose_5 rfl rfl ?_
  refine zq_X1_0 h0 zw_51 dX1_moveThose_6 ?_
  refine zg_iconst (v := 1) dX1_moveThose_9 (by decide) ?_
  refine zg_isub dX1_moveThose_10 ?_
  refine zg_istore_nL (fun x2 => [(2, .int x2), (0, .ref (zb_ad G b0)), (1, .int a1)]) dX1_moveThose_11 rfl (by decide) (fun _ => rfl) (fun x2 => ?_)
  refine zg_sub [1, 2, 0] rfl ?_
  exact gX1_moveThose_12 N b0 h0 N S1 a1 x2
def fX1_moveThose (N : Nat) (b0 : Nat) (S : zb_S) (a1 : Int32) : Option (Unit × zb_S) := fX1_moveThose_0 N b0 S a1
theorem zcX1_moveThose {l : Launch} {G : zb_G} (N : Nat) (b0 : Nat) (h0 : zb_kd b0 = 1) (S : zb_S) (a1 : Int32) : zb_C zb_eV l G 2 yX1_moveThose cX1_moveThose 3 none [.ref (zb_ad G b0), .int a1] S (fX1_moveThose N b0 S a1) :=
  zb_C.of (by decide +kernel) rfl (Nat.le_of_ble_eq_true rfl) rfl (gX1_moveThose_0 N b0 h0 S a1)
-- X1_feedersOf
def fX1_feedersOf_21 (N : Nat) (b0 : Nat) (S : zb_S) (l1 : Int32) (s0 : Int32) : Option (Int32 × zb_S) :=
  if l1 = (zb_i S b0 3) then
    if (zb_i S b0 1) ≤ 0 then
      some (s0, S)
    else
      zb_let (s0 ||| (1 <<< (((zb_i S b0 2) - 1) &&& 31))) (fun x1 : Int32 =>
      some (x1, S))
  else
    some (s0, S)
set_option maxHeartbeats 4000000 in
set_option maxRecDepth 100000 in
theorem gX1_feedersOf_21 {l : Launch} {G : zb_G} (N : Nat) (b0 : Nat) (h0 : zb_kd b0 = 1) (S : zb_S) (l1 : Int32) (s0 : Int32) : zb_Go zb_eI l G 0 RX1 cX1_feedersOf 3 (some .int) 21 [(0, .ref (zb_ad G b0)), (1, .int l1)] [.int s0] S (fX1_feedersOf_21 N b0 S l1 s0) := by
  unfold fX1_feedersOf_21
  refine zg_istore_n (lv' := [(2, .int s0), (0, .ref (zb_ad G b0)), (1, .int l1)]) dX1_feedersOf_21 rfl (by decide) rfl ?_
  refine zg_iload_n 2 dX1_feedersOf_22 rfl rfl ?_
  refine zg_aload_n 1 dX1_feedersOf_23 rfl rfl ?_
  refine zq_X1_3 h0 zw_54 dX1_feedersOf_24 ?_
  refine zg_icmp_ne 48 dX1_feedersOf_27 (by decide) ?_ ?_
  · refine zg_iload_n 0 dX1_feedersOf_48 rfl rfl ?_
    exact zg_iret rfl dX1_feedersOf_49
  · refine zg_aload_n 1 dX1_feedersOf_30 rfl rfl ?_
    refine zq_X1_1 h0 zw_52 dX1_feedersOf_31 ?_
    refine zg_if_le 48 dX1_feedersOf_34 (by decide) ?_ ?_
    · refine zg_iload_n 0 dX1_feedersOf_48 rfl rfl ?_
      exact zg_iret rfl dX1_feedersOf_49
    · refine zg_iload_n 0 dX1_feedersOf_37 rfl rfl ?_
      refine zg_iconst (v := 1) dX1_feedersOf_38 (by decide) ?_
      refine zg_aload_n 1 dX1_feedersOf_39 rfl rfl ?_
      refine zq_X1_2 h0 zw_53 dX1_feedersOf_40 ?_
      refine zg_iconst (v := 1) dX1_feedersOf_43 (by decide) ?_
      refine zg_isub dX1_feedersOf_44 ?_
      refine zg_ishl dX1_feedersOf_45 ?_
      refine zg_ior dX1_feedersOf_46 ?_
      refine zg_istore_nL (fun x1 => [(2, .int x1), (0, .ref (zb_ad G b0)), (1, .int l1)]) dX1_feedersOf_47 rfl (by decide) (fun _ => rfl) (fun x1 => ?_)
      refine zg_iload_n 0 dX1_feedersOf_48 rfl rfl ?_
      exact zg_iret rfl dX1_feedersOf_49
def fX1_feedersOf_12 (N : Nat) (b0 : Nat) (S : zb_S) (l1 : Int32) : Option (Int32 × zb_S) :=
  fX1_feedersOf_21 N b0 S l1 0
set_option maxHeartbeats 4000000 in
set_option maxRecDepth 100000 in
theorem gX1_feedersOf_12 {l : Launch} {G : zb_G} (N : Nat) (b0 : Nat) (h0 : zb_kd b0 = 1) (S : zb_S) (l1 : Int32) : zb_Go zb_eI l G 0 RX1 cX1_feedersOf 3 (some .int) 12 [(0, .ref (zb_ad G b0)), (1, .int l1)] [] S (fX1_feedersOf_12 N b0 S l1) := by
  unfold fX1_feedersOf_12
  refine zg_iconst (v := 0) dX1_feedersOf_12 (by decide) ?_
  refine zg_goto (tgt := 21) dX1_feedersOf_13 (by decide) ?_
  exact gX1_feedersOf_21 N b0 h0 S l1 0
def fX1_feedersOf_0 (N : Nat) (b0 : Nat) (S : zb_S) (a1 : Int32) : Option (Int32 × zb_S) :=
  if a1 = 0 then
    fX1_feedersOf_12 N b0 S a1
  else
    if a1 = (zb_i S b0 0) then
      fX1_feedersOf_12 N b0 S a1
    else
      fX1_feedersOf_21 N b0 S a1 (1 <<< ((a1 - 1) &&& 31))
set_option maxHeartbeats 4000000 in
set_option maxRecDepth 100000 in
theorem gX1_feedersOf_0 {l : Launch} {G : zb_G} (N : Nat) (b0 : Nat) (h0 : zb_kd b0 = 1) (S : zb_S) (a1 : Int32) : zb_Go zb_eI l G 0 RX1 cX1_feedersOf 3 (some .int) 0 [(0, .ref (zb_ad G b0)), (1, .int a1)] [] S (fX1_feedersOf_0 N b0 S a1) := by
  unfold fX1_feedersOf_0
  refine zg_iload_n 1 dX1_feedersOf_0 rfl rfl ?_
  refine zg_if_eq 12 dX1_feedersOf_1 (by decide) ?_ ?_
  · exact gX1_feedersOf_12 N b0 h0 S a1
  · refine zg_iload_n 1 dX1_feedersOf_4 rfl rfl ?_
    refine zg_aload_n 0 dX1_feedersOf_5 rfl rfl ?_
    refine zq_X1_0 h0 zw_51 dX1_feedersOf_6 ?_
    refine zg_icmp_ne 16 dX1_feedersOf_9 (by decide) ?_ ?_
    · refine zg_iconst (v := 1) dX1_feedersOf_16 (by decide) ?_
      refine zg_iload_n 1 dX1_feedersOf_17 rfl rfl ?_
      refine zg_iconst (v := 1) dX1_feedersOf_18 (by decide) ?_
      refine zg_isub dX1_feedersOf_19 ?_
      refine zg_ishl dX1_feedersOf_20 ?_
      exact gX1_feedersOf_21 N b0 h0 S a1 (1 <<< ((a1 - 1) &&& 31))
    · exact gX1_feedersOf_12 N b0 h0 S a1
def fX1_feedersOf (N : Nat) (b0 : Nat) (S : zb_S) (a1 : Int32) : Option (Int32 × zb_S) := fX1_feedersOf_0 N b0 S a1
theorem zcX1_feedersOf {l : Launch} {G : zb_G} (N : Nat) (b0 : Nat) (h0 : zb_kd b0 = 1) (S : zb_S) (a1 : Int32) : zb_C zb_eI l G 0 yX1_feedersOf cX1_feedersOf 3 (some .int) [.ref (zb_ad G b0), .int a1] S (fX1_feedersOf N b0 S a1) :=
  zb_C.of (by decide +kernel) rfl (Nat.le_of_ble_eq_true rfl) rfl (gX1_feedersOf_0 N b0 h0 S a1)
-- X1_tellIdle
def fX1_tellIdle_97 (N : Nat) (b0 : Nat) (k7 : zb_S → Int32 → Int32 → Option (Unit × zb_S)) (S : zb_S) (l1 : Int32) (l2 : Int32) : Option (Unit × zb_S) :=
  zb_let (l2 + 1) (fun x1 : Int32 =>
  k7 S l1 x1)
set_option maxHeartbeats 4000000 in
set_option maxRecDepth 100000 in
theorem gX1_tellIdle_97 {l : Launch} {G : zb_G} (N : Nat) (b0 : Nat) (h0 : zb_kd b0 = 1) (k7 : zb_S → Int32 → Int32 → Option (Unit × zb_S)) (hk7 : ∀ (S : zb_S) (l1 : Int32) (l2 : Int32), zb_Go zb_eV l G 2 RX1 cX1_tellIdle 3 none 7 [(0, .ref (zb_ad G b0)), (1, .int l1), (2, .int l2)] [] S (k7 S l1 l2)) (S : zb_S) (l1 : Int32) (l2 : Int32) : zb_Go zb_eV l G 2 RX1 cX1_tellIdle 3 none 97 [(0, .ref (zb_ad G b0)), (1, .int l1), (2, .int l2)] [] S (fX1_tellIdle_97 N b0 k7 S l1 l2) := by
  unfold fX1_tellIdle_97
  refine zg_iincL (fun x1 => [(2, .int x1), (0, .ref (zb_ad G b0)), (1, .int l1)]) 2 dX1_tellIdle_97 rfl rfl (by decide) (fun _ => rfl) (fun x1 => ?_)
  refine zg_goto (tgt := 7) dX1_tellIdle_100 (by decide) ?_
  refine zg_sub [1, 2, 0] rfl ?_
  exact hk7 S l1 x1
def fX1_tellIdle_7b (N : Nat) (b0 : Nat) (k7 : zb_S → Int32 → Int32 → Option (Unit × zb_S)) (S : zb_S) (l1 : Int32) (l2 : Int32) : Option (Unit × zb_S) :=
  if (zb_i S b0 2) ≤ l2 then
    some ((), S)
  else
    zb_bind (fX1_feedersOf N b0 S l2) (fun r2 S1 =>
    if (l1 &&& ((1 <<< (l2 &&& 31)) ||| r2)) = 0 then
      if zb_in (24 + l2) (zb_sz (b0 + 1)) then
      if zb_in (24 + l2) (zb_sz (b0 + 1)) then zb_let (zb_pa S1 (b0 + 1) (Int32.toNatClampNeg (24 + l2)) ((zb_a S1 (b0 + 1) (Int32.toNatClampNeg (24 + l2))) + 1)) (fun S3 : zb_S =>
      if zb_in 52 (zb_sz (b0 + 1)) then
      if (zb_a S3 (b0 + 1) (Int32.toNatClampNeg 52)) ≤ 0 then
        fX1_tellIdle_97 N b0 k7 S3 l1 l2
      else
        if zb_in (24 + l2) (zb_sz (b0 + 1)) then
        if zb_in 52 (zb_sz (b0 + 1)) then
        if (zb_a S3 (b0 + 1) (Int32.toNatClampNeg (24 + l2))) < (zb_a S3 (b0 + 1) (Int32.toNatClampNeg 52)) then
          fX1_tellIdle_97 N b0 k7 S3 l1 l2
        else
          if zb_in 49 (zb_sz (b0 + 1)) then
          if zb_in 49 (zb_sz (b0 + 1)) then zb_let (zb_pa S3 (b0 + 1) (Int32.toNatClampNeg 49) ((zb_a S3 (b0 + 1) (Int32.toNatClampNeg 49)) ||| (1 <<< (l2 &&& 31)))) (fun S4 : zb_S =>
          fX1_tellIdle_97 N b0 k7 S4 l1 l2) else none else none else none else none else none) else none else none
    else
      if zb_in (24 + l2) (zb_sz (b0 + 1)) then zb_let (zb_pa S1 (b0 + 1) (Int32.toNatClampNeg (24 + l2)) 0) (fun S5 : zb_S =>
      fX1_tellIdle_97 N b0 k7 S5 l1 l2) else none)
set_option maxHeartbeats 4000000 in
set_option maxRecDepth 100000 in
theorem gX1_tellIdle_7b {l : Launch} {G : zb_G} (N : Nat) (b0 : Nat) (h0 : zb_kd b0 = 1) (k7 : zb_S → Int32 → Int32 → Option (Unit × zb_S)) (hk7 : ∀ (S : zb_S) (l1 : Int32) (l2 : Int32), zb_Go zb_eV l G 2 RX1 cX1_tellIdle 3 none 7 [(0, .ref (zb_ad G b0)), (1, .int l1), (2, .int l2)] [] S (k7 S l1 l2)) (S : zb_S) (l1 : Int32) (l2 : Int32) : zb_Go zb_eV l G 2 RX1 cX1_tellIdle 3 none 7 [(0, .ref (zb_ad G b0)), (1, .int l1), (2, .int l2)] [] S (fX1_tellIdle_7b N b0 k7 S l1 l2) := by
  unfold fX1_tellIdle_7b
  refine zg_iload_n 2 dX1_tellIdle_7 rfl rfl ?_
  refine zg_aload_n 0 dX1_tellIdle_8 rfl rfl ?_
  refine zq_X1_2 h0 zw_53 dX1_tellIdle_9 ?_
  refine zg_icmp_ge 103 dX1_tellIdle_12 (by decide) ?_ ?_
  · exact zg_vret rfl dX1_tellIdle_103
  · refine zg_iload_n 1 dX1_tellIdle_15 rfl rfl ?_
    refine zg_iconst (v := 1) dX1_tellIdle_16 (by decide) ?_
    refine zg_iload_n 2 dX1_tellIdle_17 rfl rfl ?_
    refine zg_ishl dX1_tellIdle_18 ?_
    refine zg_aload_n 0 dX1_tellIdle_19 rfl rfl ?_
    refine zg_iload_n 2 dX1_tellIdle_20 rfl rfl ?_
    refine zg_callVI (As := [.int l2]) (rest := [.int (1 <<< (l2 &&& 31)), .int l1]) 1 (zcX1_feedersOf N b0 h0 S l2) (by decide) (by decide) h0 (by decide) rfl zw_455 zw_456 zw_457 zw_19 zw_458 (by decide +kernel) rfl rfl (Nat.le_of_ble_eq_true rfl) dX1_tellIdle_21 (fun r2 S1 => ?_)
    refine zg_ior dX1_tellIdle_24 ?_
    refine zg_iand dX1_tellIdle_25 ?_
    refine zg_if_eq 42 dX1_tellIdle_26 (by decide) ?_ ?_
    · refine zg_aload_n 0 dX1_tellIdle_42 rfl rfl ?_
      refine zq_X1_4 h0 (zk_X1_4 h0).1 zw_55 dX1_tellIdle_43 ?_
      refine zg_bipush (v := 24) dX1_tellIdle_46 (by decide) ?_
      refine zg_iload_n 2 dX1_tellIdle_48 rfl rfl ?_
      refine zg_iadd dX1_tellIdle_49 ?_
      refine zg_dup2 dX1_tellIdle_50 rfl rfl ?_
      refine zg_iald (zk_X1_4 h0).2.1 dX1_tellIdle_51 ?_
      refine zg_iconst (v := 1) dX1_tellIdle_52 (by decide) ?_
      refine zg_iadd dX1_tellIdle_53 ?_
      refine zg_iast (zk_X1_4 h0).2.1 dX1_tellIdle_54 (fun S3 => ?_)
      refine zg_aload_n 0 dX1_tellIdle_55 rfl rfl ?_
      refine zq_X1_4 h0 (zk_X1_4 h0).1 zw_55 dX1_tellIdle_56 ?_
      refine zg_bipush (v := 52) dX1_tellIdle_59 (by decide) ?_
      refine zg_iald (zk_X1_4 h0).2.1 dX1_tellIdle_61 ?_
      refine zg_if_le 97 dX1_tellIdle_62 (by decide) ?_ ?_
      · exact gX1_tellIdle_97 N b0 h0 k7 hk7 S3 l1 l2
      · refine zg_aload_n 0 dX1_tellIdle_65 rfl rfl ?_
        refine zq_X1_4 h0 (zk_X1_4 h0).1 zw_55 dX1_tellIdle_66 ?_
        refine zg_bipush (v := 24) dX1_tellIdle_69 (by decide) ?_
        refine zg_iload_n 2 dX1_tellIdle_71 rfl rfl ?_
        refine zg_iadd dX1_tellIdle_72 ?_
        refine zg_iald (zk_X1_4 h0).2.1 dX1_tellIdle_73 ?_
        refine zg_aload_n 0 dX1_tellIdle_74 rfl rfl ?_
        refine zq_X1_4 h0 (zk_X1_4 h0).1 zw_55 dX1_tellIdle_75 ?_
        refine zg_bipush (v := 52) dX1_tellIdle_78 (by decide) ?_
        refine zg_iald (zk_X1_4 h0).2.1 dX1_tellIdle_80 ?_
        refine zg_icmp_lt 97 dX1_tellIdle_81 (by decide) ?_ ?_
        · exact gX1_tellIdle_97 N b0 h0 k7 hk7 S3 l1 l2
        · refine zg_aload_n 0 dX1_tellIdle_84 rfl rfl ?_
          refine zq_X1_4 h0 (zk_X1_4 h0).1 zw_55 dX1_tellIdle_85 ?_
          refine zg_bipush (v := 49) dX1_tellIdle_88 (by decide) ?_
          refine zg_dup2 dX1_tellIdle_90 rfl rfl ?_
          refine zg_iald (zk_X1_4 h0).2.1 dX1_tellIdle_91 ?_
          refine zg_iconst (v := 1) dX1_tellIdle_92 (by decide) ?_
          refine zg_iload_n 2 dX1_tellIdle_93 rfl rfl ?_
          refine zg_ishl dX1_tellIdle_94 ?_
          refine zg_ior dX1_tellIdle_95 ?_
          refine zg_iast (zk_X1_4 h0).2.1 dX1_tellIdle_96 (fun S4 => ?_)
          exact gX1_tellIdle_97 N b0 h0 k7 hk7 S4 l1 l2
    · refine zg_aload_n 0 dX1_tellIdle_29 rfl rfl ?_
      refine zq_X1_4 h0 (zk_X1_4 h0).1 zw_55 dX1_tellIdle_30 ?_
      refine zg_bipush (v := 24) dX1_tellIdle_33 (by decide) ?_
      refine zg_iload_n 2 dX1_tellIdle_35 rfl rfl ?_
      refine zg_iadd dX1_tellIdle_36 ?_
      refine zg_iconst (v := 0) dX1_tellIdle_37 (by decide) ?_
      refine zg_iast (zk_X1_4 h0).2.1 dX1_tellIdle_38 (fun S5 => ?_)
      refine zg_goto (tgt := 97) dX1_tellIdle_39 (by decide) ?_
      exact gX1_tellIdle_97 N b0 h0 k7 hk7 S5 l1 l2
def fX1_tellIdle_7 (N : Nat) (b0 : Nat) : Nat → zb_S → Int32 → Int32 → Option (Unit × zb_S)
  | 0, _, _, _ => none
  | n + 1, S, l1, l2 => fX1_tellIdle_7b N b0 (fX1_tellIdle_7 N b0 n) S l1 l2
set_option maxHeartbeats 4000000 in
set_option maxRecDepth 100000 in
theorem gX1_tellIdle_7 {l : Launch} {G : zb_G} (N : Nat) (b0 : Nat) (h0 : zb_kd b0 = 1) : ∀ (n : Nat) (S : zb_S) (l1 : Int32) (l2 : Int32), zb_Go zb_eV l G 2 RX1 cX1_tellIdle 3 none 7 [(0, .ref (zb_ad G b0)), (1, .int l1), (2, .int l2)] [] S (fX1_tellIdle_7 N b0 n S l1 l2) := by
  intro n
  induction n with
  | zero => intros; exact zg_none
  | succ n ih =>
    intro S l1 l2
    exact gX1_tellIdle_7b N b0 h0 (fX1_tellIdle_7 N b0 n) ih S l1 l2
def fX1_tellIdle_0 (N : Nat) (b0 : Nat) (S : zb_S) : Option (Unit × zb_S) :=
  zb_bind (fX1_seeing N b0 S) (fun r2 S1 =>
  fX1_tellIdle_7 N b0 N S1 r2 0)
set_option maxHeartbeats 4000000 in
set_option maxRecDepth 100000 in
theorem gX1_tellIdle_0 {l : Launch} {G : zb_G} (N : Nat) (b0 : Nat) (h0 : zb_kd b0 = 1) (S : zb_S) : zb_Go zb_eV l G 2 RX1 cX1_tellIdle 3 none 0 [(0, .ref (zb_ad G b0))] [] S (fX1_tellIdle_0 N b0 S) := by
  unfold fX1_tellIdle_0
  refine zg_aload_n 0 dX1_tellIdle_0 rfl rfl ?_
  refine zg_callVI (As := []) (rest := []) 0 (zcX1_seeing N b0 h0 S) (by decide) (by decide) h0 (by decide) rfl zw_410 zw_238 zw_239 zw_19 zw_240 (by decide +kernel) rfl rfl (Nat.le_of_ble_eq_true rfl) dX1_tellIdle_1 (fun r2 S1 => ?_)
  refine zg_istore_n (lv' := [(1, .int r2), (0, .ref (zb_ad G b0))]) dX1_tellIdle_4 rfl (by decide) rfl ?_
  refine zg_iconst (v := 0) dX1_tellIdle_5 (by decide) ?_
  refine zg_istore_n (lv' := [(2, .int 0), (1, .int r2), (0, .ref (zb_ad G b0))]) dX1_tellIdle_6 rfl (by decide) rfl ?_
  refine zg_sub [2, 1, 0] rfl ?_
  exact gX1_tellIdle_7 N b0 h0 N S1 r2 0
def fX1_tellIdle (N : Nat) (b0 : Nat) (S : zb_S) : Option (Unit × zb_S) := fX1_tellIdle_0 N b0 S
theorem zcX1_tellIdle {l : Launch} {G : zb_G} (N : Nat) (b0 : Nat) (h0 : zb_kd b0 = 1) (S : zb_S) : zb_C zb_eV l G 2 yX1_tellIdle cX1_tellIdle 3 none [.ref (zb_ad G b0)] S (fX1_tellIdle N b0 S) :=
  zb_C.of (by decide +kernel) rfl (Nat.le_of_ble_eq_true rfl) rfl (gX1_tellIdle_0 N b0 h0 S)
-- X1_advanceOnce
def fX1_advanceOnce_0 (N : Nat) (b0 : Nat) (S : zb_S) : Option (Unit × zb_S) :=
  zb_bind (fX1_seeing N b0 S) (fun r2 S1 =>
  if zb_in 49 (zb_sz (b0 + 1)) then
  zb_let (zb_a S1 (b0 + 1) (Int32.toNatClampNeg 49)) (fun x3 : Int32 =>
  if zb_in 48 (zb_sz (b0 + 1)) then
  zb_let ((r2 &&& ((zb_a S1 (b0 + 1) (Int32.toNatClampNeg 48)) ^^^ (-1))) &&& (x3 ^^^ (-1))) (fun x4 : Int32 =>
  zb_bind (fX1_behindThose N b0 S1 x4) (fun r6 S5 =>
  if zb_in 49 (zb_sz (b0 + 1)) then zb_let (zb_pa S5 (b0 + 1) (Int32.toNatClampNeg 49) ((x3 &&& (r2 ^^^ (-1))) &&& (r6 ^^^ (-1)))) (fun S7 : zb_S =>
  zb_bind (fX1_giveTickets N b0 S7 x4) (fun _ S8 =>
  zb_bind (fX1_yielding N b0 S8 x4) (fun r11 S10 =>
  zb_bind (fX1_settle N b0 S10 (x4 &&& (r11 ^^^ (-1))) ((r2 ^^^ (-1)) &&& (x3 ^^^ (-1)))) (fun r13 S12 =>
  zb_bind (fX1_moveThose N b0 S12 r13) (fun _ S14 =>
  zb_bind (fX1_tellIdle N b0 S14) (fun _ S16 =>
  if zb_in 56 (zb_sz (b0 + 1)) then
  if zb_in 56 (zb_sz (b0 + 1)) then zb_let (zb_pa S16 (b0 + 1) (Int32.toNatClampNeg 56) ((zb_a S16 (b0 + 1) (Int32.toNatClampNeg 56)) + 1)) (fun S18 : zb_S =>
  some ((), S18)) else none else none)))))) else none)) else none) else none)
set_option maxHeartbeats 4000000 in
set_option maxRecDepth 100000 in
theorem gX1_advanceOnce_0 {l : Launch} {G : zb_G} (N : Nat) (b0 : Nat) (h0 : zb_kd b0 = 1) (S : zb_S) : zb_Go zb_eV l G 3 RX1 cX1_advanceOnce 4 none 0 [(0, .ref (zb_ad G b0))] [] S (fX1_advanceOnce_0 N b0 S) := by
  unfold fX1_advanceOnce_0
  refine zg_aload_n 0 dX1_advanceOnce_0 rfl rfl ?_
  refine zg_callVI (As := []) (rest := []) 0 (zcX1_seeing N b0 h0 S) (by decide) (by decide) h0 (by decide) rfl zw_410 zw_238 zw_239 zw_19 zw_240 (by decide +kernel) rfl rfl (Nat.le_of_ble_eq_true rfl) dX1_advanceOnce_1 (fun r2 S1 => ?_)
  refine zg_istore_n (lv' := [(1, .int r2), (0, .ref (zb_ad G b0))]) dX1_advanceOnce_4 rfl (by decide) rfl ?_
  refine zg_aload_n 1 dX1_advanceOnce_5 rfl rfl ?_
  refine zq_X1_4 h0 (zk_X1_4 h0).1 zw_55 dX1_advanceOnce_6 ?_
  refine zg_bipush (v := 49) dX1_advanceOnce_9 (by decide) ?_
  refine zg_iald (zk_X1_4 h0).2.1 dX1_advanceOnce_11 ?_
  refine zg_istore_nL (fun x3 => [(2, .int x3), (1, .int r2), (0, .ref (zb_ad G b0))]) dX1_advanceOnce_12 rfl (by decide) (fun _ => rfl) (fun x3 => ?_)
  refine zg_iload_n 1 dX1_advanceOnce_13 rfl rfl ?_
  refine zg_aload_n 2 dX1_advanceOnce_14 rfl rfl ?_
  refine zq_X1_4 h0 (zk_X1_4 h0).1 zw_55 dX1_advanceOnce_15 ?_
  refine zg_bipush (v := 48) dX1_advanceOnce_18 (by decide) ?_
  refine zg_iald (zk_X1_4 h0).2.1 dX1_advanceOnce_20 ?_
  refine zg_iconst (v := (-1)) dX1_advanceOnce_21 (by decide) ?_
  refine zg_ixor dX1_advanceOnce_22 ?_
  refine zg_iand dX1_advanceOnce_23 ?_
  refine zg_iload_n 0 dX1_advanceOnce_24 rfl rfl ?_
  refine zg_iconst (v := (-1)) dX1_advanceOnce_25 (by decide) ?_
  refine zg_ixor dX1_advanceOnce_26 ?_
  refine zg_iand dX1_advanceOnce_27 ?_
  refine zg_istore_nL (fun x4 => [(3, .int x4), (2, .int x3), (1, .int r2), (0, .ref (zb_ad G b0))]) dX1_advanceOnce_28 rfl (by decide) (fun _ => rfl) (fun x4 => ?_)
  refine zg_aload_n 3 dX1_advanceOnce_29 rfl rfl ?_
  refine zq_X1_4 h0 (zk_X1_4 h0).1 zw_55 dX1_advanceOnce_30 ?_
  refine zg_bipush (v := 49) dX1_advanceOnce_33 (by decide) ?_
  refine zg_iload_n 1 dX1_advanceOnce_35 rfl rfl ?_
  refine zg_iload_n 2 dX1_advanceOnce_36 rfl rfl ?_
  refine zg_iconst (v := (-1)) dX1_advanceOnce_37 (by decide) ?_
  refine zg_ixor dX1_advanceOnce_38 ?_
  refine zg_iand dX1_advanceOnce_39 ?_
  refine zg_aload_n 3 dX1_advanceOnce_40 rfl rfl ?_
  refine zg_iload_n 0 dX1_advanceOnce_41 rfl rfl ?_
  refine zg_callVI (As := [.int x4]) (rest := [.int (x3 &&& (r2 ^^^ (-1))), .int 49, .ref (zb_ad G (b0 + 1))]) 1 (zcX1_behindThose N b0 h0 S1 x4) (by decide) (by decide) h0 (by decide) rfl zw_411 zw_412 zw_413 zw_19 zw_414 (by decide +kernel) rfl rfl (Nat.le_of_ble_eq_true rfl) dX1_advanceOnce_42 (fun r6 S5 => ?_)
  refine zg_iconst (v := (-1)) dX1_advanceOnce_45 (by decide) ?_
  refine zg_ixor dX1_advanceOnce_46 ?_
  refine zg_iand dX1_advanceOnce_47 ?_
  refine zg_iast (zk_X1_4 h0).2.1 dX1_advanceOnce_48 (fun S7 => ?_)
  refine zg_aload_n 3 dX1_advanceOnce_49 rfl rfl ?_
  refine zg_iload_n 0 dX1_advanceOnce_50 rfl rfl ?_
  refine zg_callVV (As := [.int x4]) (rest := []) 1 (zcX1_giveTickets N b0 h0 S7 x4) (by decide) (by decide) h0 (by decide) rfl zw_419 zw_420 zw_421 zw_19 zw_422 (by decide +kernel) rfl rfl (Nat.le_of_ble_eq_true rfl) dX1_advanceOnce_51 (fun S8 => ?_)
  refine zg_aload_n 3 dX1_advanceOnce_54 rfl rfl ?_
  refine zg_aload_n 3 dX1_advanceOnce_55 rfl rfl ?_
  refine zg_iload_n 0 dX1_advanceOnce_56 rfl rfl ?_
  refine zg_aload_n 3 dX1_advanceOnce_57 rfl rfl ?_
  refine zg_iload_n 0 dX1_advanceOnce_58 rfl rfl ?_
  refine zg_callVI (As := [.int x4]) (rest := [.int x4, .ref (zb_ad G b0), .ref (zb_ad G b0)]) 1 (zcX1_yielding N b0 h0 S8 x4) (by decide) (by decide) h0 (by decide) rfl zw_427 zw_428 zw_429 zw_19 zw_430 (by decide +kernel) rfl rfl (Nat.le_of_ble_eq_true rfl) dX1_advanceOnce_59 (fun r11 S10 => ?_)
  refine zg_iconst (v := (-1)) dX1_advanceOnce_62 (by decide) ?_
  refine zg_ixor dX1_advanceOnce_63 ?_
  refine zg_iand dX1_advanceOnce_64 ?_
  refine zg_iload_n 2 dX1_advanceOnce_65 rfl rfl ?_
  refine zg_iconst (v := (-1)) dX1_advanceOnce_66 (by decide) ?_
  refine zg_ixor dX1_advanceOnce_67 ?_
  refine zg_iload_n 1 dX1_advanceOnce_68 rfl rfl ?_
  refine zg_iconst (v := (-1)) dX1_advanceOnce_69 (by decide) ?_
  refine zg_ixor dX1_advanceOnce_70 ?_
  refine zg_iand dX1_advanceOnce_71 ?_
  refine zg_callVI (As := [.int (x4 &&& (r11 ^^^ (-1))), .int ((r2 ^^^ (-1)) &&& (x3 ^^^ (-1)))]) (rest := [.ref (zb_ad G b0)]) 2 (zcX1_settle N b0 h0 S10 (x4 &&& (r11 ^^^ (-1))) ((r2 ^^^ (-1)) &&& (x3 ^^^ (-1)))) (by decide) (by decide) h0 (by decide) rfl zw_431 zw_432 zw_433 zw_19 zw_434 (by decide +kernel) rfl rfl (Nat.le_of_ble_eq_true rfl) dX1_advanceOnce_72 (fun r13 S12 => ?_)
  refine zg_callVV (As := [.int r13]) (rest := []) 1 (zcX1_moveThose N b0 h0 S12 r13) (by decide) (by decide) h0 (by decide) rfl zw_443 zw_444 zw_445 zw_19 zw_446 (by decide +kernel) rfl rfl (Nat.le_of_ble_eq_true rfl) dX1_advanceOnce_75 (fun S14 => ?_)
  refine zg_aload_n 3 dX1_advanceOnce_78 rfl rfl ?_
  refine zg_callVV (As := []) (rest := []) 0 (zcX1_tellIdle N b0 h0 S14) (by decide) (by decide) h0 (by decide) rfl zw_451 zw_452 zw_453 zw_19 zw_454 (by decide +kernel) rfl rfl (Nat.le_of_ble_eq_true rfl) dX1_advanceOnce_79 (fun S16 => ?_)
  refine zg_aload_n 3 dX1_advanceOnce_82 rfl rfl ?_
  refine zq_X1_4 h0 (zk_X1_4 h0).1 zw_55 dX1_advanceOnce_83 ?_
  refine zg_bipush (v := 56) dX1_advanceOnce_86 (by decide) ?_
  refine zg_dup2 dX1_advanceOnce_88 rfl rfl ?_
  refine zg_iald (zk_X1_4 h0).2.1 dX1_advanceOnce_89 ?_
  refine zg_iconst (v := 1) dX1_advanceOnce_90 (by decide) ?_
  refine zg_iadd dX1_advanceOnce_91 ?_
  refine zg_iast (zk_X1_4 h0).2.1 dX1_advanceOnce_92 (fun S18 => ?_)
  exact zg_vret rfl dX1_advanceOnce_93
def fX1_advanceOnce (N : Nat) (b0 : Nat) (S : zb_S) : Option (Unit × zb_S) := fX1_advanceOnce_0 N b0 S
theorem zcX1_advanceOnce {l : Launch} {G : zb_G} (N : Nat) (b0 : Nat) (h0 : zb_kd b0 = 1) (S : zb_S) : zb_C zb_eV l G 3 yX1_advanceOnce cX1_advanceOnce 4 none [.ref (zb_ad G b0)] S (fX1_advanceOnce N b0 S) :=
  zb_C.of (by decide +kernel) rfl (Nat.le_of_ble_eq_true rfl) rfl (gX1_advanceOnce_0 N b0 h0 S)
-- X1_advance
def fX1_advance_2b (N : Nat) (b0 : Nat) (k2 : zb_S → Int32 → Int32 → Option (Unit × zb_S)) (S : zb_S) (l1 : Int32) (l2 : Int32) : Option (Unit × zb_S) :=
  if l1 ≤ l2 then
    some ((), S)
  else
    if 99 ≤ l2 then
      some ((), S)
    else
      zb_bind (fX1_advanceOnce N b0 S) (fun _ S1 =>
      zb_let (l2 + 1) (fun x3 : Int32 =>
      k2 S1 l1 x3))
set_option maxHeartbeats 4000000 in
set_option maxRecDepth 100000 in
theorem gX1_advance_2b {l : Launch} {G : zb_G} (N : Nat) (b0 : Nat) (h0 : zb_kd b0 = 1) (k2 : zb_S → Int32 → Int32 → Option (Unit × zb_S)) (hk2 : ∀ (S : zb_S) (l1 : Int32) (l2 : Int32), zb_Go zb_eV l G 4 RX1 cX1_advance 3 none 2 [(0, .ref (zb_ad G b0)), (1, .int l1), (2, .int l2)] [] S (k2 S l1 l2)) (S : zb_S) (l1 : Int32) (l2 : Int32) : zb_Go zb_eV l G 4 RX1 cX1_advance 3 none 2 [(0, .ref (zb_ad G b0)), (1, .int l1), (2, .int l2)] [] S (fX1_advance_2b N b0 k2 S l1 l2) := by
  unfold fX1_advance_2b
  refine zg_iload_n 2 dX1_advance_2 rfl rfl ?_
  refine zg_iload_n 1 dX1_advance_3 rfl rfl ?_
  refine zg_icmp_ge 23 dX1_advance_4 (by decide) ?_ ?_
  · exact zg_vret rfl dX1_advance_23
  · refine zg_iload_n 2 dX1_advance_7 rfl rfl ?_
    refine zg_bipush (v := 99) dX1_advance_8 (by decide) ?_
    refine zg_icmp_ge 23 dX1_advance_10 (by decide) ?_ ?_
    · exact zg_vret rfl dX1_advance_23
    · refine zg_aload_n 0 dX1_advance_13 rfl rfl ?_
      refine zg_callVV (As := []) (rest := []) 0 (zcX1_advanceOnce N b0 h0 S) (by decide) (by decide) h0 (by decide) rfl zw_406 zw_407 zw_408 zw_19 zw_409 (by decide +kernel) rfl rfl (Nat.le_of_ble_eq_true rfl) dX1_advance_14 (fun S1 => ?_)
      refine zg_iincL (fun x3 => [(2, .int x3), (0, .ref (zb_ad G b0)), (1, .int l1)]) 2 dX1_advance_17 rfl rfl (by decide) (fun _ => rfl) (fun x3 => ?_)
      refine zg_goto (tgt := 2) dX1_advance_20 (by decide) ?_
      refine zg_sub [1, 2, 0] rfl ?_
      exact hk2 S1 l1 x3
def fX1_advance_2 (N : Nat) (b0 : Nat) : Nat → zb_S → Int32 → Int32 → Option (Unit × zb_S)
  | 0, _, _, _ => none
  | n + 1, S, l1, l2 => fX1_advance_2b N b0 (fX1_advance_2 N b0 n) S l1 l2
set_option maxHeartbeats 4000000 in
set_option maxRecDepth 100000 in
theorem gX1_advance_2 {l : Launch} {G : zb_G} (N : Nat) (b0 : Nat) (h0 : zb_kd b0 = 1) : ∀ (n : Nat) (S : zb_S) (l1 : Int32) (l2 : Int32), zb_Go zb_eV l G 4 RX1 cX1_advance 3 none 2 [(0, .ref (zb_ad G b0)), (1, .int l1), (2, .int l2)] [] S (fX1_advance_2 N b0 n S l1 l2) := by
  intro n
  induction n with
  | zero => intros; exact zg_none
  | succ n ih =>
    intro S l1 l2
    exact gX1_advance_2b N b0 h0 (fX1_advance_2 N b0 n) ih S l1 l2
def fX1_advance_0 (N : Nat) (b0 : Nat) (S : zb_S) (a1 : Int32) : Option (Unit × zb_S) :=
  fX1_advance_2 N b0 N S a1 0
set_option maxHeartbeats 4000000 in
set_option maxRecDepth 100000 in
theorem gX1_advance_0 {l : Launch} {G : zb_G} (N : Nat) (b0 : Nat) (h0 : zb_kd b0 = 1) (S : zb_S) (a1 : Int32) : zb_Go zb_eV l G 4 RX1 cX1_advance 3 none 0 [(0, .ref (zb_ad G b0)), (1, .int a1)] [] S (fX1_advance_0 N b0 S a1) := by
  unfold fX1_advance_0
  refine zg_iconst (v := 0) dX1_advance_0 (by decide) ?_
  refine zg_istore_n (lv' := [(2, .int 0), (0, .ref (zb_ad G b0)), (1, .int a1)]) dX1_advance_1 rfl (by decide) rfl ?_
  refine zg_sub [1, 2, 0] rfl ?_
  exact gX1_advance_2 N b0 h0 N S a1 0
def fX1_advance (N : Nat) (b0 : Nat) (S : zb_S) (a1 : Int32) : Option (Unit × zb_S) := fX1_advance_0 N b0 S a1
theorem zcX1_advance {l : Launch} {G : zb_G} (N : Nat) (b0 : Nat) (h0 : zb_kd b0 = 1) (S : zb_S) (a1 : Int32) : zb_C zb_eV l G 4 yX1_advance cX1_advance 3 none [.ref (zb_ad G b0), .int a1] S (fX1_advance N b0 S a1) :=
  zb_C.of (by decide +kernel) rfl (Nat.le_of_ble_eq_true rfl) rfl (gX1_advance_0 N b0 h0 S a1)
-- J6_bitCount_0f7a4
def fJ6_bitCount_0f7a4_0 (N : Nat) (S : zb_S) (a0 : Int32) : Option (Int32 × zb_S) :=
  zb_let (a0 - (((Int32.toUInt32 a0 >>> (Int32.toUInt32 1 &&& Int32.toUInt32 31)).toInt32) &&& 1431655765)) (fun x1 : Int32 =>
  zb_let ((x1 &&& 858993459) + (((Int32.toUInt32 x1 >>> (Int32.toUInt32 2 &&& Int32.toUInt32 31)).toInt32) &&& 858993459)) (fun x2 : Int32 =>
  zb_let ((x2 + ((Int32.toUInt32 x2 >>> (Int32.toUInt32 4 &&& Int32.toUInt32 31)).toInt32)) &&& 252645135) (fun x3 : Int32 =>
  zb_let (x3 + ((Int32.toUInt32 x3 >>> (Int32.toUInt32 8 &&& Int32.toUInt32 31)).toInt32)) (fun x4 : Int32 =>
  zb_let (x4 + ((Int32.toUInt32 x4 >>> (Int32.toUInt32 16 &&& Int32.toUInt32 31)).toInt32)) (fun x5 : Int32 =>
  some (x5 &&& 63, S))))))
set_option maxHeartbeats 4000000 in
set_option maxRecDepth 100000 in
theorem gJ6_bitCount_0f7a4_0 {l : Launch} {G : zb_G} (N : Nat) (S : zb_S) (a0 : Int32) : zb_Go zb_eI l G 0 RJ6 cJ6_bitCount_0f7a4 1 (some .int) 0 [(0, .int a0)] [] S (fJ6_bitCount_0f7a4_0 N S a0) := by
  unfold fJ6_bitCount_0f7a4_0
  refine zg_iload_n 0 dJ6_bitCount_0f7a4_0 rfl rfl ?_
  refine zg_iload_n 0 dJ6_bitCount_0f7a4_1 rfl rfl ?_
  refine zg_iconst (v := 1) dJ6_bitCount_0f7a4_2 (by decide) ?_
  refine zg_iushr dJ6_bitCount_0f7a4_3 ?_
  refine zg_ldcw zw_384 dJ6_bitCount_0f7a4_4 ?_
  refine zg_iand dJ6_bitCount_0f7a4_7 ?_
  refine zg_isub dJ6_bitCount_0f7a4_8 ?_
  refine zg_istore_nL (fun x1 => [(0, .int x1)]) dJ6_bitCount_0f7a4_9 rfl (by decide) (fun _ => rfl) (fun x1 => ?_)
  refine zg_iload_n 0 dJ6_bitCount_0f7a4_10 rfl rfl ?_
  refine zg_ldcw zw_385 dJ6_bitCount_0f7a4_11 ?_
  refine zg_iand dJ6_bitCount_0f7a4_14 ?_
  refine zg_iload_n 0 dJ6_bitCount_0f7a4_15 rfl rfl ?_
  refine zg_iconst (v := 2) dJ6_bitCount_0f7a4_16 (by decide) ?_
  refine zg_iushr dJ6_bitCount_0f7a4_17 ?_
  refine zg_ldcw zw_385 dJ6_bitCount_0f7a4_18 ?_
  refine zg_iand dJ6_bitCount_0f7a4_21 ?_
  refine zg_iadd dJ6_bitCount_0f7a4_22 ?_
  refine zg_istore_nL (fun x2 => [(0, .int x2)]) dJ6_bitCount_0f7a4_23 rfl (by decide) (fun _ => rfl) (fun x2 => ?_)
  refine zg_iload_n 0 dJ6_bitCount_0f7a4_24 rfl rfl ?_
  refine zg_iload_n 0 dJ6_bitCount_0f7a4_25 rfl rfl ?_
  refine zg_iconst (v := 4) dJ6_bitCount_0f7a4_26 (by decide) ?_
  refine zg_iushr dJ6_bitCount_0f7a4_27 ?_
  refine zg_iadd dJ6_bitCount_0f7a4_28 ?_
  refine zg_ldcw zw_386 dJ6_bitCount_0f7a4_29 ?_
  refine zg_iand dJ6_bitCount_0f7a4_32 ?_
  refine zg_istore_nL (fun x3 => [(0, .int x3)]) dJ6_bitCount_0f7a4_33 rfl (by decide) (fun _ => rfl) (fun x3 => ?_)
  refine zg_iload_n 0 dJ6_bitCount_0f7a4_34 rfl rfl ?_
  refine zg_iload_n 0 dJ6_bitCount_0f7a4_35 rfl rfl ?_
  refine zg_bipush (v := 8) dJ6_bitCount_0f7a4_36 (by decide) ?_
  refine zg_iushr dJ6_bitCount_0f7a4_38 ?_
  refine zg_iadd dJ6_bitCount_0f7a4_39 ?_
  refine zg_istore_nL (fun x4 => [(0, .int x4)]) dJ6_bitCount_0f7a4_40 rfl (by decide) (fun _ => rfl) (fun x4 => ?_)
  refine zg_iload_n 0 dJ6_bitCount_0f7a4_41 rfl rfl ?_
  refine zg_iload_n 0 dJ6_bitCount_0f7a4_42 rfl rfl ?_
  refine zg_bipush (v := 16) dJ6_bitCount_0f7a4_43 (by decide) ?_
  refine zg_iushr dJ6_bitCount_0f7a4_45 ?_
  refine zg_iadd dJ6_bitCount_0f7a4_46 ?_
  refine zg_istore_nL (fun x5 => [(0, .int x5)]) dJ6_bitCount_0f7a4_47 rfl (by decide) (fun _ => rfl) (fun x5 => ?_)
  refine zg_iload_n 0 dJ6_bitCount_0f7a4_48 rfl rfl ?_
  refine zg_bipush (v := 63) dJ6_bitCount_0f7a4_49 (by decide) ?_
  refine zg_iand dJ6_bitCount_0f7a4_51 ?_
  exact zg_iret rfl dJ6_bitCount_0f7a4_52
def fJ6_bitCount_0f7a4 (N : Nat) (S : zb_S) (a0 : Int32) : Option (Int32 × zb_S) := fJ6_bitCount_0f7a4_0 N S a0
theorem zcJ6_bitCount_0f7a4 {l : Launch} {G : zb_G} (N : Nat) (S : zb_S) (a0 : Int32) : zb_C zb_eI l G 0 yJ6_bitCount_0f7a4 cJ6_bitCount_0f7a4 1 (some .int) [.int a0] S (fJ6_bitCount_0f7a4 N S a0) :=
  zb_C.of (by decide +kernel) rfl (Nat.le_of_ble_eq_true rfl) rfl (gJ6_bitCount_0f7a4_0 N S a0)
end
