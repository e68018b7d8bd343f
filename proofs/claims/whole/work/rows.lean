section
-- ===== PART A: goes FIRST, ahead of the names: the tables' words, and 'selects' of the private methods out of them =====
/-- a private method of a class that the tables say can be made, by its rows of tables_1 -/
def lw_okq (q : MethodName × Nat) : Prop := (q.1.cls ≠ "java/lang/invoke/MethodHandle" ∧ q.1.cls ≠ "java/lang/invoke/VarHandle") ∧ Cond.instantiable q.1.cls q.2 ∈ tables_1 ∧ Cond.privateMethod q.1 ∈ tables_1 ∧ Cond.instanceMethod q.1 ∈ tables_1
theorem lw_p0 : lw_okq (⟨"CornWay$Field", "lay", "(II)V"⟩, 9) := ⟨⟨by decide +kernel, by decide +kernel⟩, List.mem_of_getElem? (i := 19) (by decide +kernel), List.mem_of_getElem? (i := 149) (by decide +kernel), List.mem_of_getElem? (i := 150) (by decide +kernel)⟩
theorem lw_p1 : lw_okq (⟨"CornWay$Field", "joinWithOthers", "(III)V"⟩, 9) := ⟨⟨by decide +kernel, by decide +kernel⟩, List.mem_of_getElem? (i := 19) (by decide +kernel), List.mem_of_getElem? (i := 159) (by decide +kernel), List.mem_of_getElem? (i := 160) (by decide +kernel)⟩
theorem lw_p2 : lw_okq (⟨"CornWay", "forget", "()V"⟩, 18) := ⟨⟨by decide +kernel, by decide +kernel⟩, List.mem_of_getElem? (i := 11) (by decide +kernel), List.mem_of_getElem? (i := 226) (by decide +kernel), List.mem_of_getElem? (i := 227) (by decide +kernel)⟩
theorem lw_p3 : lw_okq (⟨"CornWay", "fieldFault", "()I"⟩, 18) := ⟨⟨by decide +kernel, by decide +kernel⟩, List.mem_of_getElem? (i := 11) (by decide +kernel), List.mem_of_getElem? (i := 242) (by decide +kernel), List.mem_of_getElem? (i := 243) (by decide +kernel)⟩
theorem lw_p4 : lw_okq (⟨"CornWay", "wayFault", "()I"⟩, 18) := ⟨⟨by decide +kernel, by decide +kernel⟩, List.mem_of_getElem? (i := 11) (by decide +kernel), List.mem_of_getElem? (i := 246) (by decide +kernel), List.mem_of_getElem? (i := 247) (by decide +kernel)⟩
theorem lw_p5 : lw_okq (⟨"CornWay", "padIsAllStones", "()Z"⟩, 18) := ⟨⟨by decide +kernel, by decide +kernel⟩, List.mem_of_getElem? (i := 11) (by decide +kernel), List.mem_of_getElem? (i := 259) (by decide +kernel), List.mem_of_getElem? (i := 260) (by decide +kernel)⟩
theorem lw_p6 : lw_okq (⟨"CornWay$Field", "sowFrom", "([I)V"⟩, 9) := ⟨⟨by decide +kernel, by decide +kernel⟩, List.mem_of_getElem? (i := 19) (by decide +kernel), List.mem_of_getElem? (i := 263) (by decide +kernel), List.mem_of_getElem? (i := 264) (by decide +kernel)⟩
theorem lw_p7 : lw_okq (⟨"CornWay$Field", "firstOpen", "()I"⟩, 9) := ⟨⟨by decide +kernel, by decide +kernel⟩, List.mem_of_getElem? (i := 19) (by decide +kernel), List.mem_of_getElem? (i := 267) (by decide +kernel), List.mem_of_getElem? (i := 268) (by decide +kernel)⟩
theorem lw_p8 : lw_okq (⟨"CornWay$Field", "isOpen", "(I)Z"⟩, 9) := ⟨⟨by decide +kernel, by decide +kernel⟩, List.mem_of_getElem? (i := 19) (by decide +kernel), List.mem_of_getElem? (i := 271) (by decide +kernel), List.mem_of_getElem? (i := 272) (by decide +kernel)⟩
theorem lw_p9 : lw_okq (⟨"CornWay$Field", "hasPlace", "(I)Z"⟩, 9) := ⟨⟨by decide +kernel, by decide +kernel⟩, List.mem_of_getElem? (i := 19) (by decide +kernel), List.mem_of_getElem? (i := 288) (by decide +kernel), List.mem_of_getElem? (i := 289) (by decide +kernel)⟩
theorem lw_p10 : lw_okq (⟨"CornWay", "followPad", "()I"⟩, 18) := ⟨⟨by decide +kernel, by decide +kernel⟩, List.mem_of_getElem? (i := 11) (by decide +kernel), List.mem_of_getElem? (i := 305) (by decide +kernel), List.mem_of_getElem? (i := 306) (by decide +kernel)⟩
theorem lw_p11 : lw_okq (⟨"CornWay$Walk", "beginOn", "(LCornWay$Field;)V"⟩, 5) := ⟨⟨by decide +kernel, by decide +kernel⟩, List.mem_of_getElem? (i := 64) (by decide +kernel), List.mem_of_getElem? (i := 309) (by decide +kernel), List.mem_of_getElem? (i := 310) (by decide +kernel)⟩
theorem lw_p12 : lw_okq (⟨"CornWay$Field", "freeFrom", "(I)I"⟩, 9) := ⟨⟨by decide +kernel, by decide +kernel⟩, List.mem_of_getElem? (i := 19) (by decide +kernel), List.mem_of_getElem? (i := 313) (by decide +kernel), List.mem_of_getElem? (i := 314) (by decide +kernel)⟩
theorem lw_p13 : lw_okq (⟨"CornWay$Field", "brings", "(II)I"⟩, 9) := ⟨⟨by decide +kernel, by decide +kernel⟩, List.mem_of_getElem? (i := 19) (by decide +kernel), List.mem_of_getElem? (i := 317) (by decide +kernel), List.mem_of_getElem? (i := 318) (by decide +kernel)⟩
theorem lw_p14 : lw_okq (⟨"CornWay$Walk", "go", "(LCornWay$Field;I)Z"⟩, 5) := ⟨⟨by decide +kernel, by decide +kernel⟩, List.mem_of_getElem? (i := 64) (by decide +kernel), List.mem_of_getElem? (i := 322) (by decide +kernel), List.mem_of_getElem? (i := 323) (by decide +kernel)⟩
theorem lw_p15 : lw_okq (⟨"CornWay$Field", "beside", "(II)I"⟩, 9) := ⟨⟨by decide +kernel, by decide +kernel⟩, List.mem_of_getElem? (i := 19) (by decide +kernel), List.mem_of_getElem? (i := 326) (by decide +kernel), List.mem_of_getElem? (i := 327) (by decide +kernel)⟩
def lw_privs_1 : List (MethodName × Nat) := [(⟨"CornWay$Field", "lay", "(II)V"⟩, 9), (⟨"CornWay$Field", "joinWithOthers", "(III)V"⟩, 9), (⟨"CornWay", "forget", "()V"⟩, 18), (⟨"CornWay", "fieldFault", "()I"⟩, 18), (⟨"CornWay", "wayFault", "()I"⟩, 18), (⟨"CornWay", "padIsAllStones", "()Z"⟩, 18), (⟨"CornWay$Field", "sowFrom", "([I)V"⟩, 9), (⟨"CornWay$Field", "firstOpen", "()I"⟩, 9), (⟨"CornWay$Field", "isOpen", "(I)Z"⟩, 9), (⟨"CornWay$Field", "hasPlace", "(I)Z"⟩, 9), (⟨"CornWay", "followPad", "()I"⟩, 18), (⟨"CornWay$Walk", "beginOn", "(LCornWay$Field;)V"⟩, 5), (⟨"CornWay$Field", "freeFrom", "(I)I"⟩, 9), (⟨"CornWay$Field", "brings", "(II)I"⟩, 9), (⟨"CornWay$Walk", "go", "(LCornWay$Field;I)Z"⟩, 5), (⟨"CornWay$Field", "beside", "(II)I"⟩, 9)]
theorem lw_r1 : ∀ q ∈ lw_privs_1, lw_okq q := List.forall_mem_cons.mpr ⟨lw_p0, List.forall_mem_cons.mpr ⟨lw_p1, List.forall_mem_cons.mpr ⟨lw_p2, List.forall_mem_cons.mpr ⟨lw_p3, List.forall_mem_cons.mpr ⟨lw_p4, List.forall_mem_cons.mpr ⟨lw_p5, List.forall_mem_cons.mpr ⟨lw_p6, List.forall_mem_cons.mpr ⟨lw_p7, List.forall_mem_cons.mpr ⟨lw_p8, List.forall_mem_cons.mpr ⟨lw_p9, List.forall_mem_cons.mpr ⟨lw_p10, List.forall_mem_cons.mpr ⟨lw_p11, List.forall_mem_cons.mpr ⟨lw_p12, List.forall_mem_cons.mpr ⟨lw_p13, List.forall_mem_cons.mpr ⟨lw_p14, List.forall_mem_cons.mpr ⟨lw_p15, fun _ h => absurd h List.not_mem_nil⟩⟩⟩⟩⟩⟩⟩⟩⟩⟩⟩⟩⟩⟩⟩⟩
theorem lw_p16 : lw_okq (⟨"CornWay$Walk", "cut", "(LCornWay$Field;)I"⟩, 5) := ⟨⟨by decide +kernel, by decide +kernel⟩, List.mem_of_getElem? (i := 64) (by decide +kernel), List.mem_of_getElem? (i := 336) (by decide +kernel), List.mem_of_getElem? (i := 337) (by decide +kernel)⟩
theorem lw_p17 : lw_okq (⟨"CornWay$Field", "earsOf", "(I)I"⟩, 9) := ⟨⟨by decide +kernel, by decide +kernel⟩, List.mem_of_getElem? (i := 19) (by decide +kernel), List.mem_of_getElem? (i := 340) (by decide +kernel), List.mem_of_getElem? (i := 341) (by decide +kernel)⟩
theorem lw_p18 : lw_okq (⟨"CornWay$Field", "reach", "(II)I"⟩, 9) := ⟨⟨by decide +kernel, by decide +kernel⟩, List.mem_of_getElem? (i := 19) (by decide +kernel), List.mem_of_getElem? (i := 344) (by decide +kernel), List.mem_of_getElem? (i := 345) (by decide +kernel)⟩
theorem lw_p19 : lw_okq (⟨"CornWay$Field", "isBlind", "(II)Z"⟩, 9) := ⟨⟨by decide +kernel, by decide +kernel⟩, List.mem_of_getElem? (i := 19) (by decide +kernel), List.mem_of_getElem? (i := 348) (by decide +kernel), List.mem_of_getElem? (i := 349) (by decide +kernel)⟩
theorem lw_p20 : lw_okq (⟨"CornWay", "lookAtAllWays", "()V"⟩, 18) := ⟨⟨by decide +kernel, by decide +kernel⟩, List.mem_of_getElem? (i := 11) (by decide +kernel), List.mem_of_getElem? (i := 356) (by decide +kernel), List.mem_of_getElem? (i := 357) (by decide +kernel)⟩
theorem lw_p21 : lw_okq (⟨"CornWay$Chosen", "clear", "()V"⟩, 3) := ⟨⟨by decide +kernel, by decide +kernel⟩, List.mem_of_getElem? (i := 132) (by decide +kernel), List.mem_of_getElem? (i := 360) (by decide +kernel), List.mem_of_getElem? (i := 361) (by decide +kernel)⟩
theorem lw_p22 : lw_okq (⟨"CornWay$Ways", "from", "(LCornWay$Field;II)V"⟩, 9) := ⟨⟨by decide +kernel, by decide +kernel⟩, List.mem_of_getElem? (i := 95) (by decide +kernel), List.mem_of_getElem? (i := 364) (by decide +kernel), List.mem_of_getElem? (i := 365) (by decide +kernel)⟩
theorem lw_p23 : lw_okq (⟨"CornWay$Ways", "start", "(LCornWay$Field;II)V"⟩, 9) := ⟨⟨by decide +kernel, by decide +kernel⟩, List.mem_of_getElem? (i := 95) (by decide +kernel), List.mem_of_getElem? (i := 368) (by decide +kernel), List.mem_of_getElem? (i := 369) (by decide +kernel)⟩
theorem lw_p24 : lw_okq (⟨"CornWay$Ways", "next", "()Z"⟩, 9) := ⟨⟨by decide +kernel, by decide +kernel⟩, List.mem_of_getElem? (i := 95) (by decide +kernel), List.mem_of_getElem? (i := 376) (by decide +kernel), List.mem_of_getElem? (i := 377) (by decide +kernel)⟩
theorem lw_p25 : lw_okq (⟨"CornWay$Field", "stepThatCanBe", "(III)I"⟩, 9) := ⟨⟨by decide +kernel, by decide +kernel⟩, List.mem_of_getElem? (i := 19) (by decide +kernel), List.mem_of_getElem? (i := 380) (by decide +kernel), List.mem_of_getElem? (i := 381) (by decide +kernel)⟩
theorem lw_p26 : lw_okq (⟨"CornWay$Ways", "goTo", "(I)V"⟩, 9) := ⟨⟨by decide +kernel, by decide +kernel⟩, List.mem_of_getElem? (i := 95) (by decide +kernel), List.mem_of_getElem? (i := 385) (by decide +kernel), List.mem_of_getElem? (i := 386) (by decide +kernel)⟩
theorem lw_p27 : lw_okq (⟨"CornWay$Chosen", "offer", "(LCornWay$Ways;I)V"⟩, 3) := ⟨⟨by decide +kernel, by decide +kernel⟩, List.mem_of_getElem? (i := 132) (by decide +kernel), List.mem_of_getElem? (i := 389) (by decide +kernel), List.mem_of_getElem? (i := 390) (by decide +kernel)⟩
theorem lw_p28 : lw_okq (⟨"CornWay$Ways", "brought", "()I"⟩, 9) := ⟨⟨by decide +kernel, by decide +kernel⟩, List.mem_of_getElem? (i := 95) (by decide +kernel), List.mem_of_getElem? (i := 393) (by decide +kernel), List.mem_of_getElem? (i := 394) (by decide +kernel)⟩
theorem lw_p29 : lw_okq (⟨"CornWay$Ways", "leavesNothing", "()Z"⟩, 9) := ⟨⟨by decide +kernel, by decide +kernel⟩, List.mem_of_getElem? (i := 95) (by decide +kernel), List.mem_of_getElem? (i := 397) (by decide +kernel), List.mem_of_getElem? (i := 398) (by decide +kernel)⟩
theorem lw_p30 : lw_okq (⟨"CornWay$Ways", "end", "()I"⟩, 9) := ⟨⟨by decide +kernel, by decide +kernel⟩, List.mem_of_getElem? (i := 95) (by decide +kernel), List.mem_of_getElem? (i := 401) (by decide +kernel), List.mem_of_getElem? (i := 402) (by decide +kernel)⟩
theorem lw_p31 : lw_okq (⟨"CornWay$Chosen", "signOf", "(I)I"⟩, 3) := ⟨⟨by decide +kernel, by decide +kernel⟩, List.mem_of_getElem? (i := 132) (by decide +kernel), List.mem_of_getElem? (i := 405) (by decide +kernel), List.mem_of_getElem? (i := 406) (by decide +kernel)⟩
def lw_privs_2 : List (MethodName × Nat) := [(⟨"CornWay$Walk", "cut", "(LCornWay$Field;)I"⟩, 5), (⟨"CornWay$Field", "earsOf", "(I)I"⟩, 9), (⟨"CornWay$Field", "reach", "(II)I"⟩, 9), (⟨"CornWay$Field", "isBlind", "(II)Z"⟩, 9), (⟨"CornWay", "lookAtAllWays", "()V"⟩, 18), (⟨"CornWay$Chosen", "clear", "()V"⟩, 3), (⟨"CornWay$Ways", "from", "(LCornWay$Field;II)V"⟩, 9), (⟨"CornWay$Ways", "start", "(LCornWay$Field;II)V"⟩, 9), (⟨"CornWay$Ways", "next", "()Z"⟩, 9), (⟨"CornWay$Field", "stepThatCanBe", "(III)I"⟩, 9), (⟨"CornWay$Ways", "goTo", "(I)V"⟩, 9), (⟨"CornWay$Chosen", "offer", "(LCornWay$Ways;I)V"⟩, 3), (⟨"CornWay$Ways", "brought", "()I"⟩, 9), (⟨"CornWay$Ways", "leavesNothing", "()Z"⟩, 9), (⟨"CornWay$Ways", "end", "()I"⟩, 9), (⟨"CornWay$Chosen", "signOf", "(I)I"⟩, 3)]
theorem lw_r2 : ∀ q ∈ lw_privs_2, lw_okq q := List.forall_mem_cons.mpr ⟨lw_p16, List.forall_mem_cons.mpr ⟨lw_p17, List.forall_mem_cons.mpr ⟨lw_p18, List.forall_mem_cons.mpr ⟨lw_p19, List.forall_mem_cons.mpr ⟨lw_p20, List.forall_mem_cons.mpr ⟨lw_p21, List.forall_mem_cons.mpr ⟨lw_p22, List.forall_mem_cons.mpr ⟨lw_p23, List.forall_mem_cons.mpr ⟨lw_p24, List.forall_mem_cons.mpr ⟨lw_p25, List.forall_mem_cons.mpr ⟨lw_p26, List.forall_mem_cons.mpr ⟨lw_p27, List.forall_mem_cons.mpr ⟨lw_p28, List.forall_mem_cons.mpr ⟨lw_p29, List.forall_mem_cons.mpr ⟨lw_p30, List.forall_mem_cons.mpr ⟨lw_p31, fun _ h => absurd h List.not_mem_nil⟩⟩⟩⟩⟩⟩⟩⟩⟩⟩⟩⟩⟩⟩⟩⟩
theorem lw_p32 : lw_okq (⟨"CornWay$Field", "boundFrom", "(I)I"⟩, 9) := ⟨⟨by decide +kernel, by decide +kernel⟩, List.mem_of_getElem? (i := 19) (by decide +kernel), List.mem_of_getElem? (i := 418) (by decide +kernel), List.mem_of_getElem? (i := 419) (by decide +kernel)⟩
theorem lw_p33 : lw_okq (⟨"CornWay$Field", "colour", "(I)I"⟩, 9) := ⟨⟨by decide +kernel, by decide +kernel⟩, List.mem_of_getElem? (i := 19) (by decide +kernel), List.mem_of_getElem? (i := 423) (by decide +kernel), List.mem_of_getElem? (i := 424) (by decide +kernel)⟩
theorem lw_p34 : lw_okq (⟨"CornWay$Ways", "goOn", "(LCornWay$Field;LCornWay$Walk;I)V"⟩, 9) := ⟨⟨by decide +kernel, by decide +kernel⟩, List.mem_of_getElem? (i := 95) (by decide +kernel), List.mem_of_getElem? (i := 435) (by decide +kernel), List.mem_of_getElem? (i := 436) (by decide +kernel)⟩
theorem lw_p35 : lw_okq (⟨"CornWay", "lookWhere", "()V"⟩, 18) := ⟨⟨by decide +kernel, by decide +kernel⟩, List.mem_of_getElem? (i := 11) (by decide +kernel), List.mem_of_getElem? (i := 461) (by decide +kernel), List.mem_of_getElem? (i := 462) (by decide +kernel)⟩
theorem lw_p36 : lw_okq (⟨"CornWay", "longestFrom", "(I)I"⟩, 18) := ⟨⟨by decide +kernel, by decide +kernel⟩, List.mem_of_getElem? (i := 11) (by decide +kernel), List.mem_of_getElem? (i := 465) (by decide +kernel), List.mem_of_getElem? (i := 466) (by decide +kernel)⟩
theorem lw_p37 : lw_okq (⟨"CornWay$Field", "stepNumbered", "(III)I"⟩, 9) := ⟨⟨by decide +kernel, by decide +kernel⟩, List.mem_of_getElem? (i := 19) (by decide +kernel), List.mem_of_getElem? (i := 482) (by decide +kernel), List.mem_of_getElem? (i := 483) (by decide +kernel)⟩
theorem lw_p38 : lw_okq (⟨"CornWay$Field", "becomeLike", "(LCornWay$Field;)V"⟩, 9) := ⟨⟨by decide +kernel, by decide +kernel⟩, List.mem_of_getElem? (i := 19) (by decide +kernel), List.mem_of_getElem? (i := 492) (by decide +kernel), List.mem_of_getElem? (i := 493) (by decide +kernel)⟩
theorem lw_p39 : lw_okq (⟨"CornWayModel", "lay", "(II)V"⟩, 21) := ⟨⟨by decide +kernel, by decide +kernel⟩, List.mem_of_getElem? (i := 507) (by decide +kernel), List.mem_of_getElem? (i := 515) (by decide +kernel), List.mem_of_getElem? (i := 516) (by decide +kernel)⟩
theorem lw_p40 : lw_okq (⟨"CornWayModel", "places", "()I"⟩, 21) := ⟨⟨by decide +kernel, by decide +kernel⟩, List.mem_of_getElem? (i := 507) (by decide +kernel), List.mem_of_getElem? (i := 592) (by decide +kernel), List.mem_of_getElem? (i := 593) (by decide +kernel)⟩
theorem lw_p41 : lw_okq (⟨"CornWayModel", "faultOfField", "()I"⟩, 21) := ⟨⟨by decide +kernel, by decide +kernel⟩, List.mem_of_getElem? (i := 507) (by decide +kernel), List.mem_of_getElem? (i := 610) (by decide +kernel), List.mem_of_getElem? (i := 611) (by decide +kernel)⟩
theorem lw_p42 : lw_okq (⟨"CornWayModel", "faultOfWay", "()I"⟩, 21) := ⟨⟨by decide +kernel, by decide +kernel⟩, List.mem_of_getElem? (i := 507) (by decide +kernel), List.mem_of_getElem? (i := 616) (by decide +kernel), List.mem_of_getElem? (i := 617) (by decide +kernel)⟩
theorem lw_p43 : lw_okq (⟨"CornWayModel", "open", "()I"⟩, 21) := ⟨⟨by decide +kernel, by decide +kernel⟩, List.mem_of_getElem? (i := 507) (by decide +kernel), List.mem_of_getElem? (i := 627) (by decide +kernel), List.mem_of_getElem? (i := 628) (by decide +kernel)⟩
theorem lw_p44 : lw_okq (⟨"CornWayModel", "isPlace", "(I)Z"⟩, 21) := ⟨⟨by decide +kernel, by decide +kernel⟩, List.mem_of_getElem? (i := 507) (by decide +kernel), List.mem_of_getElem? (i := 638) (by decide +kernel), List.mem_of_getElem? (i := 639) (by decide +kernel)⟩
theorem lw_p45 : lw_okq (⟨"CornWayModel", "goWay", "()Z"⟩, 21) := ⟨⟨by decide +kernel, by decide +kernel⟩, List.mem_of_getElem? (i := 507) (by decide +kernel), List.mem_of_getElem? (i := 655) (by decide +kernel), List.mem_of_getElem? (i := 656) (by decide +kernel)⟩
theorem lw_p46 : lw_okq (⟨"CornWayModel", "beside", "(II)I"⟩, 21) := ⟨⟨by decide +kernel, by decide +kernel⟩, List.mem_of_getElem? (i := 507) (by decide +kernel), List.mem_of_getElem? (i := 659) (by decide +kernel), List.mem_of_getElem? (i := 660) (by decide +kernel)⟩
theorem lw_p47 : lw_okq (⟨"CornWayModel", "brings", "(II)I"⟩, 21) := ⟨⟨by decide +kernel, by decide +kernel⟩, List.mem_of_getElem? (i := 507) (by decide +kernel), List.mem_of_getElem? (i := 663) (by decide +kernel), List.mem_of_getElem? (i := 664) (by decide +kernel)⟩
def lw_privs_3 : List (MethodName × Nat) := [(⟨"CornWay$Field", "boundFrom", "(I)I"⟩, 9), (⟨"CornWay$Field", "colour", "(I)I"⟩, 9), (⟨"CornWay$Ways", "goOn", "(LCornWay$Field;LCornWay$Walk;I)V"⟩, 9), (⟨"CornWay", "lookWhere", "()V"⟩, 18), (⟨"CornWay", "longestFrom", "(I)I"⟩, 18), (⟨"CornWay$Field", "stepNumbered", "(III)I"⟩, 9), (⟨"CornWay$Field", "becomeLike", "(LCornWay$Field;)V"⟩, 9), (⟨"CornWayModel", "lay", "(II)V"⟩, 21), (⟨"CornWayModel", "places", "()I"⟩, 21), (⟨"CornWayModel", "faultOfField", "()I"⟩, 21), (⟨"CornWayModel", "faultOfWay", "()I"⟩, 21), (⟨"CornWayModel", "open", "()I"⟩, 21), (⟨"CornWayModel", "isPlace", "(I)Z"⟩, 21), (⟨"CornWayModel", "goWay", "()Z"⟩, 21), (⟨"CornWayModel", "beside", "(II)I"⟩, 21), (⟨"CornWayModel", "brings", "(II)I"⟩, 21)]
theorem lw_r3 : ∀ q ∈ lw_privs_3, lw_okq q := List.forall_mem_cons.mpr ⟨lw_p32, List.forall_mem_cons.mpr ⟨lw_p33, List.forall_mem_cons.mpr ⟨lw_p34, List.forall_mem_cons.mpr ⟨lw_p35, List.forall_mem_cons.mpr ⟨lw_p36, List.forall_mem_cons.mpr ⟨lw_p37, List.forall_mem_cons.mpr ⟨lw_p38, List.forall_mem_cons.mpr ⟨lw_p39, List.forall_mem_cons.mpr ⟨lw_p40, List.forall_mem_cons.mpr ⟨lw_p41, List.forall_mem_cons.mpr ⟨lw_p42, List.forall_mem_cons.mpr ⟨lw_p43, List.forall_mem_cons.mpr ⟨lw_p44, List.forall_mem_cons.mpr ⟨lw_p45, List.forall_mem_cons.mpr ⟨lw_p46, List.forall_mem_cons.mpr ⟨lw_p47, fun _ h => absurd h List.not_mem_nil⟩⟩⟩⟩⟩⟩⟩⟩⟩⟩⟩⟩⟩⟩⟩⟩
theorem lw_p48 : lw_okq (⟨"CornWayModel", "earsOf", "(I)I"⟩, 21) := ⟨⟨by decide +kernel, by decide +kernel⟩, List.mem_of_getElem? (i := 507) (by decide +kernel), List.mem_of_getElem? (i := 672) (by decide +kernel), List.mem_of_getElem? (i := 673) (by decide +kernel)⟩
theorem lw_p49 : lw_okq (⟨"CornWayModel", "reachable", "(II)I"⟩, 21) := ⟨⟨by decide +kernel, by decide +kernel⟩, List.mem_of_getElem? (i := 507) (by decide +kernel), List.mem_of_getElem? (i := 676) (by decide +kernel), List.mem_of_getElem? (i := 677) (by decide +kernel)⟩
theorem lw_p50 : lw_okq (⟨"CornWayModel", "next", "(III)I"⟩, 21) := ⟨⟨by decide +kernel, by decide +kernel⟩, List.mem_of_getElem? (i := 507) (by decide +kernel), List.mem_of_getElem? (i := 680) (by decide +kernel), List.mem_of_getElem? (i := 681) (by decide +kernel)⟩
theorem lw_p51 : lw_okq (⟨"CornWayModel", "isBlind", "(II)Z"⟩, 21) := ⟨⟨by decide +kernel, by decide +kernel⟩, List.mem_of_getElem? (i := 507) (by decide +kernel), List.mem_of_getElem? (i := 684) (by decide +kernel), List.mem_of_getElem? (i := 685) (by decide +kernel)⟩
theorem lw_p52 : lw_okq (⟨"CornWayModel", "findLongest", "()V"⟩, 21) := ⟨⟨by decide +kernel, by decide +kernel⟩, List.mem_of_getElem? (i := 507) (by decide +kernel), List.mem_of_getElem? (i := 692) (by decide +kernel), List.mem_of_getElem? (i := 693) (by decide +kernel)⟩
theorem lw_p53 : lw_okq (⟨"CornWayModel", "findWays", "(II)V"⟩, 21) := ⟨⟨by decide +kernel, by decide +kernel⟩, List.mem_of_getElem? (i := 507) (by decide +kernel), List.mem_of_getElem? (i := 706) (by decide +kernel), List.mem_of_getElem? (i := 707) (by decide +kernel)⟩
theorem lw_p54 : lw_okq (⟨"CornWayModel", "findBest", "(I)V"⟩, 21) := ⟨⟨by decide +kernel, by decide +kernel⟩, List.mem_of_getElem? (i := 507) (by decide +kernel), List.mem_of_getElem? (i := 718) (by decide +kernel), List.mem_of_getElem? (i := 719) (by decide +kernel)⟩
theorem lw_p55 : lw_okq (⟨"CornWayModel", "bestFrom", "(II)I"⟩, 21) := ⟨⟨by decide +kernel, by decide +kernel⟩, List.mem_of_getElem? (i := 507) (by decide +kernel), List.mem_of_getElem? (i := 722) (by decide +kernel), List.mem_of_getElem? (i := 723) (by decide +kernel)⟩
theorem lw_p56 : lw_okq (⟨"CornWayModel", "bestWay", "(II)I"⟩, 21) := ⟨⟨by decide +kernel, by decide +kernel⟩, List.mem_of_getElem? (i := 507) (by decide +kernel), List.mem_of_getElem? (i := 726) (by decide +kernel), List.mem_of_getElem? (i := 727) (by decide +kernel)⟩
theorem lw_p57 : lw_okq (⟨"CornWayModel", "areFew", "()Z"⟩, 21) := ⟨⟨by decide +kernel, by decide +kernel⟩, List.mem_of_getElem? (i := 507) (by decide +kernel), List.mem_of_getElem? (i := 739) (by decide +kernel), List.mem_of_getElem? (i := 740) (by decide +kernel)⟩
theorem lw_p58 : lw_okq (⟨"CornWayModel", "goTwo", "(Z)I"⟩, 21) := ⟨⟨by decide +kernel, by decide +kernel⟩, List.mem_of_getElem? (i := 507) (by decide +kernel), List.mem_of_getElem? (i := 743) (by decide +kernel), List.mem_of_getElem? (i := 744) (by decide +kernel)⟩
theorem lw_p59 : lw_okq (⟨"CornWayModel", "bestStep", "(IIIIZ)I"⟩, 21) := ⟨⟨by decide +kernel, by decide +kernel⟩, List.mem_of_getElem? (i := 507) (by decide +kernel), List.mem_of_getElem? (i := 747) (by decide +kernel), List.mem_of_getElem? (i := 748) (by decide +kernel)⟩
theorem lw_p60 : lw_okq (⟨"CornWayModel", "nextFew", "(III)I"⟩, 21) := ⟨⟨by decide +kernel, by decide +kernel⟩, List.mem_of_getElem? (i := 507) (by decide +kernel), List.mem_of_getElem? (i := 751) (by decide +kernel), List.mem_of_getElem? (i := 752) (by decide +kernel)⟩
theorem lw_p61 : lw_okq (⟨"CornWayModel", "passAll", "()V"⟩, 21) := ⟨⟨by decide +kernel, by decide +kernel⟩, List.mem_of_getElem? (i := 507) (by decide +kernel), List.mem_of_getElem? (i := 787) (by decide +kernel), List.mem_of_getElem? (i := 788) (by decide +kernel)⟩
theorem lw_p62 : lw_okq (⟨"CornWayModel", "pass", "(I)I"⟩, 21) := ⟨⟨by decide +kernel, by decide +kernel⟩, List.mem_of_getElem? (i := 507) (by decide +kernel), List.mem_of_getElem? (i := 791) (by decide +kernel), List.mem_of_getElem? (i := 792) (by decide +kernel)⟩
def lw_privs_4 : List (MethodName × Nat) := [(⟨"CornWayModel", "earsOf", "(I)I"⟩, 21), (⟨"CornWayModel", "reachable", "(II)I"⟩, 21), (⟨"CornWayModel", "next", "(III)I"⟩, 21), (⟨"CornWayModel", "isBlind", "(II)Z"⟩, 21), (⟨"CornWayModel", "findLongest", "()V"⟩, 21), (⟨"CornWayModel", "findWays", "(II)V"⟩, 21), (⟨"CornWayModel", "findBest", "(I)V"⟩, 21), (⟨"CornWayModel", "bestFrom", "(II)I"⟩, 21), (⟨"CornWayModel", "bestWay", "(II)I"⟩, 21), (⟨"CornWayModel", "areFew", "()Z"⟩, 21), (⟨"CornWayModel", "goTwo", "(Z)I"⟩, 21), (⟨"CornWayModel", "bestStep", "(IIIIZ)I"⟩, 21), (⟨"CornWayModel", "nextFew", "(III)I"⟩, 21), (⟨"CornWayModel", "passAll", "()V"⟩, 21), (⟨"CornWayModel", "pass", "(I)I"⟩, 21)]
theorem lw_r4 : ∀ q ∈ lw_privs_4, lw_okq q := List.forall_mem_cons.mpr ⟨lw_p48, List.forall_mem_cons.mpr ⟨lw_p49, List.forall_mem_cons.mpr ⟨lw_p50, List.forall_mem_cons.mpr ⟨lw_p51, List.forall_mem_cons.mpr ⟨lw_p52, List.forall_mem_cons.mpr ⟨lw_p53, List.forall_mem_cons.mpr ⟨lw_p54, List.forall_mem_cons.mpr ⟨lw_p55, List.forall_mem_cons.mpr ⟨lw_p56, List.forall_mem_cons.mpr ⟨lw_p57, List.forall_mem_cons.mpr ⟨lw_p58, List.forall_mem_cons.mpr ⟨lw_p59, List.forall_mem_cons.mpr ⟨lw_p60, List.forall_mem_cons.mpr ⟨lw_p61, List.forall_mem_cons.mpr ⟨lw_p62, fun _ h => absurd h List.not_mem_nil⟩⟩⟩⟩⟩⟩⟩⟩⟩⟩⟩⟩⟩⟩⟩
def lw_privs : List (MethodName × Nat) := lw_privs_1 ++ (lw_privs_2 ++ (lw_privs_3 ++ (lw_privs_4)))
def lw_tbl : List Cond := k2_sels lw_privs ++ tables_1
theorem lw_privs_ok : ∀ q ∈ lw_privs, lw_okq q := by
  show ∀ q ∈ lw_privs_1 ++ (lw_privs_2 ++ (lw_privs_3 ++ (lw_privs_4))), lw_okq q
  exact List.forall_mem_append.mpr ⟨lw_r1, List.forall_mem_append.mpr ⟨lw_r2, List.forall_mem_append.mpr ⟨lw_r3, lw_r4⟩⟩⟩
-- ===== end of PART A =====
end
section
-- names, out of the printed names (claim/NAMES.whole.lean.txt)
def RX0 : String := "CornWay$Chosen"
def TX0 : u_T := fun k => match k with
  | 0 => ("CornWay$Chosen", "worth", "I", false)
  | 1 => ("CornWay$Chosen", "steps", "I", false)
  | _ => ("CornWay$Chosen", "gone", "[I", true)
def tyX0 : Nat → FieldType := fun k => match k with
  | 0 => .int
  | 1 => .int
  | _ => .array .int
abbrev wsX00 : List Cond := u_ws RX0 TX0 3
theorem nmX0 : ∀ a, a < 3 → ∀ b, b < 3 → a ≠ b → (TX0 a).2.1 ≠ (TX0 b).2.1 := by decide +kernel
theorem tyX0_ok : ∀ k, k < 3 → parseFieldDescriptor (TX0 k).2.2.1 = some (tyX0 k) := by decide +kernel
abbrev cX0_init : ByteArray := prog_2_method_1_code
def yX0_init : MethodName := ⟨RX0, "<init>", "()V"⟩
abbrev cX0_clear : ByteArray := prog_2_method_2_code
def yX0_clear : MethodName := ⟨RX0, "clear", "()V"⟩
abbrev cX0_offer : ByteArray := prog_2_method_3_code
def yX0_offer : MethodName := ⟨RX0, "offer", "(LCornWay$Ways;I)V"⟩
abbrev cX0_signOf : ByteArray := prog_2_method_4_code
def yX0_signOf : MethodName := ⟨RX0, "signOf", "(I)I"⟩
def RX1 : String := "CornWay$Field"
def TX1 : u_T := fun k => match k with
  | 0 => ("CornWay$Field", "rows", "I", false)
  | 1 => ("CornWay$Field", "columns", "I", false)
  | 2 => ("CornWay$Field", "places", "I", false)
  | 3 => ("CornWay$Field", "open", "I", false)
  | 4 => ("CornWay$Field", "beginning", "I", false)
  | 5 => ("CornWay$Field", "spilt", "I", false)
  | 6 => ("CornWay$Field", "earsAt", "[I", true)
  | 7 => ("CornWay$Field", "besides", "[I", true)
  | _ => ("CornWay$Field", "around", "[I", true)
def tyX1 : Nat → FieldType := fun k => match k with
  | 0 => .int
  | 1 => .int
  | 2 => .int
  | 3 => .int
  | 4 => .int
  | 5 => .int
  | 6 => .array .int
  | 7 => .array .int
  | _ => .array .int
abbrev wsX10 : List Cond := u_ws RX1 TX1 9
theorem nmX1 : ∀ a, a < 9 → ∀ b, b < 9 → a ≠ b → (TX1 a).2.1 ≠ (TX1 b).2.1 := by decide +kernel
theorem tyX1_ok : ∀ k, k < 9 → parseFieldDescriptor (TX1 k).2.2.1 = some (tyX1 k) := by decide +kernel
abbrev cX1_init : ByteArray := prog_3_method_1_code
def yX1_init : MethodName := ⟨RX1, "<init>", "()V"⟩
abbrev cX1_lay : ByteArray := prog_3_method_2_code
def yX1_lay : MethodName := ⟨RX1, "lay", "(II)V"⟩
abbrev cX1_joinWithOthers : ByteArray := prog_3_method_3_code
def yX1_joinWithOthers : MethodName := ⟨RX1, "joinWithOthers", "(III)V"⟩
abbrev cX1_sowFrom : ByteArray := prog_3_method_4_code
def yX1_sowFrom : MethodName := ⟨RX1, "sowFrom", "([I)V"⟩
abbrev cX1_firstOpen : ByteArray := prog_3_method_5_code
def yX1_firstOpen : MethodName := ⟨RX1, "firstOpen", "()I"⟩
abbrev cX1_becomeLike : ByteArray := prog_3_method_6_code
def yX1_becomeLike : MethodName := ⟨RX1, "becomeLike", "(LCornWay$Field;)V"⟩
abbrev cX1_hasPlace : ByteArray := prog_3_method_7_code
def yX1_hasPlace : MethodName := ⟨RX1, "hasPlace", "(I)Z"⟩
abbrev cX1_isOpen : ByteArray := prog_3_method_8_code
def yX1_isOpen : MethodName := ⟨RX1, "isOpen", "(I)Z"⟩
abbrev cX1_beside : ByteArray := prog_3_method_9_code
def yX1_beside : MethodName := ⟨RX1, "beside", "(II)I"⟩
abbrev cX1_stepThatCanBe : ByteArray := prog_3_method_10_code
def yX1_stepThatCanBe : MethodName := ⟨RX1, "stepThatCanBe", "(III)I"⟩
abbrev cX1_isBlind : ByteArray := prog_3_method_11_code
def yX1_isBlind : MethodName := ⟨RX1, "isBlind", "(II)Z"⟩
abbrev cX1_freeFrom : ByteArray := prog_3_method_12_code
def yX1_freeFrom : MethodName := ⟨RX1, "freeFrom", "(I)I"⟩
abbrev cX1_brings : ByteArray := prog_3_method_13_code
def yX1_brings : MethodName := ⟨RX1, "brings", "(II)I"⟩
abbrev cX1_earsOf : ByteArray := prog_3_method_14_code
def yX1_earsOf : MethodName := ⟨RX1, "earsOf", "(I)I"⟩
abbrev cX1_reach : ByteArray := prog_3_method_15_code
def yX1_reach : MethodName := ⟨RX1, "reach", "(II)I"⟩
abbrev cX1_boundFrom : ByteArray := prog_3_method_16_code
def yX1_boundFrom : MethodName := ⟨RX1, "boundFrom", "(I)I"⟩
abbrev cX1_colour : ByteArray := prog_3_method_17_code
def yX1_colour : MethodName := ⟨RX1, "colour", "(I)I"⟩
abbrev cX1_stepNumbered : ByteArray := prog_3_method_18_code
def yX1_stepNumbered : MethodName := ⟨RX1, "stepNumbered", "(III)I"⟩
def RX2 : String := "CornWay$Walk"
def TX2 : u_T := fun k => match k with
  | 0 => ("CornWay$Walk", "end", "I", false)
  | 1 => ("CornWay$Walk", "steps", "I", false)
  | 2 => ("CornWay$Walk", "free", "I", false)
  | 3 => ("CornWay$Walk", "brought", "I", false)
  | _ => ("CornWay$Walk", "why", "I", false)
def tyX2 : Nat → FieldType := fun k => match k with
  | 0 => .int
  | 1 => .int
  | 2 => .int
  | 3 => .int
  | _ => .int
abbrev wsX20 : List Cond := u_ws RX2 TX2 5
theorem nmX2 : ∀ a, a < 5 → ∀ b, b < 5 → a ≠ b → (TX2 a).2.1 ≠ (TX2 b).2.1 := by decide +kernel
theorem tyX2_ok : ∀ k, k < 5 → parseFieldDescriptor (TX2 k).2.2.1 = some (tyX2 k) := by decide +kernel
abbrev cX2_init : ByteArray := prog_4_method_1_code
def yX2_init : MethodName := ⟨RX2, "<init>", "()V"⟩
abbrev cX2_beginOn : ByteArray := prog_4_method_2_code
def yX2_beginOn : MethodName := ⟨RX2, "beginOn", "(LCornWay$Field;)V"⟩
abbrev cX2_go : ByteArray := prog_4_method_3_code
def yX2_go : MethodName := ⟨RX2, "go", "(LCornWay$Field;I)Z"⟩
abbrev cX2_cut : ByteArray := prog_4_method_4_code
def yX2_cut : MethodName := ⟨RX2, "cut", "(LCornWay$Field;)I"⟩
def RX3 : String := "CornWay$Ways"
def TX3 : u_T := fun k => match k with
  | 0 => ("CornWay$Ways", "on", "LCornWay$Field;", false)
  | 1 => ("CornWay$Ways", "stepsBefore", "I", false)
  | 2 => ("CornWay$Ways", "mostDepth", "I", false)
  | 3 => ("CornWay$Ways", "begun", "Z", false)
  | 4 => ("CornWay$Ways", "depth", "I", false)
  | 5 => ("CornWay$Ways", "at", "[I", true)
  | 6 => ("CornWay$Ways", "free", "[I", true)
  | 7 => ("CornWay$Ways", "broughtAt", "[I", true)
  | _ => ("CornWay$Ways", "tried", "[I", true)
def tyX3 : Nat → FieldType := fun k => match k with
  | 0 => .object "CornWay$Field"
  | 1 => .int
  | 2 => .int
  | 3 => .boolean
  | 4 => .int
  | 5 => .array .int
  | 6 => .array .int
  | 7 => .array .int
  | _ => .array .int
abbrev wsX30 : List Cond := u_ws RX3 TX3 9
theorem nmX3 : ∀ a, a < 9 → ∀ b, b < 9 → a ≠ b → (TX3 a).2.1 ≠ (TX3 b).2.1 := by decide +kernel
theorem tyX3_ok : ∀ k, k < 9 → parseFieldDescriptor (TX3 k).2.2.1 = some (tyX3 k) := by decide +kernel
abbrev cX3_init : ByteArray := prog_5_method_1_code
def yX3_init : MethodName := ⟨RX3, "<init>", "()V"⟩
abbrev cX3_from : ByteArray := prog_5_method_2_code
def yX3_from : MethodName := ⟨RX3, "from", "(LCornWay$Field;II)V"⟩
abbrev cX3_goOn : ByteArray := prog_5_method_3_code
def yX3_goOn : MethodName := ⟨RX3, "goOn", "(LCornWay$Field;LCornWay$Walk;I)V"⟩
abbrev cX3_start : ByteArray := prog_5_method_4_code
def yX3_start : MethodName := ⟨RX3, "start", "(LCornWay$Field;II)V"⟩
abbrev cX3_next : ByteArray := prog_5_method_5_code
def yX3_next : MethodName := ⟨RX3, "next", "()Z"⟩
abbrev cX3_goTo : ByteArray := prog_5_method_6_code
def yX3_goTo : MethodName := ⟨RX3, "goTo", "(I)V"⟩
abbrev cX3_end : ByteArray := prog_5_method_7_code
def yX3_end : MethodName := ⟨RX3, "end", "()I"⟩
abbrev cX3_brought : ByteArray := prog_5_method_8_code
def yX3_brought : MethodName := ⟨RX3, "brought", "()I"⟩
abbrev cX3_leavesNothing : ByteArray := prog_5_method_9_code
def yX3_leavesNothing : MethodName := ⟨RX3, "leavesNothing", "()Z"⟩
def RX4 : String := "CornWay"
def TX4 : u_T := fun k => match k with
  | 0 => ("CornWay", "pad", "[I", true)
  | 1 => ("CornWay", "signs", "I", false)
  | 2 => ("CornWay", "corn", "LCornWay$Field;", true)
  | 3 => ("CornWay", "images", "[LCornWay$Field;", true)
  | 4 => ("CornWay", "padWay", "LCornWay$Walk;", true)
  | 5 => ("CornWay", "ways", "LCornWay$Ways;", true)
  | 6 => ("CornWay", "stormy", "LCornWay$Chosen;", true)
  | 7 => ("CornWay", "waysKnown", "Z", false)
  | 8 => ("CornWay", "longestWay", "LCornWay$Chosen;", true)
  | 9 => ("CornWay", "bestWay", "LCornWay$Chosen;", true)
  | 10 => ("CornWay", "allEnding", "[I", true)
  | 11 => ("CornWay", "whereKnown", "Z", false)
  | 12 => ("CornWay", "wherePlace", "I", false)
  | 13 => ("CornWay", "whereLongest", "I", false)
  | 14 => ("CornWay", "togetherKnown", "Z", false)
  | 15 => ("CornWay", "togetherCut", "I", false)
  | 16 => ("CornWay", "apartKnown", "Z", false)
  | _ => ("CornWay", "apartLead", "I", false)
def tyX4 : Nat → FieldType := fun k => match k with
  | 0 => .array .int
  | 1 => .int
  | 2 => .object "CornWay$Field"
  | 3 => .array (.object "CornWay$Field")
  | 4 => .object "CornWay$Walk"
  | 5 => .object "CornWay$Ways"
  | 6 => .object "CornWay$Chosen"
  | 7 => .boolean
  | 8 => .object "CornWay$Chosen"
  | 9 => .object "CornWay$Chosen"
  | 10 => .array .int
  | 11 => .boolean
  | 12 => .int
  | 13 => .int
  | 14 => .boolean
  | 15 => .int
  | 16 => .boolean
  | _ => .int
abbrev wsX40 : List Cond := u_ws RX4 TX4 18
theorem nmX4 : ∀ a, a < 18 → ∀ b, b < 18 → a ≠ b → (TX4 a).2.1 ≠ (TX4 b).2.1 := by decide +kernel
theorem tyX4_ok : ∀ k, k < 18 → parseFieldDescriptor (TX4 k).2.2.1 = some (tyX4 k) := by decide +kernel
abbrev cX4_init : ByteArray := prog_1_method_1_code
def yX4_init : MethodName := ⟨RX4, "<init>", "()V"⟩
abbrev cX4_field : ByteArray := prog_1_method_2_code
def yX4_field : MethodName := ⟨RX4, "field", "(II)I"⟩
abbrev cX4_say : ByteArray := prog_1_method_3_code
def yX4_say : MethodName := ⟨RX4, "say", "(I)I"⟩
abbrev cX4_wipe : ByteArray := prog_1_method_4_code
def yX4_wipe : MethodName := ⟨RX4, "wipe", "()I"⟩
abbrev cX4_fault : ByteArray := prog_1_method_5_code
def yX4_fault : MethodName := ⟨RX4, "fault", "(I)I"⟩
abbrev cX4_sow : ByteArray := prog_1_method_6_code
def yX4_sow : MethodName := ⟨RX4, "sow", "()I"⟩
abbrev cX4_ears : ByteArray := prog_1_method_7_code
def yX4_ears : MethodName := ⟨RX4, "ears", "(I)I"⟩
abbrev cX4_begin : ByteArray := prog_1_method_8_code
def yX4_begin : MethodName := ⟨RX4, "begin", "(I)I"⟩
abbrev cX4_spill : ByteArray := prog_1_method_9_code
def yX4_spill : MethodName := ⟨RX4, "spill", "(I)I"⟩
abbrev cX4_judge : ByteArray := prog_1_method_10_code
def yX4_judge : MethodName := ⟨RX4, "judge", "(I)I"⟩
abbrev cX4_way : ByteArray := prog_1_method_11_code
def yX4_way : MethodName := ⟨RX4, "way", "(I)I"⟩
abbrev cX4_longest : ByteArray := prog_1_method_12_code
def yX4_longest : MethodName := ⟨RX4, "longest", "(I)I"⟩
abbrev cX4_all : ByteArray := prog_1_method_13_code
def yX4_all : MethodName := ⟨RX4, "all", "(I)I"⟩
abbrev cX4_bound : ByteArray := prog_1_method_14_code
def yX4_bound : MethodName := ⟨RX4, "bound", "()I"⟩
abbrev cX4_best : ByteArray := prog_1_method_15_code
def yX4_best : MethodName := ⟨RX4, "best", "(I)I"⟩
abbrev cX4_storm : ByteArray := prog_1_method_16_code
def yX4_storm : MethodName := ⟨RX4, "storm", "(II)I"⟩
abbrev cX4_two : ByteArray := prog_1_method_17_code
def yX4_two : MethodName := ⟨RX4, "two", "()I"⟩
abbrev cX4_game : ByteArray := prog_1_method_18_code
def yX4_game : MethodName := ⟨RX4, "game", "()I"⟩
abbrev cX4_where : ByteArray := prog_1_method_19_code
def yX4_where : MethodName := ⟨RX4, "where", "(I)I"⟩
abbrev cX4_last : ByteArray := prog_1_method_20_code
def yX4_last : MethodName := ⟨RX4, "last", "()I"⟩
abbrev cX4_goesOn : ByteArray := prog_1_method_21_code
def yX4_goesOn : MethodName := ⟨RX4, "goesOn", "(I)I"⟩
abbrev cX4_drawn : ByteArray := prog_1_method_22_code
def yX4_drawn : MethodName := ⟨RX4, "drawn", "(II)I"⟩
abbrev cX4_image : ByteArray := prog_1_method_23_code
def yX4_image : MethodName := ⟨RX4, "image", "(I)I"⟩
abbrev cX4_restore : ByteArray := prog_1_method_24_code
def yX4_restore : MethodName := ⟨RX4, "restore", "(I)I"⟩
abbrev cX4_told : ByteArray := prog_1_method_25_code
def yX4_told : MethodName := ⟨RX4, "told", "(I)I"⟩
abbrev cX4_fieldFault : ByteArray := prog_1_method_26_code
def yX4_fieldFault : MethodName := ⟨RX4, "fieldFault", "()I"⟩
abbrev cX4_wayFault : ByteArray := prog_1_method_27_code
def yX4_wayFault : MethodName := ⟨RX4, "wayFault", "()I"⟩
abbrev cX4_padIsAllStones : ByteArray := prog_1_method_28_code
def yX4_padIsAllStones : MethodName := ⟨RX4, "padIsAllStones", "()Z"⟩
abbrev cX4_followPad : ByteArray := prog_1_method_29_code
def yX4_followPad : MethodName := ⟨RX4, "followPad", "()I"⟩
abbrev cX4_stepOfSign : ByteArray := prog_1_method_30_code
def yX4_stepOfSign : MethodName := ⟨RX4, "stepOfSign", "(I)I"⟩
abbrev cX4_forget : ByteArray := prog_1_method_31_code
def yX4_forget : MethodName := ⟨RX4, "forget", "()V"⟩
abbrev cX4_lookAtAllWays : ByteArray := prog_1_method_32_code
def yX4_lookAtAllWays : MethodName := ⟨RX4, "lookAtAllWays", "()V"⟩
abbrev cX4_lookWhere : ByteArray := prog_1_method_33_code
def yX4_lookWhere : MethodName := ⟨RX4, "lookWhere", "()V"⟩
abbrev cX4_longestFrom : ByteArray := prog_1_method_34_code
def yX4_longestFrom : MethodName := ⟨RX4, "longestFrom", "(I)I"⟩
abbrev cX4_cutTogether : ByteArray := prog_1_method_35_code
def yX4_cutTogether : MethodName := ⟨RX4, "cutTogether", "(LCornWay$Field;IIII)I"⟩
abbrev cX4_leadApart : ByteArray := prog_1_method_36_code
def yX4_leadApart : MethodName := ⟨RX4, "leadApart", "(LCornWay$Field;IIII)I"⟩
abbrev cX4_isIn : ByteArray := prog_1_method_37_code
def yX4_isIn : MethodName := ⟨RX4, "isIn", "(II)Z"⟩
def RX5 : String := "CornWayModel"
def TX5 : u_T := fun k => match k with
  | 0 => ("CornWayModel", "rows", "I", false)
  | 1 => ("CornWayModel", "columns", "I", false)
  | 2 => ("CornWayModel", "ears", "[I", true)
  | 3 => ("CornWayModel", "beginning", "I", false)
  | 4 => ("CornWayModel", "spill", "I", false)
  | 5 => ("CornWayModel", "pad", "[I", true)
  | 6 => ("CornWayModel", "padMany", "I", false)
  | 7 => ("CornWayModel", "wayCut", "I", false)
  | 8 => ("CornWayModel", "wayEnd", "I", false)
  | 9 => ("CornWayModel", "wayBrought", "I", false)
  | 10 => ("CornWayModel", "badStep", "I", false)
  | 11 => ("CornWayModel", "badWhy", "I", false)
  | 12 => ("CornWayModel", "value", "[I", true)
  | 13 => ("CornWayModel", "ways", "[I", true)
  | 14 => ("CornWayModel", "numberOf", "[I", true)
  | 15 => ("CornWayModel", "placeAt", "[I", true)
  | 16 => ("CornWayModel", "few", "I", false)
  | 17 => ("CornWayModel", "kept", "[I", true)
  | 18 => ("CornWayModel", "isKept", "[Z", true)
  | 19 => ("CornWayModel", "keptAt", "I", false)
  | _ => ("CornWayModel", "isWriting", "Z", false)
def tyX5 : Nat → FieldType := fun k => match k with
  | 0 => .int
  | 1 => .int
  | 2 => .array .int
  | 3 => .int
  | 4 => .int
  | 5 => .array .int
  | 6 => .int
  | 7 => .int
  | 8 => .int
  | 9 => .int
  | 10 => .int
  | 11 => .int
  | 12 => .array .int
  | 13 => .array .int
  | 14 => .array .int
  | 15 => .array .int
  | 16 => .int
  | 17 => .array .int
  | 18 => .array .boolean
  | 19 => .int
  | _ => .boolean
abbrev wsX50 : List Cond := u_ws RX5 TX5 21
theorem nmX5 : ∀ a, a < 21 → ∀ b, b < 21 → a ≠ b → (TX5 a).2.1 ≠ (TX5 b).2.1 := by decide +kernel
theorem tyX5_ok : ∀ k, k < 21 → parseFieldDescriptor (TX5 k).2.2.1 = some (tyX5 k) := by decide +kernel
abbrev cX5_init : ByteArray := prog_7_method_1_code
def yX5_init : MethodName := ⟨RX5, "<init>", "()V"⟩
abbrev cX5_in : ByteArray := prog_7_method_3_code
def yX5_in : MethodName := ⟨RX5, "in", "(JJJ)Z"⟩
abbrev cX5_ones : ByteArray := prog_7_method_4_code
def yX5_ones : MethodName := ⟨RX5, "ones", "(I)I"⟩
abbrev cX5_lay : ByteArray := prog_7_method_5_code
def yX5_lay : MethodName := ⟨RX5, "lay", "(II)V"⟩
abbrev cX5_places : ByteArray := prog_7_method_6_code
def yX5_places : MethodName := ⟨RX5, "places", "()I"⟩
abbrev cX5_isPlace : ByteArray := prog_7_method_7_code
def yX5_isPlace : MethodName := ⟨RX5, "isPlace", "(I)Z"⟩
abbrev cX5_field : ByteArray := prog_7_method_8_code
def yX5_field : MethodName := ⟨RX5, "field", "(II)I"⟩
abbrev cX5_say : ByteArray := prog_7_method_9_code
def yX5_say : MethodName := ⟨RX5, "say", "(I)I"⟩
abbrev cX5_wipe : ByteArray := prog_7_method_10_code
def yX5_wipe : MethodName := ⟨RX5, "wipe", "()I"⟩
abbrev cX5_faultOfField : ByteArray := prog_7_method_11_code
def yX5_faultOfField : MethodName := ⟨RX5, "faultOfField", "()I"⟩
abbrev cX5_wayOf : ByteArray := prog_7_method_12_code
def yX5_wayOf : MethodName := ⟨RX5, "wayOf", "(I)I"⟩
abbrev cX5_signOf : ByteArray := prog_7_method_13_code
def yX5_signOf : MethodName := ⟨RX5, "signOf", "(I)I"⟩
abbrev cX5_faultOfWay : ByteArray := prog_7_method_14_code
def yX5_faultOfWay : MethodName := ⟨RX5, "faultOfWay", "()I"⟩
abbrev cX5_fault : ByteArray := prog_7_method_15_code
def yX5_fault : MethodName := ⟨RX5, "fault", "(I)I"⟩
abbrev cX5_open : ByteArray := prog_7_method_16_code
def yX5_open : MethodName := ⟨RX5, "open", "()I"⟩
abbrev cX5_sow : ByteArray := prog_7_method_17_code
def yX5_sow : MethodName := ⟨RX5, "sow", "()I"⟩
abbrev cX5_ears : ByteArray := prog_7_method_18_code
def yX5_ears : MethodName := ⟨RX5, "ears", "(I)I"⟩
abbrev cX5_begin : ByteArray := prog_7_method_19_code
def yX5_begin : MethodName := ⟨RX5, "begin", "(I)I"⟩
abbrev cX5_spill : ByteArray := prog_7_method_20_code
def yX5_spill : MethodName := ⟨RX5, "spill", "(I)I"⟩
abbrev cX5_beside : ByteArray := prog_7_method_21_code
def yX5_beside : MethodName := ⟨RX5, "beside", "(II)I"⟩
abbrev cX5_next : ByteArray := prog_7_method_22_code
def yX5_next : MethodName := ⟨RX5, "next", "(III)I"⟩
abbrev cX5_isBlind : ByteArray := prog_7_method_23_code
def yX5_isBlind : MethodName := ⟨RX5, "isBlind", "(II)Z"⟩
abbrev cX5_brings : ByteArray := prog_7_method_24_code
def yX5_brings : MethodName := ⟨RX5, "brings", "(II)I"⟩
abbrev cX5_goWay : ByteArray := prog_7_method_25_code
def yX5_goWay : MethodName := ⟨RX5, "goWay", "()Z"⟩
abbrev cX5_judge : ByteArray := prog_7_method_26_code
def yX5_judge : MethodName := ⟨RX5, "judge", "(I)I"⟩
abbrev cX5_reachable : ByteArray := prog_7_method_27_code
def yX5_reachable : MethodName := ⟨RX5, "reachable", "(II)I"⟩
abbrev cX5_earsOf : ByteArray := prog_7_method_28_code
def yX5_earsOf : MethodName := ⟨RX5, "earsOf", "(I)I"⟩
abbrev cX5_way : ByteArray := prog_7_method_29_code
def yX5_way : MethodName := ⟨RX5, "way", "(I)I"⟩
abbrev cX5_at : ByteArray := prog_7_method_30_code
def yX5_at : MethodName := ⟨RX5, "at", "(II)I"⟩
abbrev cX5_findLongest : ByteArray := prog_7_method_31_code
def yX5_findLongest : MethodName := ⟨RX5, "findLongest", "()V"⟩
abbrev cX5_longest : ByteArray := prog_7_method_32_code
def yX5_longest : MethodName := ⟨RX5, "longest", "(I)I"⟩
abbrev cX5_findWays : ByteArray := prog_7_method_33_code
def yX5_findWays : MethodName := ⟨RX5, "findWays", "(II)V"⟩
abbrev cX5_all : ByteArray := prog_7_method_34_code
def yX5_all : MethodName := ⟨RX5, "all", "(I)I"⟩
abbrev cX5_bound : ByteArray := prog_7_method_35_code
def yX5_bound : MethodName := ⟨RX5, "bound", "()I"⟩
abbrev cX5_findBest : ByteArray := prog_7_method_36_code
def yX5_findBest : MethodName := ⟨RX5, "findBest", "(I)V"⟩
abbrev cX5_bestWay : ByteArray := prog_7_method_37_code
def yX5_bestWay : MethodName := ⟨RX5, "bestWay", "(II)I"⟩
abbrev cX5_bestFrom : ByteArray := prog_7_method_38_code
def yX5_bestFrom : MethodName := ⟨RX5, "bestFrom", "(II)I"⟩
abbrev cX5_best : ByteArray := prog_7_method_39_code
def yX5_best : MethodName := ⟨RX5, "best", "(I)I"⟩
abbrev cX5_storm : ByteArray := prog_7_method_40_code
def yX5_storm : MethodName := ⟨RX5, "storm", "(II)I"⟩
abbrev cX5_areFew : ByteArray := prog_7_method_41_code
def yX5_areFew : MethodName := ⟨RX5, "areFew", "()Z"⟩
abbrev cX5_stand : ByteArray := prog_7_method_42_code
def yX5_stand : MethodName := ⟨RX5, "stand", "(IIII)I"⟩
abbrev cX5_nextFew : ByteArray := prog_7_method_43_code
def yX5_nextFew : MethodName := ⟨RX5, "nextFew", "(III)I"⟩
abbrev cX5_bestStep : ByteArray := prog_7_method_44_code
def yX5_bestStep : MethodName := ⟨RX5, "bestStep", "(IIIIZ)I"⟩
abbrev cX5_goTwo : ByteArray := prog_7_method_45_code
def yX5_goTwo : MethodName := ⟨RX5, "goTwo", "(Z)I"⟩
abbrev cX5_two : ByteArray := prog_7_method_46_code
def yX5_two : MethodName := ⟨RX5, "two", "()I"⟩
abbrev cX5_game : ByteArray := prog_7_method_47_code
def yX5_game : MethodName := ⟨RX5, "game", "()I"⟩
abbrev cX5_where : ByteArray := prog_7_method_48_code
def yX5_where : MethodName := ⟨RX5, "where", "(I)I"⟩
abbrev cX5_last : ByteArray := prog_7_method_49_code
def yX5_last : MethodName := ⟨RX5, "last", "()I"⟩
abbrev cX5_goesOn : ByteArray := prog_7_method_50_code
def yX5_goesOn : MethodName := ⟨RX5, "goesOn", "(I)I"⟩
abbrev cX5_drawn : ByteArray := prog_7_method_51_code
def yX5_drawn : MethodName := ⟨RX5, "drawn", "(II)I"⟩
abbrev cX5_pass : ByteArray := prog_7_method_52_code
def yX5_pass : MethodName := ⟨RX5, "pass", "(I)I"⟩
abbrev cX5_passAll : ByteArray := prog_7_method_53_code
def yX5_passAll : MethodName := ⟨RX5, "passAll", "()V"⟩
abbrev cX5_image : ByteArray := prog_7_method_54_code
def yX5_image : MethodName := ⟨RX5, "image", "(I)I"⟩
abbrev cX5_restore : ByteArray := prog_7_method_55_code
def yX5_restore : MethodName := ⟨RX5, "restore", "(I)I"⟩
abbrev cX5_told : ByteArray := prog_7_method_56_code
def yX5_told : MethodName := ⟨RX5, "told", "(I)I"⟩
def RJ6 : String := "java/lang/Integer"
def TJ6 : u_T := fun k => match k with
  | _ => ("", "", "", false)
def tyJ6 : Nat → FieldType := fun k => match k with
  | _ => .int
abbrev wsJ60 : List Cond := u_ws RJ6 TJ6 0
theorem nmJ6 : ∀ a, a < 0 → ∀ b, b < 0 → a ≠ b → (TJ6 a).2.1 ≠ (TJ6 b).2.1 := by decide +kernel
theorem tyJ6_ok : ∀ k, k < 0 → parseFieldDescriptor (TJ6 k).2.2.1 = some (tyJ6 k) := by decide +kernel
abbrev cJ6_bitCount_0f7a4 : ByteArray := prog_8_method_49_code
def yJ6_bitCount_0f7a4 : MethodName := ⟨RJ6, "bitCount", "(I)I"⟩
def RJ9 : String := "java/lang/Math"
def TJ9 : u_T := fun k => match k with
  | _ => ("", "", "", false)
def tyJ9 : Nat → FieldType := fun k => match k with
  | _ => .int
abbrev wsJ90 : List Cond := u_ws RJ9 TJ9 0
theorem nmJ9 : ∀ a, a < 0 → ∀ b, b < 0 → a ≠ b → (TJ9 a).2.1 ≠ (TJ9 b).2.1 := by decide +kernel
theorem tyJ9_ok : ∀ k, k < 0 → parseFieldDescriptor (TJ9 k).2.2.1 = some (tyJ9 k) := by decide +kernel
abbrev cJ9_max_7cf53 : ByteArray := prog_9_method_65_code
def yJ9_max_7cf53 : MethodName := ⟨RJ9, "max", "(II)I"⟩
abbrev cJ9_min_7cf53 : ByteArray := prog_9_method_69_code
def yJ9_min_7cf53 : MethodName := ⟨RJ9, "min", "(II)I"⟩
def RJ10 : String := "java/lang/System"
def TJ10 : u_T := fun k => match k with
  | _ => ("", "", "", false)
def tyJ10 : Nat → FieldType := fun k => match k with
  | _ => .int
abbrev wsJ100 : List Cond := u_ws RJ10 TJ10 0
theorem nmJ10 : ∀ a, a < 0 → ∀ b, b < 0 → a ≠ b → (TJ10 a).2.1 ≠ (TJ10 b).2.1 := by decide +kernel
theorem tyJ10_ok : ∀ k, k < 0 → parseFieldDescriptor (TJ10 k).2.2.1 = some (tyJ10 k) := by decide +kernel
def RL : String := "CornWayLaw"
abbrev cL_law : ByteArray := code
def yL_law : MethodName := ⟨RL, "law", "([I)Z"⟩
end
section
-- tables of the methods: (place, instruction, length, operands, places of words)
abbrev AEn : Type := Nat × Instr × Nat × List Nat × List Nat
abbrev AMt : Type := MethodName × ByteArray × Nat × Option FieldType × List AEn
def tb_0 : List AEn := [(0, .iload_n 0, 1, [0], []),
  (1, .iload_n 0, 1, [0], []),
  (2, .iconst 1, 1, [1], []),
  (3, .iushr, 1, [], []),
  (4, .ldc_w 265, 3, [1431655765], [343]),
  (7, .iand, 1, [], []),
  (8, .isub, 1, [], []),
  (9, .istore_n 0, 1, [0], []),
  (10, .iload_n 0, 1, [0], []),
  (11, .ldc_w 266, 3, [858993459], [344]),
  (14, .iand, 1, [], []),
  (15, .iload_n 0, 1, [0], []),
  (16, .iconst 2, 1, [2], []),
  (17, .iushr, 1, [], []),
  (18, .ldc_w 266, 3, [858993459], [344]),
  (21, .iand, 1, [], []),
  (22, .iadd, 1, [], []),
  (23, .istore_n 0, 1, [0], []),
  (24, .iload_n 0, 1, [0], []),
  (25, .iload_n 0, 1, [0], []),
  (26, .iconst 4, 1, [4], []),
  (27, .iushr, 1, [], []),
  (28, .iadd, 1, [], []),
  (29, .ldc_w 267, 3, [252645135], [345]),
  (32, .iand, 1, [], []),
  (33, .istore_n 0, 1, [0], []),
  (34, .iload_n 0, 1, [0], []),
  (35, .iload_n 0, 1, [0], []),
  (36, .bipush 8, 2, [8], []),
  (38, .iushr, 1, [], []),
  (39, .iadd, 1, [], []),
  (40, .istore_n 0, 1, [0], []),
  (41, .iload_n 0, 1, [0], []),
  (42, .iload_n 0, 1, [0], []),
  (43, .bipush 16, 2, [16], []),
  (45, .iushr, 1, [], []),
  (46, .iadd, 1, [], []),
  (47, .istore_n 0, 1, [0], []),
  (48, .iload_n 0, 1, [0], []),
  (49, .bipush 63, 2, [63], []),
  (51, .iand, 1, [], []),
  (52, .ireturn, 1, [0], [])]
def mt_0 : AMt := (yJ6_bitCount_0f7a4, cJ6_bitCount_0f7a4, 1, (some .int), tb_0)
def tb_1 : List AEn := [(0, .aload_n 0, 1, [0], []),
  (1, .invokespecial 3, 3, [0], [199, 79, 80]),
  (4, .aload_n 0, 1, [0], []),
  (5, .bipush 16, 2, [16], []),
  (7, .newarray .int, 2, [0, 16], [124]),
  (9, .putfield 9, 3, [0, 2, 2], [203, 0, 1]),
  (12, .return_, 1, [], [])]
def mt_1 : AMt := (yX0_init, cX0_init, 1, none, tb_1)
def tb_2 : List AEn := [(0, .aload_n 0, 1, [0], []),
  (1, .iconst (-1), 1, [0, 1], []),
  (2, .putfield 15, 3, [0, 0, 0], [200, 0, 0]),
  (5, .aload_n 0, 1, [0], []),
  (6, .iconst 0, 1, [0], []),
  (7, .putfield 19, 3, [0, 1, 0], [202, 0, 0]),
  (10, .return_, 1, [], [])]
def mt_2 : AMt := (yX0_clear, cX0_clear, 1, none, tb_2)
def tb_3 : List AEn := [(0, .iload_n 2, 1, [2], []),
  (1, .aload_n 0, 1, [0], []),
  (2, .getfield 15, 3, [0, 0], [200, 0]),
  (5, .if_icmp .lt 22, 3, [13], []),
  (8, .iload_n 2, 1, [2], []),
  (9, .aload_n 0, 1, [0], []),
  (10, .getfield 15, 3, [0, 0], [200, 0]),
  (13, .if_icmp .ne 15, 3, [14], []),
  (16, .aload_n 1, 1, [1], []),
  (17, .getfield 22, 3, [3, 4], [167, 1]),
  (20, .aload_n 0, 1, [0], []),
  (21, .getfield 19, 3, [0, 1], [202, 0]),
  (24, .if_icmp .lt 4, 3, [14], []),
  (27, .return_, 1, [], []),
  (28, .aload_n 0, 1, [0], []),
  (29, .iload_n 2, 1, [2], []),
  (30, .putfield 15, 3, [0, 0, 0], [200, 0, 0]),
  (33, .aload_n 0, 1, [0], []),
  (34, .aload_n 1, 1, [1], []),
  (35, .getfield 22, 3, [3, 4], [167, 1]),
  (38, .putfield 19, 3, [0, 1, 0], [202, 0, 0]),
  (41, .iconst 0, 1, [0], []),
  (42, .istore_n 3, 1, [3], []),
  (43, .iload_n 3, 1, [3], []),
  (44, .aload_n 0, 1, [0], []),
  (45, .getfield 19, 3, [0, 1], [202, 0]),
  (48, .if_icmp .ge 23, 3, [39], []),
  (51, .aload_n 0, 1, [0], []),
  (52, .getfield 9, 3, [0, 2], [203, 0]),
  (55, .iload_n 3, 1, [3], []),
  (56, .aload_n 1, 1, [1], []),
  (57, .getfield 27, 3, [3, 8], [174, 1]),
  (60, .iload_n 3, 1, [3], []),
  (61, .iaload, 1, [], []),
  (62, .iconst 1, 1, [1], []),
  (63, .isub, 1, [], []),
  (64, .iastore, 1, [], []),
  (65, .iinc 3 1, 3, [3, 1], []),
  (68, .goto (-25), 3, [23], []),
  (71, .return_, 1, [], [])]
def mt_3 : AMt := (yX0_offer, cX0_offer, 4, none, tb_3)
def tb_4 : List AEn := [(0, .iload_n 1, 1, [1], []),
  (1, .ifCond .lt 30, 3, [17], []),
  (4, .iload_n 1, 1, [1], []),
  (5, .aload_n 0, 1, [0], []),
  (6, .getfield 19, 3, [0, 1], [202, 0]),
  (9, .if_icmp .ge 22, 3, [17], []),
  (12, .aload_n 0, 1, [0], []),
  (13, .getfield 9, 3, [0, 2], [203, 0]),
  (16, .iload_n 1, 1, [1], []),
  (17, .iaload, 1, [], []),
  (18, .ifCond .lt 13, 3, [17], []),
  (21, .aload_n 0, 1, [0], []),
  (22, .getfield 9, 3, [0, 2], [203, 0]),
  (25, .iload_n 1, 1, [1], []),
  (26, .iaload, 1, [], []),
  (27, .iconst 4, 1, [4], []),
  (28, .if_icmp .lt 6, 3, [19], []),
  (31, .bipush (-6), 2, [0, 6], []),
  (33, .ireturn, 1, [0], []),
  (34, .getstatic 30, 3, [1], [471, 1]),
  (37, .aload_n 0, 1, [0], []),
  (38, .getfield 9, 3, [0, 2], [203, 0]),
  (41, .iload_n 1, 1, [1], []),
  (42, .iaload, 1, [], []),
  (43, .iaload, 1, [], []),
  (44, .ireturn, 1, [0], [])]
def mt_4 : AMt := (yX0_signOf, cX0_signOf, 2, (some .int), tb_4)
def tb_5 : List AEn := [(0, .aload_n 0, 1, [0], []),
  (1, .invokespecial 3, 3, [0], [86, 79, 80]),
  (4, .aload_n 0, 1, [0], []),
  (5, .bipush 16, 2, [16], []),
  (7, .newarray .int, 2, [0, 16], [124]),
  (9, .putfield 9, 3, [1, 6, 2], [101, 0, 1]),
  (12, .aload_n 0, 1, [0], []),
  (13, .bipush 64, 2, [64], []),
  (15, .newarray .int, 2, [0, 64], [124]),
  (17, .putfield 15, 3, [1, 7, 2], [103, 0, 1]),
  (20, .aload_n 0, 1, [0], []),
  (21, .bipush 16, 2, [16], []),
  (23, .newarray .int, 2, [0, 16], [124]),
  (25, .putfield 18, 3, [1, 8, 2], [104, 0, 1]),
  (28, .return_, 1, [], [])]
def mt_5 : AMt := (yX1_init, cX1_init, 1, none, tb_5)
def tb_6 : List AEn := [(0, .aload_n 0, 1, [0], []),
  (1, .iload_n 1, 1, [1], []),
  (2, .putfield 21, 3, [1, 0, 0], [87, 0, 0]),
  (5, .aload_n 0, 1, [0], []),
  (6, .iload_n 2, 1, [2], []),
  (7, .putfield 25, 3, [1, 1, 0], [89, 0, 0]),
  (10, .aload_n 0, 1, [0], []),
  (11, .bipush 16, 2, [16], []),
  (13, .iload_n 1, 1, [1], []),
  (14, .iload_n 2, 1, [2], []),
  (15, .imul, 1, [], []),
  (16, .invokestatic 28, 3, [0, 0, 1], [215, 216, 69, 217]),
  (19, .putfield 34, 3, [1, 2, 0], [91, 0, 0]),
  (22, .aload_n 0, 1, [0], []),
  (23, .iconst 1, 1, [1], []),
  (24, .aload_n 0, 1, [0], []),
  (25, .getfield 34, 3, [1, 2], [91, 0]),
  (28, .ishl, 1, [], []),
  (29, .iconst 1, 1, [1], []),
  (30, .isub, 1, [], []),
  (31, .putfield 37, 3, [1, 3, 0], [93, 0, 0]),
  (34, .aload_n 0, 1, [0], []),
  (35, .iconst 0, 1, [0], []),
  (36, .putfield 40, 3, [1, 4, 0], [97, 0, 0]),
  (39, .iconst 0, 1, [0], []),
  (40, .istore_n 3, 1, [3], []),
  (41, .iload_n 3, 1, [3], []),
  (42, .aload_n 0, 1, [0], []),
  (43, .getfield 34, 3, [1, 2], [91, 0]),
  (46, .if_icmp .ge 41, 3, [52], []),
  (49, .aload_n 0, 1, [0], []),
  (50, .getfield 9, 3, [1, 6], [101, 0]),
  (53, .iload_n 3, 1, [3], []),
  (54, .iconst 1, 1, [1], []),
  (55, .iastore, 1, [], []),
  (56, .aload_n 0, 1, [0], []),
  (57, .iload_n 3, 1, [3], []),
  (58, .iload_n 3, 1, [3], []),
  (59, .iconst 1, 1, [1], []),
  (60, .aload_n 0, 1, [0], []),
  (61, .getfield 25, 3, [1, 1], [89, 0]),
  (64, .invokestatic 43, 3, [0, 0, 0], [218, 219, 69, 220]),
  (67, .idiv, 1, [], []),
  (68, .iload_n 3, 1, [3], []),
  (69, .iconst 1, 1, [1], []),
  (70, .aload_n 0, 1, [0], []),
  (71, .getfield 25, 3, [1, 1], [89, 0]),
  (74, .invokestatic 43, 3, [0, 0, 0], [218, 219, 69, 220]),
  (77, .irem, 1, [], []),
  (78, .invokevirtual 46, 3, [7, 4, 1], [221, 0, 223, 1, 65, 224]),
  (81, .iinc 3 1, 3, [3, 1], []),
  (84, .goto (-43), 3, [26], []),
  (87, .return_, 1, [], [])]
def mt_6 : AMt := (yX1_lay, cX1_lay, 4, none, tb_6)
def tb_7 : List AEn := [(0, .aload_n 0, 1, [0], []),
  (1, .getfield 18, 3, [1, 8], [104, 0]),
  (4, .iload_n 1, 1, [1], []),
  (5, .iconst 0, 1, [0], []),
  (6, .iastore, 1, [], []),
  (7, .iconst 0, 1, [0], []),
  (8, .istore 4, 2, [4], []),
  (10, .iload 4, 2, [4], []),
  (12, .iconst 4, 1, [4], []),
  (13, .if_icmp .ge 116, 3, [72], []),
  (16, .iload_n 2, 1, [2], []),
  (17, .getstatic 50, 3, [2], [225, 1]),
  (20, .iload 4, 2, [4], []),
  (22, .iaload, 1, [], []),
  (23, .iadd, 1, [], []),
  (24, .istore 5, 2, [5], []),
  (26, .iload_n 3, 1, [3], []),
  (27, .getstatic 53, 3, [3], [227, 1]),
  (30, .iload 4, 2, [4], []),
  (32, .iaload, 1, [], []),
  (33, .iadd, 1, [], []),
  (34, .istore 6, 2, [6], []),
  (36, .iload 5, 2, [5], []),
  (38, .ifCond .lt 30, 3, [36], []),
  (41, .iload 5, 2, [5], []),
  (43, .aload_n 0, 1, [0], []),
  (44, .getfield 21, 3, [1, 0], [87, 0]),
  (47, .if_icmp .ge 21, 3, [36], []),
  (50, .iload 6, 2, [6], []),
  (52, .ifCond .lt 16, 3, [36], []),
  (55, .iload 6, 2, [6], []),
  (57, .aload_n 0, 1, [0], []),
  (58, .getfield 25, 3, [1, 1], [89, 0]),
  (61, .if_icmp .ge 7, 3, [36], []),
  (64, .iconst 1, 1, [1], []),
  (65, .goto 4, 3, [37], []),
  (68, .iconst 0, 1, [0], []),
  (69, .istore 7, 2, [7], []),
  (71, .iload 7, 2, [7], []),
  (73, .ifCond .eq 16, 3, [47], []),
  (76, .iload 5, 2, [5], []),
  (78, .aload_n 0, 1, [0], []),
  (79, .getfield 25, 3, [1, 1], [89, 0]),
  (82, .imul, 1, [], []),
  (83, .iload 6, 2, [6], []),
  (85, .iadd, 1, [], []),
  (86, .goto 4, 3, [48], []),
  (89, .iconst (-1), 1, [0, 1], []),
  (90, .istore 8, 2, [8], []),
  (92, .aload_n 0, 1, [0], []),
  (93, .getfield 15, 3, [1, 7], [103, 0]),
  (96, .iload_n 1, 1, [1], []),
  (97, .iconst 4, 1, [4], []),
  (98, .imul, 1, [], []),
  (99, .iload 4, 2, [4], []),
  (101, .iadd, 1, [], []),
  (102, .iload 8, 2, [8], []),
  (104, .iastore, 1, [], []),
  (105, .iload 7, 2, [7], []),
  (107, .ifCond .eq 16, 3, [70], []),
  (110, .aload_n 0, 1, [0], []),
  (111, .getfield 18, 3, [1, 8], [104, 0]),
  (114, .iload_n 1, 1, [1], []),
  (115, .dup2, 1, [], []),
  (116, .iaload, 1, [], []),
  (117, .iconst 1, 1, [1], []),
  (118, .iload 8, 2, [8], []),
  (120, .ishl, 1, [], []),
  (121, .ior, 1, [], []),
  (122, .iastore, 1, [], []),
  (123, .iinc 4 1, 3, [4, 1], []),
  (126, .goto (-116), 3, [7], []),
  (129, .return_, 1, [], [])]
def mt_7 : AMt := (yX1_joinWithOthers, cX1_joinWithOthers, 9, none, tb_7)
def tb_8 : List AEn := [(0, .aload_n 0, 1, [0], []),
  (1, .iconst 0, 1, [0], []),
  (2, .putfield 37, 3, [1, 3, 0], [93, 0, 0]),
  (5, .iconst 0, 1, [0], []),
  (6, .istore_n 2, 1, [2], []),
  (7, .iload_n 2, 1, [2], []),
  (8, .aload_n 0, 1, [0], []),
  (9, .getfield 34, 3, [1, 2], [91, 0]),
  (12, .if_icmp .ge 57, 3, [43], []),
  (15, .iload_n 2, 1, [2], []),
  (16, .aload_n 1, 1, [1], []),
  (17, .arraylength, 1, [], []),
  (18, .if_icmp .ge 51, 3, [43], []),
  (21, .aload_n 1, 1, [1], []),
  (22, .iload_n 2, 1, [2], []),
  (23, .iaload, 1, [], []),
  (24, .bipush 35, 2, [35], []),
  (26, .if_icmp .ne 13, 3, [24], []),
  (29, .aload_n 0, 1, [0], []),
  (30, .getfield 9, 3, [1, 6], [101, 0]),
  (33, .iload_n 2, 1, [2], []),
  (34, .iconst (-1), 1, [0, 1], []),
  (35, .iastore, 1, [], []),
  (36, .goto 27, 3, [41], []),
  (39, .aload_n 0, 1, [0], []),
  (40, .getfield 9, 3, [1, 6], [101, 0]),
  (43, .iload_n 2, 1, [2], []),
  (44, .aload_n 1, 1, [1], []),
  (45, .iload_n 2, 1, [2], []),
  (46, .iaload, 1, [], []),
  (47, .bipush 48, 2, [48], []),
  (49, .isub, 1, [], []),
  (50, .iastore, 1, [], []),
  (51, .aload_n 0, 1, [0], []),
  (52, .dup, 1, [], []),
  (53, .getfield 37, 3, [1, 3], [93, 0]),
  (56, .iconst 1, 1, [1], []),
  (57, .iload_n 2, 1, [2], []),
  (58, .ishl, 1, [], []),
  (59, .ior, 1, [], []),
  (60, .putfield 37, 3, [1, 3, 0], [93, 0, 0]),
  (63, .iinc 2 1, 3, [2, 1], []),
  (66, .goto (-59), 3, [5], []),
  (69, .aload_n 0, 1, [0], []),
  (70, .aload_n 0, 1, [0], []),
  (71, .invokevirtual 56, 3, [9, 1, 1], [329, 0, 331, 7, 65, 332]),
  (74, .putfield 40, 3, [1, 4, 0], [97, 0, 0]),
  (77, .return_, 1, [], [])]
def mt_8 : AMt := (yX1_sowFrom, cX1_sowFrom, 3, none, tb_8)
def tb_9 : List AEn := [(0, .iconst 0, 1, [0], []),
  (1, .istore_n 1, 1, [1], []),
  (2, .iload_n 1, 1, [1], []),
  (3, .aload_n 0, 1, [0], []),
  (4, .getfield 34, 3, [1, 2], [91, 0]),
  (7, .if_icmp .ge 19, 3, [14], []),
  (10, .aload_n 0, 1, [0], []),
  (11, .iload_n 1, 1, [1], []),
  (12, .invokevirtual 60, 3, [12, 2, 1], [333, 0, 335, 8, 65, 336]),
  (15, .ifCond .eq 5, 3, [12], []),
  (18, .iload_n 1, 1, [1], []),
  (19, .ireturn, 1, [0], []),
  (20, .iinc 1 1, 3, [1, 1], []),
  (23, .goto (-21), 3, [2], []),
  (26, .iconst 0, 1, [0], []),
  (27, .ireturn, 1, [0], [])]
def mt_9 : AMt := (yX1_firstOpen, cX1_firstOpen, 2, (some .int), tb_9)
def tb_10 : List AEn := [(0, .aload_n 0, 1, [0], []),
  (1, .aload_n 1, 1, [1], []),
  (2, .getfield 21, 3, [1, 0], [87, 0]),
  (5, .putfield 21, 3, [1, 0, 0], [87, 0, 0]),
  (8, .aload_n 0, 1, [0], []),
  (9, .aload_n 1, 1, [1], []),
  (10, .getfield 25, 3, [1, 1], [89, 0]),
  (13, .putfield 25, 3, [1, 1, 0], [89, 0, 0]),
  (16, .aload_n 0, 1, [0], []),
  (17, .aload_n 1, 1, [1], []),
  (18, .getfield 34, 3, [1, 2], [91, 0]),
  (21, .putfield 34, 3, [1, 2, 0], [91, 0, 0]),
  (24, .aload_n 0, 1, [0], []),
  (25, .aload_n 1, 1, [1], []),
  (26, .getfield 37, 3, [1, 3], [93, 0]),
  (29, .putfield 37, 3, [1, 3, 0], [93, 0, 0]),
  (32, .aload_n 0, 1, [0], []),
  (33, .aload_n 1, 1, [1], []),
  (34, .getfield 40, 3, [1, 4], [97, 0]),
  (37, .putfield 40, 3, [1, 4, 0], [97, 0, 0]),
  (40, .aload_n 0, 1, [0], []),
  (41, .aload_n 1, 1, [1], []),
  (42, .getfield 64, 3, [1, 5], [99, 0]),
  (45, .putfield 64, 3, [1, 5, 0], [99, 0, 0]),
  (48, .aload_n 1, 1, [1], []),
  (49, .getfield 9, 3, [1, 6], [101, 0]),
  (52, .iconst 0, 1, [0], []),
  (53, .aload_n 0, 1, [0], []),
  (54, .getfield 9, 3, [1, 6], [101, 0]),
  (57, .iconst 0, 1, [0], []),
  (58, .bipush 16, 2, [16], []),
  (60, .invokestatic 67, 3, [0], [558, 560, 559, 72]),
  (63, .aload_n 1, 1, [1], []),
  (64, .getfield 15, 3, [1, 7], [103, 0]),
  (67, .iconst 0, 1, [0], []),
  (68, .aload_n 0, 1, [0], []),
  (69, .getfield 15, 3, [1, 7], [103, 0]),
  (72, .iconst 0, 1, [0], []),
  (73, .bipush 64, 2, [64], []),
  (75, .invokestatic 67, 3, [0], [558, 560, 559, 72]),
  (78, .aload_n 1, 1, [1], []),
  (79, .getfield 18, 3, [1, 8], [104, 0]),
  (82, .iconst 0, 1, [0], []),
  (83, .aload_n 0, 1, [0], []),
  (84, .getfield 18, 3, [1, 8], [104, 0]),
  (87, .iconst 0, 1, [0], []),
  (88, .bipush 16, 2, [16], []),
  (90, .invokestatic 67, 3, [0], [558, 560, 559, 72]),
  (93, .return_, 1, [], [])]
def mt_10 : AMt := (yX1_becomeLike, cX1_becomeLike, 2, none, tb_10)
def tb_11 : List AEn := [(0, .iload_n 1, 1, [1], []),
  (1, .ifCond .lt 15, 3, [8], []),
  (4, .iload_n 1, 1, [1], []),
  (5, .aload_n 0, 1, [0], []),
  (6, .getfield 34, 3, [1, 2], [91, 0]),
  (9, .if_icmp .ge 7, 3, [8], []),
  (12, .iconst 1, 1, [1], []),
  (13, .goto 4, 3, [9], []),
  (16, .iconst 0, 1, [0], []),
  (17, .ireturn, 1, [1], [])]
def mt_11 : AMt := (yX1_hasPlace, cX1_hasPlace, 2, (some .boolean), tb_11)
def tb_12 : List AEn := [(0, .aload_n 0, 1, [0], []),
  (1, .getfield 37, 3, [1, 3], [93, 0]),
  (4, .iload_n 1, 1, [1], []),
  (5, .invokestatic 73, 3, [72, 2], [337, 1, 338, 64, 339]),
  (8, .ireturn, 1, [1], [])]
def mt_12 : AMt := (yX1_isOpen, cX1_isOpen, 2, (some .boolean), tb_12)
def tb_13 : List AEn := [(0, .aload_n 0, 1, [0], []),
  (1, .iload_n 1, 1, [1], []),
  (2, .invokevirtual 77, 3, [11, 2, 1], [383, 0, 352, 9, 65, 353]),
  (5, .ifCond .eq 12, 3, [9], []),
  (8, .iload_n 2, 1, [2], []),
  (9, .ifCond .lt 8, 3, [9], []),
  (12, .iload_n 2, 1, [2], []),
  (13, .iconst 4, 1, [4], []),
  (14, .if_icmp .lt 5, 3, [11], []),
  (17, .iconst (-1), 1, [0, 1], []),
  (18, .ireturn, 1, [0], []),
  (19, .aload_n 0, 1, [0], []),
  (20, .getfield 15, 3, [1, 7], [103, 0]),
  (23, .iload_n 1, 1, [1], []),
  (24, .iconst 4, 1, [4], []),
  (25, .imul, 1, [], []),
  (26, .iload_n 2, 1, [2], []),
  (27, .iadd, 1, [], []),
  (28, .iaload, 1, [], []),
  (29, .ireturn, 1, [0], [])]
def mt_13 : AMt := (yX1_beside, cX1_beside, 3, (some .int), tb_13)
def tb_14 : List AEn := [(0, .iload_n 3, 1, [3], []),
  (1, .ifCond .lt 22, 3, [13], []),
  (4, .aload_n 0, 1, [0], []),
  (5, .iload_n 1, 1, [1], []),
  (6, .invokevirtual 77, 3, [11, 2, 1], [383, 0, 352, 9, 65, 353]),
  (9, .ifCond .eq 14, 3, [13], []),
  (12, .aload_n 0, 1, [0], []),
  (13, .getfield 18, 3, [1, 8], [104, 0]),
  (16, .iload_n 1, 1, [1], []),
  (17, .iaload, 1, [], []),
  (18, .iload_n 2, 1, [2], []),
  (19, .iand, 1, [], []),
  (20, .ifCond .ne 6, 3, [15], []),
  (23, .bipush (-6), 2, [0, 6], []),
  (25, .ireturn, 1, [0], []),
  (26, .iload_n 3, 1, [3], []),
  (27, .istore 4, 2, [4], []),
  (29, .iload 4, 2, [4], []),
  (31, .iconst 4, 1, [4], []),
  (32, .if_icmp .ge 40, 3, [42], []),
  (35, .aload_n 0, 1, [0], []),
  (36, .getfield 15, 3, [1, 7], [103, 0]),
  (39, .iload_n 1, 1, [1], []),
  (40, .iconst 4, 1, [4], []),
  (41, .imul, 1, [], []),
  (42, .iload 4, 2, [4], []),
  (44, .iadd, 1, [], []),
  (45, .iaload, 1, [], []),
  (46, .istore 5, 2, [5], []),
  (48, .iload 5, 2, [5], []),
  (50, .ifCond .lt 16, 3, [40], []),
  (53, .iload_n 2, 1, [2], []),
  (54, .iload 5, 2, [5], []),
  (56, .ishr, 1, [], []),
  (57, .iconst 1, 1, [1], []),
  (58, .iand, 1, [], []),
  (59, .iconst 1, 1, [1], []),
  (60, .if_icmp .ne 6, 3, [40], []),
  (63, .iload 4, 2, [4], []),
  (65, .ireturn, 1, [0], []),
  (66, .iinc 4 1, 3, [4, 1], []),
  (69, .goto (-40), 3, [17], []),
  (72, .bipush (-6), 2, [0, 6], []),
  (74, .ireturn, 1, [0], [])]
def mt_14 : AMt := (yX1_stepThatCanBe, cX1_stepThatCanBe, 6, (some .int), tb_14)
def tb_15 : List AEn := [(0, .aload_n 0, 1, [0], []),
  (1, .iload_n 1, 1, [1], []),
  (2, .invokevirtual 77, 3, [11, 2, 1], [383, 0, 352, 9, 65, 353]),
  (5, .ifCond .eq 14, 3, [11], []),
  (8, .aload_n 0, 1, [0], []),
  (9, .getfield 18, 3, [1, 8], [104, 0]),
  (12, .iload_n 1, 1, [1], []),
  (13, .iaload, 1, [], []),
  (14, .iload_n 2, 1, [2], []),
  (15, .iand, 1, [], []),
  (16, .ifCond .ne 7, 3, [13], []),
  (19, .iconst 1, 1, [1], []),
  (20, .goto 4, 3, [14], []),
  (23, .iconst 0, 1, [0], []),
  (24, .ireturn, 1, [1], [])]
def mt_15 : AMt := (yX1_isBlind, cX1_isBlind, 3, (some .boolean), tb_15)
def tb_16 : List AEn := [(0, .aload_n 0, 1, [0], []),
  (1, .getfield 37, 3, [1, 3], [93, 0]),
  (4, .iconst 1, 1, [1], []),
  (5, .iload_n 1, 1, [1], []),
  (6, .ishl, 1, [], []),
  (7, .iconst (-1), 1, [0, 1], []),
  (8, .ixor, 1, [], []),
  (9, .iand, 1, [], []),
  (10, .ireturn, 1, [0], [])]
def mt_16 : AMt := (yX1_freeFrom, cX1_freeFrom, 2, (some .int), tb_16)
def tb_17 : List AEn := [(0, .aload_n 0, 1, [0], []),
  (1, .iload_n 1, 1, [1], []),
  (2, .invokevirtual 77, 3, [11, 2, 1], [383, 0, 352, 9, 65, 353]),
  (5, .ifCond .eq 23, 3, [16], []),
  (8, .iconst 0, 1, [0], []),
  (9, .aload_n 0, 1, [0], []),
  (10, .getfield 9, 3, [1, 6], [101, 0]),
  (13, .iload_n 1, 1, [1], []),
  (14, .iaload, 1, [], []),
  (15, .aload_n 0, 1, [0], []),
  (16, .getfield 64, 3, [1, 5], [99, 0]),
  (19, .iload_n 2, 1, [2], []),
  (20, .imul, 1, [], []),
  (21, .isub, 1, [], []),
  (22, .invokestatic 43, 3, [0, 0, 0], [218, 219, 69, 220]),
  (25, .goto 4, 3, [17], []),
  (28, .iconst 0, 1, [0], []),
  (29, .ireturn, 1, [0], [])]
def mt_17 : AMt := (yX1_brings, cX1_brings, 3, (some .int), tb_17)
def tb_18 : List AEn := [(0, .iconst 0, 1, [0], []),
  (1, .istore_n 2, 1, [2], []),
  (2, .iconst 0, 1, [0], []),
  (3, .istore_n 3, 1, [3], []),
  (4, .iload_n 3, 1, [3], []),
  (5, .aload_n 0, 1, [0], []),
  (6, .getfield 34, 3, [1, 2], [91, 0]),
  (9, .if_icmp .ge 26, 3, [21], []),
  (12, .iload_n 1, 1, [1], []),
  (13, .iload_n 3, 1, [3], []),
  (14, .invokestatic 73, 3, [72, 2], [337, 1, 338, 64, 339]),
  (17, .ifCond .eq 12, 3, [19], []),
  (20, .iload_n 2, 1, [2], []),
  (21, .aload_n 0, 1, [0], []),
  (22, .getfield 9, 3, [1, 6], [101, 0]),
  (25, .iload_n 3, 1, [3], []),
  (26, .iaload, 1, [], []),
  (27, .iadd, 1, [], []),
  (28, .istore_n 2, 1, [2], []),
  (29, .iinc 3 1, 3, [3, 1], []),
  (32, .goto (-28), 3, [4], []),
  (35, .iload_n 2, 1, [2], []),
  (36, .ireturn, 1, [0], [])]
def mt_18 : AMt := (yX1_earsOf, cX1_earsOf, 4, (some .int), tb_18)
def tb_19 : List AEn := [(0, .iconst 1, 1, [1], []),
  (1, .iload_n 1, 1, [1], []),
  (2, .ishl, 1, [], []),
  (3, .istore_n 3, 1, [3], []),
  (4, .iconst 0, 1, [0], []),
  (5, .istore 4, 2, [4], []),
  (7, .iload 4, 2, [4], []),
  (9, .bipush 16, 2, [16], []),
  (11, .if_icmp .ge 64, 3, [41], []),
  (14, .iload_n 3, 1, [3], []),
  (15, .istore 5, 2, [5], []),
  (17, .iconst 0, 1, [0], []),
  (18, .istore 6, 2, [6], []),
  (20, .iload 6, 2, [6], []),
  (22, .aload_n 0, 1, [0], []),
  (23, .getfield 34, 3, [1, 2], [91, 0]),
  (26, .if_icmp .ge 32, 3, [32], []),
  (29, .iload_n 3, 1, [3], []),
  (30, .iload 6, 2, [6], []),
  (32, .invokestatic 73, 3, [72, 2], [337, 1, 338, 64, 339]),
  (35, .ifCond .eq 17, 3, [30], []),
  (38, .iload 5, 2, [5], []),
  (40, .aload_n 0, 1, [0], []),
  (41, .getfield 18, 3, [1, 8], [104, 0]),
  (44, .iload 6, 2, [6], []),
  (46, .iaload, 1, [], []),
  (47, .iload_n 2, 1, [2], []),
  (48, .iand, 1, [], []),
  (49, .ior, 1, [], []),
  (50, .istore 5, 2, [5], []),
  (52, .iinc 6 1, 3, [6, 1], []),
  (55, .goto (-35), 3, [13], []),
  (58, .iload 5, 2, [5], []),
  (60, .iload_n 3, 1, [3], []),
  (61, .if_icmp .ne 5, 3, [37], []),
  (64, .iload_n 3, 1, [3], []),
  (65, .ireturn, 1, [0], []),
  (66, .iload 5, 2, [5], []),
  (68, .istore_n 3, 1, [3], []),
  (69, .iinc 4 1, 3, [4, 1], []),
  (72, .goto (-65), 3, [6], []),
  (75, .iload_n 3, 1, [3], []),
  (76, .ireturn, 1, [0], [])]
def mt_19 : AMt := (yX1_reach, cX1_reach, 7, (some .int), tb_19)
def tb_20 : List AEn := [(0, .aload_n 0, 1, [0], []),
  (1, .iload_n 1, 1, [1], []),
  (2, .aload_n 0, 1, [0], []),
  (3, .getfield 37, 3, [1, 3], [93, 0]),
  (6, .invokevirtual 80, 3, [19, 3, 1], [484, 0, 408, 18, 65, 409]),
  (9, .istore_n 2, 1, [2], []),
  (10, .iconst 0, 1, [0], []),
  (11, .istore_n 3, 1, [3], []),
  (12, .iconst 0, 1, [0], []),
  (13, .istore 4, 2, [4], []),
  (15, .iconst 0, 1, [0], []),
  (16, .istore 5, 2, [5], []),
  (18, .iload 5, 2, [5], []),
  (20, .aload_n 0, 1, [0], []),
  (21, .getfield 34, 3, [1, 2], [91, 0]),
  (24, .if_icmp .ge 41, 3, [32], []),
  (27, .iload_n 2, 1, [2], []),
  (28, .iload 5, 2, [5], []),
  (30, .invokestatic 73, 3, [72, 2], [337, 1, 338, 64, 339]),
  (33, .ifCond .eq 26, 3, [30], []),
  (36, .aload_n 0, 1, [0], []),
  (37, .iload 5, 2, [5], []),
  (39, .invokevirtual 83, 3, [21, 2, 1], [485, 0, 487, 33, 65, 488]),
  (42, .aload_n 0, 1, [0], []),
  (43, .iload_n 1, 1, [1], []),
  (44, .invokevirtual 83, 3, [21, 2, 1], [485, 0, 487, 33, 65, 488]),
  (47, .if_icmp .ne 9, 3, [29], []),
  (50, .iinc 3 1, 3, [3, 1], []),
  (53, .goto 6, 3, [30], []),
  (56, .iinc 4 1, 3, [4, 1], []),
  (59, .iinc 5 1, 3, [5, 1], []),
  (62, .goto (-44), 3, [12], []),
  (65, .iload_n 3, 1, [3], []),
  (66, .iload 4, 2, [4], []),
  (68, .if_icmp .gt 9, 3, [39], []),
  (71, .iconst 2, 1, [2], []),
  (72, .iload_n 3, 1, [3], []),
  (73, .imul, 1, [], []),
  (74, .goto 9, 3, [44], []),
  (77, .iconst 2, 1, [2], []),
  (78, .iload 4, 2, [4], []),
  (80, .imul, 1, [], []),
  (81, .iconst 1, 1, [1], []),
  (82, .iadd, 1, [], []),
  (83, .ireturn, 1, [0], [])]
def mt_20 : AMt := (yX1_boundFrom, cX1_boundFrom, 6, (some .int), tb_20)
def tb_21 : List AEn := [(0, .aload_n 0, 1, [0], []),
  (1, .getfield 25, 3, [1, 1], [89, 0]),
  (4, .ifCond .le 21, 3, [15], []),
  (7, .iload_n 1, 1, [1], []),
  (8, .aload_n 0, 1, [0], []),
  (9, .getfield 25, 3, [1, 1], [89, 0]),
  (12, .idiv, 1, [], []),
  (13, .iload_n 1, 1, [1], []),
  (14, .aload_n 0, 1, [0], []),
  (15, .getfield 25, 3, [1, 1], [89, 0]),
  (18, .irem, 1, [], []),
  (19, .iadd, 1, [], []),
  (20, .iconst 2, 1, [2], []),
  (21, .irem, 1, [], []),
  (22, .goto 4, 3, [16], []),
  (25, .iconst 0, 1, [0], []),
  (26, .ireturn, 1, [0], [])]
def mt_21 : AMt := (yX1_colour, cX1_colour, 2, (some .int), tb_21)
def tb_22 : List AEn := [(0, .aload_n 0, 1, [0], []),
  (1, .iload_n 1, 1, [1], []),
  (2, .invokevirtual 77, 3, [11, 2, 1], [383, 0, 352, 9, 65, 353]),
  (5, .ifCond .eq 17, 3, [12], []),
  (8, .aload_n 0, 1, [0], []),
  (9, .getfield 18, 3, [1, 8], [104, 0]),
  (12, .iload_n 1, 1, [1], []),
  (13, .iaload, 1, [], []),
  (14, .iload_n 2, 1, [2], []),
  (15, .iand, 1, [], []),
  (16, .invokestatic 87, 3, [0, 1], [548, 0, 341, 71, 342]),
  (19, .goto 4, 3, [13], []),
  (22, .iconst 0, 1, [0], []),
  (23, .istore 4, 2, [4], []),
  (25, .iload 4, 2, [4], []),
  (27, .ifCond .ne 5, 3, [18], []),
  (30, .iload_n 1, 1, [1], []),
  (31, .ireturn, 1, [0], []),
  (32, .iload_n 3, 1, [3], []),
  (33, .iload 4, 2, [4], []),
  (35, .irem, 1, [], []),
  (36, .istore 5, 2, [5], []),
  (38, .iconst 0, 1, [0], []),
  (39, .istore 6, 2, [6], []),
  (41, .iload 6, 2, [6], []),
  (43, .iconst 4, 1, [4], []),
  (44, .if_icmp .ge 38, 3, [43], []),
  (47, .aload_n 0, 1, [0], []),
  (48, .iload_n 1, 1, [1], []),
  (49, .iload 6, 2, [6], []),
  (51, .invokevirtual 92, 3, [13, 3, 1], [549, 0, 390, 15, 65, 391]),
  (54, .istore 7, 2, [7], []),
  (56, .iload_n 2, 1, [2], []),
  (57, .iload 7, 2, [7], []),
  (59, .invokestatic 73, 3, [72, 2], [337, 1, 338, 64, 339]),
  (62, .ifCond .eq 14, 3, [41], []),
  (65, .iload 5, 2, [5], []),
  (67, .ifCond .ne 6, 3, [40], []),
  (70, .iload 7, 2, [7], []),
  (72, .ireturn, 1, [0], []),
  (73, .iinc 5 (-1), 3, [5, 0, 1], []),
  (76, .iinc 6 1, 3, [6, 1], []),
  (79, .goto (-38), 3, [24], []),
  (82, .iload_n 1, 1, [1], []),
  (83, .ireturn, 1, [0], [])]
def mt_22 : AMt := (yX1_stepNumbered, cX1_stepNumbered, 8, (some .int), tb_22)
def tb_23 : List AEn := [(0, .aload_n 0, 1, [0], []),
  (1, .invokespecial 3, 3, [0], [131, 79, 80]),
  (4, .return_, 1, [], [])]
def mt_23 : AMt := (yX2_init, cX2_init, 1, none, tb_23)
def tb_24 : List AEn := [(0, .aload_n 0, 1, [0], []),
  (1, .aload_n 1, 1, [1], []),
  (2, .getfield 9, 3, [1, 4], [96, 1]),
  (5, .putfield 15, 3, [2, 0, 0], [132, 0, 0]),
  (8, .aload_n 0, 1, [0], []),
  (9, .iconst 0, 1, [0], []),
  (10, .putfield 20, 3, [2, 1, 0], [135, 0, 0]),
  (13, .aload_n 0, 1, [0], []),
  (14, .aload_n 1, 1, [1], []),
  (15, .aload_n 0, 1, [0], []),
  (16, .getfield 15, 3, [2, 0], [132, 0]),
  (19, .invokevirtual 23, 3, [16, 2, 1], [375, 1, 377, 12, 65, 378]),
  (22, .putfield 27, 3, [2, 2, 0], [138, 0, 0]),
  (25, .aload_n 0, 1, [0], []),
  (26, .aload_n 1, 1, [1], []),
  (27, .aload_n 0, 1, [0], []),
  (28, .getfield 15, 3, [2, 0], [132, 0]),
  (31, .iconst 0, 1, [0], []),
  (32, .invokevirtual 30, 3, [17, 3, 1], [379, 1, 381, 13, 65, 382]),
  (35, .putfield 34, 3, [2, 3, 0], [141, 0, 0]),
  (38, .aload_n 0, 1, [0], []),
  (39, .bipush (-6), 2, [0, 6], []),
  (41, .putfield 37, 3, [2, 4, 0], [144, 0, 0]),
  (44, .return_, 1, [], [])]
def mt_24 : AMt := (yX2_beginOn, cX2_beginOn, 2, none, tb_24)
def tb_25 : List AEn := [(0, .aload_n 1, 1, [1], []),
  (1, .aload_n 0, 1, [0], []),
  (2, .getfield 15, 3, [2, 0], [132, 0]),
  (5, .iload_n 2, 1, [2], []),
  (6, .invokevirtual 40, 3, [13, 3, 1], [388, 1, 390, 15, 65, 391]),
  (9, .istore_n 3, 1, [3], []),
  (10, .aload_n 0, 1, [0], []),
  (11, .getfield 27, 3, [2, 2], [138, 0]),
  (14, .iload_n 3, 1, [3], []),
  (15, .invokestatic 43, 3, [72, 2], [392, 1, 338, 64, 339]),
  (18, .ifCond .ne 31, 3, [27], []),
  (21, .aload_n 0, 1, [0], []),
  (22, .iload_n 3, 1, [3], []),
  (23, .iconst (-1), 1, [0, 1], []),
  (24, .if_icmp .ne 7, 3, [17], []),
  (27, .iconst 1, 1, [1], []),
  (28, .goto 16, 3, [24], []),
  (31, .aload_n 1, 1, [1], []),
  (32, .iload_n 3, 1, [3], []),
  (33, .invokevirtual 47, 3, [12, 2, 1], [393, 1, 335, 8, 65, 336]),
  (36, .ifCond .eq 7, 3, [23], []),
  (39, .iconst 3, 1, [3], []),
  (40, .goto 4, 3, [24], []),
  (43, .iconst 2, 1, [2], []),
  (44, .putfield 37, 3, [2, 4, 0], [144, 0, 0]),
  (47, .iconst 0, 1, [0], []),
  (48, .ireturn, 1, [1], []),
  (49, .aload_n 0, 1, [0], []),
  (50, .dup, 1, [], []),
  (51, .getfield 20, 3, [2, 1], [135, 0]),
  (54, .iconst 1, 1, [1], []),
  (55, .iadd, 1, [], []),
  (56, .putfield 20, 3, [2, 1, 0], [135, 0, 0]),
  (59, .aload_n 0, 1, [0], []),
  (60, .iload_n 3, 1, [3], []),
  (61, .putfield 15, 3, [2, 0, 0], [132, 0, 0]),
  (64, .aload_n 0, 1, [0], []),
  (65, .dup, 1, [], []),
  (66, .getfield 27, 3, [2, 2], [138, 0]),
  (69, .iconst 1, 1, [1], []),
  (70, .iload_n 3, 1, [3], []),
  (71, .ishl, 1, [], []),
  (72, .iconst (-1), 1, [0, 1], []),
  (73, .ixor, 1, [], []),
  (74, .iand, 1, [], []),
  (75, .putfield 27, 3, [2, 2, 0], [138, 0, 0]),
  (78, .aload_n 0, 1, [0], []),
  (79, .dup, 1, [], []),
  (80, .getfield 34, 3, [2, 3], [141, 0]),
  (83, .aload_n 1, 1, [1], []),
  (84, .iload_n 3, 1, [3], []),
  (85, .aload_n 0, 1, [0], []),
  (86, .getfield 20, 3, [2, 1], [135, 0]),
  (89, .invokevirtual 30, 3, [17, 3, 1], [379, 1, 381, 13, 65, 382]),
  (92, .iadd, 1, [], []),
  (93, .putfield 34, 3, [2, 3, 0], [141, 0, 0]),
  (96, .iconst 1, 1, [1], []),
  (97, .ireturn, 1, [1], [])]
def mt_25 : AMt := (yX2_go, cX2_go, 4, (some .boolean), tb_25)
def tb_26 : List AEn := [(0, .aload_n 1, 1, [1], []),
  (1, .getfield 51, 3, [1, 3], [94, 1]),
  (4, .aload_n 0, 1, [0], []),
  (5, .getfield 27, 3, [2, 2], [138, 0]),
  (8, .iconst (-1), 1, [0, 1], []),
  (9, .ixor, 1, [], []),
  (10, .iand, 1, [], []),
  (11, .ireturn, 1, [0], [])]
def mt_26 : AMt := (yX2_cut, cX2_cut, 2, (some .int), tb_26)
def tb_27 : List AEn := [(0, .aload_n 0, 1, [0], []),
  (1, .invokespecial 3, 3, [0], [162, 79, 80]),
  (4, .aload_n 0, 1, [0], []),
  (5, .bipush 16, 2, [16], []),
  (7, .newarray .int, 2, [0, 16], [124]),
  (9, .putfield 9, 3, [3, 5, 2], [170, 0, 1]),
  (12, .aload_n 0, 1, [0], []),
  (13, .bipush 16, 2, [16], []),
  (15, .newarray .int, 2, [0, 16], [124]),
  (17, .putfield 15, 3, [3, 6, 2], [171, 0, 1]),
  (20, .aload_n 0, 1, [0], []),
  (21, .bipush 16, 2, [16], []),
  (23, .newarray .int, 2, [0, 16], [124]),
  (25, .putfield 18, 3, [3, 7, 2], [172, 0, 1]),
  (28, .aload_n 0, 1, [0], []),
  (29, .bipush 16, 2, [16], []),
  (31, .newarray .int, 2, [0, 16], [124]),
  (33, .putfield 21, 3, [3, 8, 2], [173, 0, 1]),
  (36, .return_, 1, [], [])]
def mt_27 : AMt := (yX3_init, cX3_init, 1, none, tb_27)
def tb_28 : List AEn := [(0, .aload_n 0, 1, [0], []),
  (1, .aload_n 1, 1, [1], []),
  (2, .iconst 0, 1, [0], []),
  (3, .iload_n 3, 1, [3], []),
  (4, .invokevirtual 24, 3, [30, 4, 3], [430, 0, 432, 23, 67, 433]),
  (7, .aload_n 0, 1, [0], []),
  (8, .getfield 9, 3, [3, 5], [170, 0]),
  (11, .iconst 0, 1, [0], []),
  (12, .iload_n 2, 1, [2], []),
  (13, .iastore, 1, [], []),
  (14, .aload_n 0, 1, [0], []),
  (15, .getfield 15, 3, [3, 6], [171, 0]),
  (18, .iconst 0, 1, [0], []),
  (19, .aload_n 1, 1, [1], []),
  (20, .iload_n 2, 1, [2], []),
  (21, .invokevirtual 28, 3, [16, 2, 1], [435, 1, 377, 12, 65, 378]),
  (24, .iastore, 1, [], []),
  (25, .aload_n 0, 1, [0], []),
  (26, .getfield 18, 3, [3, 7], [172, 0]),
  (29, .iconst 0, 1, [0], []),
  (30, .aload_n 1, 1, [1], []),
  (31, .iload_n 2, 1, [2], []),
  (32, .iconst 0, 1, [0], []),
  (33, .invokevirtual 34, 3, [17, 3, 1], [436, 1, 381, 13, 65, 382]),
  (36, .iastore, 1, [], []),
  (37, .return_, 1, [], [])]
def mt_28 : AMt := (yX3_from, cX3_from, 4, none, tb_28)
def tb_29 : List AEn := [(0, .aload_n 0, 1, [0], []),
  (1, .aload_n 1, 1, [1], []),
  (2, .aload_n 2, 1, [2], []),
  (3, .getfield 38, 3, [2, 1], [136, 1]),
  (6, .iload_n 3, 1, [3], []),
  (7, .invokevirtual 24, 3, [30, 4, 3], [430, 0, 432, 23, 67, 433]),
  (10, .aload_n 0, 1, [0], []),
  (11, .getfield 9, 3, [3, 5], [170, 0]),
  (14, .iconst 0, 1, [0], []),
  (15, .aload_n 2, 1, [2], []),
  (16, .getfield 44, 3, [2, 0], [133, 1]),
  (19, .iastore, 1, [], []),
  (20, .aload_n 0, 1, [0], []),
  (21, .getfield 15, 3, [3, 6], [171, 0]),
  (24, .iconst 0, 1, [0], []),
  (25, .aload_n 2, 1, [2], []),
  (26, .getfield 47, 3, [2, 2], [139, 1]),
  (29, .iastore, 1, [], []),
  (30, .aload_n 0, 1, [0], []),
  (31, .getfield 18, 3, [3, 7], [172, 0]),
  (34, .iconst 0, 1, [0], []),
  (35, .aload_n 2, 1, [2], []),
  (36, .getfield 49, 3, [2, 3], [142, 1]),
  (39, .iastore, 1, [], []),
  (40, .return_, 1, [], [])]
def mt_29 : AMt := (yX3_goOn, cX3_goOn, 4, none, tb_29)
def tb_30 : List AEn := [(0, .aload_n 0, 1, [0], []),
  (1, .aload_n 1, 1, [1], []),
  (2, .putfield 52, 3, [3, 0, 2], [163, 0, 0]),
  (5, .aload_n 0, 1, [0], []),
  (6, .iload_n 2, 1, [2], []),
  (7, .putfield 56, 3, [3, 1, 0], [164, 0, 0]),
  (10, .aload_n 0, 1, [0], []),
  (11, .iload_n 3, 1, [3], []),
  (12, .bipush 15, 2, [15], []),
  (14, .invokestatic 59, 3, [0, 0, 1], [434, 216, 69, 217]),
  (17, .putfield 64, 3, [3, 2, 0], [165, 0, 0]),
  (20, .aload_n 0, 1, [0], []),
  (21, .iconst 0, 1, [0], []),
  (22, .putfield 67, 3, [3, 3, 1], [166, 0, 0]),
  (25, .aload_n 0, 1, [0], []),
  (26, .iconst 0, 1, [0], []),
  (27, .putfield 71, 3, [3, 4, 0], [168, 0, 0]),
  (30, .aload_n 0, 1, [0], []),
  (31, .getfield 21, 3, [3, 8], [173, 0]),
  (34, .iconst 0, 1, [0], []),
  (35, .iconst 0, 1, [0], []),
  (36, .iastore, 1, [], []),
  (37, .return_, 1, [], [])]
def mt_30 : AMt := (yX3_start, cX3_start, 4, none, tb_30)
def tb_31 : List AEn := [(0, .aload_n 0, 1, [0], []),
  (1, .getfield 52, 3, [3, 0], [163, 0]),
  (4, .ifnonnull 5, 3, [5], []),
  (7, .iconst 0, 1, [0], []),
  (8, .ireturn, 1, [1], []),
  (9, .aload_n 0, 1, [0], []),
  (10, .getfield 67, 3, [3, 3], [166, 0]),
  (13, .ifCond .ne 10, 3, [13], []),
  (16, .aload_n 0, 1, [0], []),
  (17, .iconst 1, 1, [1], []),
  (18, .putfield 67, 3, [3, 3, 1], [166, 0, 0]),
  (21, .iconst 1, 1, [1], []),
  (22, .ireturn, 1, [1], []),
  (23, .iconst 0, 1, [0], []),
  (24, .istore_n 1, 1, [1], []),
  (25, .iload_n 1, 1, [1], []),
  (26, .bipush 16, 2, [16], []),
  (28, .if_icmp .ge 120, 3, [81], []),
  (31, .aload_n 0, 1, [0], []),
  (32, .getfield 71, 3, [3, 4], [168, 0]),
  (35, .aload_n 0, 1, [0], []),
  (36, .getfield 64, 3, [3, 2], [165, 0]),
  (39, .if_icmp .ge 40, 3, [42], []),
  (42, .aload_n 0, 1, [0], []),
  (43, .getfield 52, 3, [3, 0], [163, 0]),
  (46, .aload_n 0, 1, [0], []),
  (47, .getfield 9, 3, [3, 5], [170, 0]),
  (50, .aload_n 0, 1, [0], []),
  (51, .getfield 71, 3, [3, 4], [168, 0]),
  (54, .iaload, 1, [], []),
  (55, .aload_n 0, 1, [0], []),
  (56, .getfield 15, 3, [3, 6], [171, 0]),
  (59, .aload_n 0, 1, [0], []),
  (60, .getfield 71, 3, [3, 4], [168, 0]),
  (63, .iaload, 1, [], []),
  (64, .aload_n 0, 1, [0], []),
  (65, .getfield 21, 3, [3, 8], [173, 0]),
  (68, .aload_n 0, 1, [0], []),
  (69, .getfield 71, 3, [3, 4], [168, 0]),
  (72, .iaload, 1, [], []),
  (73, .invokevirtual 74, 3, [14, 4, 1], [442, 1, 444, 25, 65, 445]),
  (76, .goto 5, 3, [43], []),
  (79, .bipush (-6), 2, [0, 6], []),
  (81, .istore_n 2, 1, [2], []),
  (82, .iload_n 2, 1, [2], []),
  (83, .bipush (-6), 2, [0, 6], []),
  (85, .if_icmp .eq 38, 3, [68], []),
  (88, .aload_n 0, 1, [0], []),
  (89, .getfield 21, 3, [3, 8], [173, 0]),
  (92, .aload_n 0, 1, [0], []),
  (93, .getfield 71, 3, [3, 4], [168, 0]),
  (96, .iload_n 2, 1, [2], []),
  (97, .iconst 1, 1, [1], []),
  (98, .iadd, 1, [], []),
  (99, .iastore, 1, [], []),
  (100, .aload_n 0, 1, [0], []),
  (101, .aload_n 0, 1, [0], []),
  (102, .getfield 52, 3, [3, 0], [163, 0]),
  (105, .aload_n 0, 1, [0], []),
  (106, .getfield 9, 3, [3, 5], [170, 0]),
  (109, .aload_n 0, 1, [0], []),
  (110, .getfield 71, 3, [3, 4], [168, 0]),
  (113, .iaload, 1, [], []),
  (114, .iload_n 2, 1, [2], []),
  (115, .invokevirtual 78, 3, [13, 3, 1], [446, 1, 390, 15, 65, 391]),
  (118, .invokevirtual 81, 3, [32, 2, 3], [447, 0, 449, 26, 67, 450]),
  (121, .iconst 1, 1, [1], []),
  (122, .ireturn, 1, [1], []),
  (123, .aload_n 0, 1, [0], []),
  (124, .getfield 71, 3, [3, 4], [168, 0]),
  (127, .ifCond .ne 5, 3, [73], []),
  (130, .iconst 0, 1, [0], []),
  (131, .ireturn, 1, [1], []),
  (132, .aload_n 0, 1, [0], []),
  (133, .dup, 1, [], []),
  (134, .getfield 71, 3, [3, 4], [168, 0]),
  (137, .iconst 1, 1, [1], []),
  (138, .isub, 1, [], []),
  (139, .putfield 71, 3, [3, 4, 0], [168, 0, 0]),
  (142, .iinc 1 1, 3, [1, 1], []),
  (145, .goto (-120), 3, [15], []),
  (148, .iconst 0, 1, [0], []),
  (149, .ireturn, 1, [1], [])]
def mt_31 : AMt := (yX3_next, cX3_next, 3, (some .boolean), tb_31)
def tb_32 : List AEn := [(0, .aload_n 0, 1, [0], []),
  (1, .getfield 71, 3, [3, 4], [168, 0]),
  (4, .iconst 1, 1, [1], []),
  (5, .iadd, 1, [], []),
  (6, .istore_n 2, 1, [2], []),
  (7, .aload_n 0, 1, [0], []),
  (8, .getfield 9, 3, [3, 5], [170, 0]),
  (11, .iload_n 2, 1, [2], []),
  (12, .iload_n 1, 1, [1], []),
  (13, .iastore, 1, [], []),
  (14, .aload_n 0, 1, [0], []),
  (15, .getfield 15, 3, [3, 6], [171, 0]),
  (18, .iload_n 2, 1, [2], []),
  (19, .aload_n 0, 1, [0], []),
  (20, .getfield 15, 3, [3, 6], [171, 0]),
  (23, .aload_n 0, 1, [0], []),
  (24, .getfield 71, 3, [3, 4], [168, 0]),
  (27, .iaload, 1, [], []),
  (28, .iconst 1, 1, [1], []),
  (29, .iload_n 1, 1, [1], []),
  (30, .ishl, 1, [], []),
  (31, .iconst (-1), 1, [0, 1], []),
  (32, .ixor, 1, [], []),
  (33, .iand, 1, [], []),
  (34, .iastore, 1, [], []),
  (35, .aload_n 0, 1, [0], []),
  (36, .getfield 18, 3, [3, 7], [172, 0]),
  (39, .iload_n 2, 1, [2], []),
  (40, .aload_n 0, 1, [0], []),
  (41, .getfield 18, 3, [3, 7], [172, 0]),
  (44, .aload_n 0, 1, [0], []),
  (45, .getfield 71, 3, [3, 4], [168, 0]),
  (48, .iaload, 1, [], []),
  (49, .aload_n 0, 1, [0], []),
  (50, .getfield 52, 3, [3, 0], [163, 0]),
  (53, .iload_n 1, 1, [1], []),
  (54, .aload_n 0, 1, [0], []),
  (55, .getfield 56, 3, [3, 1], [164, 0]),
  (58, .iload_n 2, 1, [2], []),
  (59, .iadd, 1, [], []),
  (60, .invokevirtual 34, 3, [17, 3, 1], [436, 1, 381, 13, 65, 382]),
  (63, .iadd, 1, [], []),
  (64, .iastore, 1, [], []),
  (65, .aload_n 0, 1, [0], []),
  (66, .getfield 21, 3, [3, 8], [173, 0]),
  (69, .iload_n 2, 1, [2], []),
  (70, .iconst 0, 1, [0], []),
  (71, .iastore, 1, [], []),
  (72, .aload_n 0, 1, [0], []),
  (73, .iload_n 2, 1, [2], []),
  (74, .putfield 71, 3, [3, 4, 0], [168, 0, 0]),
  (77, .return_, 1, [], [])]
def mt_32 : AMt := (yX3_goTo, cX3_goTo, 3, none, tb_32)
def tb_33 : List AEn := [(0, .aload_n 0, 1, [0], []),
  (1, .getfield 9, 3, [3, 5], [170, 0]),
  (4, .aload_n 0, 1, [0], []),
  (5, .getfield 71, 3, [3, 4], [168, 0]),
  (8, .iaload, 1, [], []),
  (9, .ireturn, 1, [0], [])]
def mt_33 : AMt := (yX3_end, cX3_end, 1, (some .int), tb_33)
def tb_34 : List AEn := [(0, .aload_n 0, 1, [0], []),
  (1, .getfield 18, 3, [3, 7], [172, 0]),
  (4, .aload_n 0, 1, [0], []),
  (5, .getfield 71, 3, [3, 4], [168, 0]),
  (8, .iaload, 1, [], []),
  (9, .ireturn, 1, [0], [])]
def mt_34 : AMt := (yX3_brought, cX3_brought, 1, (some .int), tb_34)
def tb_35 : List AEn := [(0, .aload_n 0, 1, [0], []),
  (1, .getfield 15, 3, [3, 6], [171, 0]),
  (4, .aload_n 0, 1, [0], []),
  (5, .getfield 71, 3, [3, 4], [168, 0]),
  (8, .iaload, 1, [], []),
  (9, .ifCond .ne 7, 3, [8], []),
  (12, .iconst 1, 1, [1], []),
  (13, .goto 4, 3, [9], []),
  (16, .iconst 0, 1, [0], []),
  (17, .ireturn, 1, [1], [])]
def mt_35 : AMt := (yX3_leavesNothing, cX3_leavesNothing, 1, (some .boolean), tb_35)
def tb_36 : List AEn := [(0, .aload_n 0, 1, [0], []),
  (1, .invokespecial 1, 3, [0], [78, 79, 80]),
  (4, .aload_n 0, 1, [0], []),
  (5, .bipush 40, 2, [40], []),
  (7, .newarray .int, 2, [0, 40], [124]),
  (9, .putfield 9, 3, [4, 0, 2], [229, 0, 1]),
  (12, .aload_n 0, 1, [0], []),
  (13, .new 13, 3, [1], [81, 82, 65]),
  (16, .dup, 1, [], []),
  (17, .invokespecial 15, 3, [5, 1], [83, 1, 84, 65, 85]),
  (20, .putfield 16, 3, [4, 2, 2], [231, 0, 1]),
  (23, .aload_n 0, 1, [0], []),
  (24, .iconst 2, 1, [2], []),
  (25, .anewarray 13, 3, [2], [81]),
  (28, .putfield 20, 3, [4, 3, 2], [232, 0, 1]),
  (31, .aload_n 0, 1, [0], []),
  (32, .new 24, 3, [2], [126, 127, 66]),
  (35, .dup, 1, [], []),
  (36, .invokespecial 26, 3, [23, 1], [128, 1, 129, 66, 130]),
  (39, .putfield 27, 3, [4, 4, 2], [233, 0, 1]),
  (42, .aload_n 0, 1, [0], []),
  (43, .new 31, 3, [3], [157, 158, 67]),
  (46, .dup, 1, [], []),
  (47, .invokespecial 33, 3, [27, 1], [159, 1, 160, 67, 161]),
  (50, .putfield 34, 3, [4, 5, 2], [234, 0, 1]),
  (53, .aload_n 0, 1, [0], []),
  (54, .new 38, 3, [0], [194, 195, 68]),
  (57, .dup, 1, [], []),
  (58, .invokespecial 40, 3, [1, 1], [196, 1, 197, 68, 198]),
  (61, .putfield 41, 3, [4, 6, 2], [235, 0, 1]),
  (64, .aload_n 0, 1, [0], []),
  (65, .new 38, 3, [0], [194, 195, 68]),
  (68, .dup, 1, [], []),
  (69, .invokespecial 40, 3, [1, 1], [196, 1, 197, 68, 198]),
  (72, .putfield 45, 3, [4, 8, 2], [237, 0, 1]),
  (75, .aload_n 0, 1, [0], []),
  (76, .new 38, 3, [0], [194, 195, 68]),
  (79, .dup, 1, [], []),
  (80, .invokespecial 40, 3, [1, 1], [196, 1, 197, 68, 198]),
  (83, .putfield 48, 3, [4, 9, 2], [238, 0, 1]),
  (86, .aload_n 0, 1, [0], []),
  (87, .bipush 16, 2, [16], []),
  (89, .newarray .int, 2, [0, 16], [124]),
  (91, .putfield 51, 3, [4, 10, 2], [239, 0, 1]),
  (94, .aload_n 0, 1, [0], []),
  (95, .getfield 16, 3, [4, 2], [231, 0]),
  (98, .iconst 3, 1, [3], []),
  (99, .iconst 3, 1, [3], []),
  (100, .invokevirtual 54, 3, [6, 3, 1], [211, 1, 213, 0, 65, 214]),
  (103, .return_, 1, [], [])]
def mt_36 : AMt := (yX4_init, cX4_init, 1, none, tb_36)
def tb_37 : List AEn := [(0, .iload_n 1, 1, [1], []),
  (1, .iconst 1, 1, [1], []),
  (2, .if_icmp .lt 18, 3, [12], []),
  (5, .iload_n 1, 1, [1], []),
  (6, .iconst 5, 1, [5], []),
  (7, .if_icmp .gt 13, 3, [12], []),
  (10, .iload_n 2, 1, [2], []),
  (11, .iconst 1, 1, [1], []),
  (12, .if_icmp .lt 8, 3, [12], []),
  (15, .iload_n 2, 1, [2], []),
  (16, .iconst 5, 1, [5], []),
  (17, .if_icmp .le 6, 3, [14], []),
  (20, .bipush (-2), 2, [0, 2], []),
  (22, .ireturn, 1, [0], []),
  (23, .iload_n 1, 1, [1], []),
  (24, .iload_n 2, 1, [2], []),
  (25, .imul, 1, [], []),
  (26, .bipush 16, 2, [16], []),
  (28, .if_icmp .le 6, 3, [21], []),
  (31, .bipush (-2), 2, [0, 2], []),
  (33, .ireturn, 1, [0], []),
  (34, .aload_n 0, 1, [0], []),
  (35, .getfield 16, 3, [4, 2], [231, 0]),
  (38, .iload_n 1, 1, [1], []),
  (39, .iload_n 2, 1, [2], []),
  (40, .invokevirtual 54, 3, [6, 3, 1], [211, 1, 213, 0, 65, 214]),
  (43, .aload_n 0, 1, [0], []),
  (44, .invokevirtual 58, 3, [66, 1, 4], [288, 0, 290, 2, 64, 291]),
  (47, .aload_n 0, 1, [0], []),
  (48, .getfield 16, 3, [4, 2], [231, 0]),
  (51, .getfield 61, 3, [1, 2], [92, 1]),
  (54, .ireturn, 1, [0], [])]
def mt_37 : AMt := (yX4_field, cX4_field, 3, (some .int), tb_37)
def tb_38 : List AEn := [(0, .iload_n 1, 1, [1], []),
  (1, .bipush 33, 2, [33], []),
  (3, .if_icmp .lt 9, 3, [6], []),
  (6, .iload_n 1, 1, [1], []),
  (7, .bipush 126, 2, [126], []),
  (9, .if_icmp .le 6, 3, [8], []),
  (12, .bipush (-2), 2, [0, 2], []),
  (14, .ireturn, 1, [0], []),
  (15, .aload_n 0, 1, [0], []),
  (16, .getfield 65, 3, [4, 1], [230, 0]),
  (19, .bipush 40, 2, [40], []),
  (21, .if_icmp .lt 6, 3, [14], []),
  (24, .bipush (-4), 2, [0, 4], []),
  (26, .ireturn, 1, [0], []),
  (27, .aload_n 0, 1, [0], []),
  (28, .getfield 9, 3, [4, 0], [229, 0]),
  (31, .aload_n 0, 1, [0], []),
  (32, .getfield 65, 3, [4, 1], [230, 0]),
  (35, .iload_n 1, 1, [1], []),
  (36, .iastore, 1, [], []),
  (37, .aload_n 0, 1, [0], []),
  (38, .dup, 1, [], []),
  (39, .getfield 65, 3, [4, 1], [230, 0]),
  (42, .iconst 1, 1, [1], []),
  (43, .iadd, 1, [], []),
  (44, .putfield 65, 3, [4, 1, 0], [230, 0, 0]),
  (47, .aload_n 0, 1, [0], []),
  (48, .getfield 65, 3, [4, 1], [230, 0]),
  (51, .ireturn, 1, [0], [])]
def mt_38 : AMt := (yX4_say, cX4_say, 2, (some .int), tb_38)
def tb_39 : List AEn := [(0, .aload_n 0, 1, [0], []),
  (1, .getfield 65, 3, [4, 1], [230, 0]),
  (4, .istore_n 1, 1, [1], []),
  (5, .aload_n 0, 1, [0], []),
  (6, .iconst 0, 1, [0], []),
  (7, .putfield 65, 3, [4, 1, 0], [230, 0, 0]),
  (10, .iload_n 1, 1, [1], []),
  (11, .ireturn, 1, [0], [])]
def mt_39 : AMt := (yX4_wipe, cX4_wipe, 2, (some .int), tb_39)
def tb_40 : List AEn := [(0, .iload_n 1, 1, [1], []),
  (1, .ifCond .ne 8, 3, [5], []),
  (4, .aload_n 0, 1, [0], []),
  (5, .invokevirtual 68, 3, [61, 1, 4], [304, 0, 306, 3, 64, 307]),
  (8, .ireturn, 1, [0], []),
  (9, .iload_n 1, 1, [1], []),
  (10, .iconst 1, 1, [1], []),
  (11, .if_icmp .ne 8, 3, [11], []),
  (14, .aload_n 0, 1, [0], []),
  (15, .invokevirtual 72, 3, [62, 1, 4], [308, 0, 310, 4, 64, 311]),
  (18, .ireturn, 1, [0], []),
  (19, .bipush (-2), 2, [0, 2], []),
  (21, .ireturn, 1, [0], [])]
def mt_40 : AMt := (yX4_fault, cX4_fault, 2, (some .int), tb_40)
def tb_41 : List AEn := [(0, .aload_n 0, 1, [0], []),
  (1, .invokevirtual 68, 3, [61, 1, 4], [304, 0, 306, 3, 64, 307]),
  (4, .bipush (-6), 2, [0, 6], []),
  (6, .if_icmp .eq 6, 3, [6], []),
  (9, .bipush (-5), 2, [0, 5], []),
  (11, .ireturn, 1, [0], []),
  (12, .aload_n 0, 1, [0], []),
  (13, .invokevirtual 75, 3, [63, 1, 4], [321, 0, 323, 5, 64, 324]),
  (16, .ifCond .eq 6, 3, [11], []),
  (19, .bipush (-3), 2, [0, 3], []),
  (21, .ireturn, 1, [0], []),
  (22, .aload_n 0, 1, [0], []),
  (23, .getfield 16, 3, [4, 2], [231, 0]),
  (26, .aload_n 0, 1, [0], []),
  (27, .getfield 9, 3, [4, 0], [229, 0]),
  (30, .invokevirtual 79, 3, [8, 2, 1], [325, 1, 327, 6, 65, 328]),
  (33, .aload_n 0, 1, [0], []),
  (34, .iconst 0, 1, [0], []),
  (35, .putfield 65, 3, [4, 1, 0], [230, 0, 0]),
  (38, .aload_n 0, 1, [0], []),
  (39, .invokevirtual 58, 3, [66, 1, 4], [288, 0, 290, 2, 64, 291]),
  (42, .aload_n 0, 1, [0], []),
  (43, .getfield 16, 3, [4, 2], [231, 0]),
  (46, .getfield 83, 3, [1, 3], [95, 1]),
  (49, .invokestatic 86, 3, [0, 1], [340, 0, 341, 71, 342]),
  (52, .ireturn, 1, [0], [])]
def mt_41 : AMt := (yX4_sow, cX4_sow, 1, (some .int), tb_41)
def tb_42 : List AEn := [(0, .aload_n 0, 1, [0], []),
  (1, .getfield 16, 3, [4, 2], [231, 0]),
  (4, .iload_n 1, 1, [1], []),
  (5, .invokevirtual 92, 3, [11, 2, 1], [350, 1, 352, 9, 65, 353]),
  (8, .ifCond .ne 5, 3, [7], []),
  (11, .iconst (-1), 1, [0, 1], []),
  (12, .ireturn, 1, [0], []),
  (13, .aload_n 0, 1, [0], []),
  (14, .getfield 16, 3, [4, 2], [231, 0]),
  (17, .iload_n 1, 1, [1], []),
  (18, .invokevirtual 96, 3, [12, 2, 1], [354, 1, 335, 8, 65, 336]),
  (21, .ifCond .eq 15, 3, [18], []),
  (24, .aload_n 0, 1, [0], []),
  (25, .getfield 16, 3, [4, 2], [231, 0]),
  (28, .getfield 99, 3, [1, 6], [102, 1]),
  (31, .iload_n 1, 1, [1], []),
  (32, .iaload, 1, [], []),
  (33, .goto 5, 3, [19], []),
  (36, .bipush (-6), 2, [0, 6], []),
  (38, .ireturn, 1, [0], [])]
def mt_42 : AMt := (yX4_ears, cX4_ears, 2, (some .int), tb_42)
def tb_43 : List AEn := [(0, .aload_n 0, 1, [0], []),
  (1, .getfield 16, 3, [4, 2], [231, 0]),
  (4, .iload_n 1, 1, [1], []),
  (5, .invokevirtual 92, 3, [11, 2, 1], [350, 1, 352, 9, 65, 353]),
  (8, .ifCond .ne 5, 3, [7], []),
  (11, .iconst (-1), 1, [0, 1], []),
  (12, .ireturn, 1, [0], []),
  (13, .aload_n 0, 1, [0], []),
  (14, .getfield 16, 3, [4, 2], [231, 0]),
  (17, .iload_n 1, 1, [1], []),
  (18, .invokevirtual 96, 3, [12, 2, 1], [354, 1, 335, 8, 65, 336]),
  (21, .ifCond .ne 6, 3, [14], []),
  (24, .bipush (-3), 2, [0, 3], []),
  (26, .ireturn, 1, [0], []),
  (27, .aload_n 0, 1, [0], []),
  (28, .getfield 16, 3, [4, 2], [231, 0]),
  (31, .getfield 102, 3, [1, 4], [98, 1]),
  (34, .istore_n 2, 1, [2], []),
  (35, .aload_n 0, 1, [0], []),
  (36, .getfield 16, 3, [4, 2], [231, 0]),
  (39, .iload_n 1, 1, [1], []),
  (40, .putfield 102, 3, [1, 4, 0], [98, 1, 0]),
  (43, .aload_n 0, 1, [0], []),
  (44, .invokevirtual 58, 3, [66, 1, 4], [288, 0, 290, 2, 64, 291]),
  (47, .iload_n 2, 1, [2], []),
  (48, .ireturn, 1, [0], [])]
def mt_43 : AMt := (yX4_begin, cX4_begin, 3, (some .int), tb_43)
def tb_44 : List AEn := [(0, .iload_n 1, 1, [1], []),
  (1, .ifCond .lt 9, 3, [5], []),
  (4, .iload_n 1, 1, [1], []),
  (5, .bipush 9, 2, [9], []),
  (7, .if_icmp .le 6, 3, [7], []),
  (10, .bipush (-2), 2, [0, 2], []),
  (12, .ireturn, 1, [0], []),
  (13, .aload_n 0, 1, [0], []),
  (14, .getfield 16, 3, [4, 2], [231, 0]),
  (17, .getfield 105, 3, [1, 5], [100, 1]),
  (20, .istore_n 2, 1, [2], []),
  (21, .aload_n 0, 1, [0], []),
  (22, .getfield 16, 3, [4, 2], [231, 0]),
  (25, .iload_n 1, 1, [1], []),
  (26, .putfield 105, 3, [1, 5, 0], [100, 1, 0]),
  (29, .aload_n 0, 1, [0], []),
  (30, .invokevirtual 58, 3, [66, 1, 4], [288, 0, 290, 2, 64, 291]),
  (33, .iload_n 2, 1, [2], []),
  (34, .ireturn, 1, [0], [])]
def mt_44 : AMt := (yX4_spill, cX4_spill, 3, (some .int), tb_44)
def tb_45 : List AEn := [(0, .iload_n 1, 1, [1], []),
  (1, .ifCond .lt 8, 3, [5], []),
  (4, .iload_n 1, 1, [1], []),
  (5, .iconst 1, 1, [1], []),
  (6, .if_icmp .le 6, 3, [7], []),
  (9, .bipush (-2), 2, [0, 2], []),
  (11, .ireturn, 1, [0], []),
  (12, .aload_n 0, 1, [0], []),
  (13, .invokevirtual 108, 3, [64, 1, 4], [367, 0, 369, 10, 64, 370]),
  (16, .istore_n 2, 1, [2], []),
  (17, .iload_n 2, 1, [2], []),
  (18, .bipush (-5), 2, [0, 5], []),
  (20, .if_icmp .ne 6, 3, [15], []),
  (23, .bipush (-5), 2, [0, 5], []),
  (25, .ireturn, 1, [0], []),
  (26, .iload_n 2, 1, [2], []),
  (27, .ifCond .ne 6, 3, [19], []),
  (30, .bipush (-6), 2, [0, 6], []),
  (32, .ireturn, 1, [0], []),
  (33, .iload_n 1, 1, [1], []),
  (34, .ifCond .ne 13, 3, [25], []),
  (37, .aload_n 0, 1, [0], []),
  (38, .getfield 27, 3, [4, 4], [233, 0]),
  (41, .getfield 111, 3, [2, 1], [137, 1]),
  (44, .goto 10, 3, [28], []),
  (47, .aload_n 0, 1, [0], []),
  (48, .getfield 27, 3, [4, 4], [233, 0]),
  (51, .getfield 114, 3, [2, 4], [145, 1]),
  (54, .ireturn, 1, [0], [])]
def mt_45 : AMt := (yX4_judge, cX4_judge, 3, (some .int), tb_45)
def tb_46 : List AEn := [(0, .iload_n 1, 1, [1], []),
  (1, .ifCond .lt 9, 3, [5], []),
  (4, .iload_n 1, 1, [1], []),
  (5, .bipush 6, 2, [6], []),
  (7, .if_icmp .le 6, 3, [7], []),
  (10, .bipush (-2), 2, [0, 2], []),
  (12, .ireturn, 1, [0], []),
  (13, .aload_n 0, 1, [0], []),
  (14, .invokevirtual 108, 3, [64, 1, 4], [367, 0, 369, 10, 64, 370]),
  (17, .istore_n 2, 1, [2], []),
  (18, .iload_n 2, 1, [2], []),
  (19, .ifCond .eq 5, 3, [14], []),
  (22, .iload_n 2, 1, [2], []),
  (23, .ireturn, 1, [0], []),
  (24, .iload_n 1, 1, [1], []),
  (25, .tableswitch 146 0 5 #[39, 47, 57, 76, 108, 138], 39, [69, 16, 20, 26, 35, 51, 65], []),
  (64, .aload_n 0, 1, [0], []),
  (65, .getfield 27, 3, [4, 4], [233, 0]),
  (68, .getfield 117, 3, [2, 0], [134, 1]),
  (71, .ireturn, 1, [0], []),
  (72, .aload_n 0, 1, [0], []),
  (73, .getfield 27, 3, [4, 4], [233, 0]),
  (76, .getfield 111, 3, [2, 1], [137, 1]),
  (79, .iconst 1, 1, [1], []),
  (80, .iadd, 1, [], []),
  (81, .ireturn, 1, [0], []),
  (82, .aload_n 0, 1, [0], []),
  (83, .getfield 16, 3, [4, 2], [231, 0]),
  (86, .aload_n 0, 1, [0], []),
  (87, .getfield 27, 3, [4, 4], [233, 0]),
  (90, .aload_n 0, 1, [0], []),
  (91, .getfield 16, 3, [4, 2], [231, 0]),
  (94, .invokevirtual 120, 3, [26, 2, 2], [398, 1, 400, 16, 66, 401]),
  (97, .invokevirtual 124, 3, [18, 2, 1], [402, 1, 404, 17, 65, 405]),
  (100, .ireturn, 1, [0], []),
  (101, .aload_n 0, 1, [0], []),
  (102, .getfield 27, 3, [4, 4], [233, 0]),
  (105, .getfield 127, 3, [2, 2], [140, 1]),
  (108, .aload_n 0, 1, [0], []),
  (109, .getfield 16, 3, [4, 2], [231, 0]),
  (112, .aload_n 0, 1, [0], []),
  (113, .getfield 27, 3, [4, 4], [233, 0]),
  (116, .getfield 117, 3, [2, 0], [134, 1]),
  (119, .aload_n 0, 1, [0], []),
  (120, .getfield 27, 3, [4, 4], [233, 0]),
  (123, .getfield 127, 3, [2, 2], [140, 1]),
  (126, .invokevirtual 130, 3, [19, 3, 1], [406, 1, 408, 18, 65, 409]),
  (129, .iconst (-1), 1, [0, 1], []),
  (130, .ixor, 1, [], []),
  (131, .iand, 1, [], []),
  (132, .ireturn, 1, [0], []),
  (133, .aload_n 0, 1, [0], []),
  (134, .getfield 16, 3, [4, 2], [231, 0]),
  (137, .aload_n 0, 1, [0], []),
  (138, .getfield 27, 3, [4, 4], [233, 0]),
  (141, .getfield 117, 3, [2, 0], [134, 1]),
  (144, .aload_n 0, 1, [0], []),
  (145, .getfield 27, 3, [4, 4], [233, 0]),
  (148, .getfield 127, 3, [2, 2], [140, 1]),
  (151, .invokevirtual 134, 3, [15, 3, 1], [410, 1, 412, 19, 65, 413]),
  (154, .ifCond .eq 7, 3, [63], []),
  (157, .iconst 1, 1, [1], []),
  (158, .goto 4, 3, [64], []),
  (161, .iconst 0, 1, [0], []),
  (162, .ireturn, 1, [0], []),
  (163, .aload_n 0, 1, [0], []),
  (164, .getfield 27, 3, [4, 4], [233, 0]),
  (167, .getfield 138, 3, [2, 3], [143, 1]),
  (170, .ireturn, 1, [0], []),
  (171, .aload_n 0, 1, [0], []),
  (172, .getfield 27, 3, [4, 4], [233, 0]),
  (175, .aload_n 0, 1, [0], []),
  (176, .getfield 16, 3, [4, 2], [231, 0]),
  (179, .invokevirtual 120, 3, [26, 2, 2], [398, 1, 400, 16, 66, 401]),
  (182, .ireturn, 1, [0], [])]
def mt_46 : AMt := (yX4_way, cX4_way, 3, (some .int), tb_46)
def tb_47 : List AEn := [(0, .aload_n 0, 1, [0], []),
  (1, .invokevirtual 141, 3, [67, 1, 4], [418, 0, 420, 20, 64, 421]),
  (4, .iload_n 1, 1, [1], []),
  (5, .iconst (-1), 1, [0, 1], []),
  (6, .if_icmp .ne 13, 3, [9], []),
  (9, .aload_n 0, 1, [0], []),
  (10, .getfield 45, 3, [4, 8], [237, 0]),
  (13, .getfield 144, 3, [0, 0], [201, 1]),
  (16, .goto 11, 3, [13], []),
  (19, .aload_n 0, 1, [0], []),
  (20, .getfield 45, 3, [4, 8], [237, 0]),
  (23, .iload_n 1, 1, [1], []),
  (24, .invokevirtual 147, 3, [4, 2, 0], [467, 1, 469, 31, 68, 470]),
  (27, .ireturn, 1, [0], [])]
def mt_47 : AMt := (yX4_longest, cX4_longest, 2, (some .int), tb_47)
def tb_48 : List AEn := [(0, .iload_n 1, 1, [1], []),
  (1, .iconst (-1), 1, [0, 1], []),
  (2, .if_icmp .eq 16, 3, [10], []),
  (5, .aload_n 0, 1, [0], []),
  (6, .getfield 16, 3, [4, 2], [231, 0]),
  (9, .iload_n 1, 1, [1], []),
  (10, .invokevirtual 92, 3, [11, 2, 1], [350, 1, 352, 9, 65, 353]),
  (13, .ifCond .ne 5, 3, [10], []),
  (16, .iconst (-1), 1, [0, 1], []),
  (17, .ireturn, 1, [0], []),
  (18, .aload_n 0, 1, [0], []),
  (19, .invokevirtual 141, 3, [67, 1, 4], [418, 0, 420, 20, 64, 421]),
  (22, .iload_n 1, 1, [1], []),
  (23, .iconst (-1), 1, [0, 1], []),
  (24, .if_icmp .eq 10, 3, [20], []),
  (27, .aload_n 0, 1, [0], []),
  (28, .getfield 51, 3, [4, 10], [239, 0]),
  (31, .iload_n 1, 1, [1], []),
  (32, .iaload, 1, [], []),
  (33, .ireturn, 1, [0], []),
  (34, .iconst 0, 1, [0], []),
  (35, .istore_n 2, 1, [2], []),
  (36, .iconst 0, 1, [0], []),
  (37, .istore_n 3, 1, [3], []),
  (38, .iload_n 3, 1, [3], []),
  (39, .bipush 16, 2, [16], []),
  (41, .if_icmp .ge 18, 3, [36], []),
  (44, .iload_n 2, 1, [2], []),
  (45, .aload_n 0, 1, [0], []),
  (46, .getfield 51, 3, [4, 10], [239, 0]),
  (49, .iload_n 3, 1, [3], []),
  (50, .iaload, 1, [], []),
  (51, .iadd, 1, [], []),
  (52, .istore_n 2, 1, [2], []),
  (53, .iinc 3 1, 3, [3, 1], []),
  (56, .goto (-18), 3, [24], []),
  (59, .iload_n 2, 1, [2], []),
  (60, .ireturn, 1, [0], [])]
def mt_48 : AMt := (yX4_all, cX4_all, 4, (some .int), tb_48)
def tb_49 : List AEn := [(0, .aload_n 0, 1, [0], []),
  (1, .getfield 16, 3, [4, 2], [231, 0]),
  (4, .aload_n 0, 1, [0], []),
  (5, .getfield 16, 3, [4, 2], [231, 0]),
  (8, .getfield 102, 3, [1, 4], [98, 1]),
  (11, .invokevirtual 150, 3, [20, 2, 1], [480, 1, 482, 32, 65, 483]),
  (14, .ireturn, 1, [0], [])]
def mt_49 : AMt := (yX4_bound, cX4_bound, 1, (some .int), tb_49)
def tb_50 : List AEn := [(0, .aload_n 0, 1, [0], []),
  (1, .invokevirtual 141, 3, [67, 1, 4], [418, 0, 420, 20, 64, 421]),
  (4, .iload_n 1, 1, [1], []),
  (5, .iconst (-1), 1, [0, 1], []),
  (6, .if_icmp .ne 13, 3, [9], []),
  (9, .aload_n 0, 1, [0], []),
  (10, .getfield 48, 3, [4, 9], [238, 0]),
  (13, .getfield 144, 3, [0, 0], [201, 1]),
  (16, .goto 11, 3, [13], []),
  (19, .aload_n 0, 1, [0], []),
  (20, .getfield 48, 3, [4, 9], [238, 0]),
  (23, .iload_n 1, 1, [1], []),
  (24, .invokevirtual 147, 3, [4, 2, 0], [467, 1, 469, 31, 68, 470]),
  (27, .ireturn, 1, [0], [])]
def mt_50 : AMt := (yX4_best, cX4_best, 2, (some .int), tb_50)
def tb_51 : List AEn := [(0, .iload_n 1, 1, [1], []),
  (1, .ifCond .lt 18, 3, [10], []),
  (4, .iload_n 1, 1, [1], []),
  (5, .bipush 20, 2, [20], []),
  (7, .if_icmp .gt 12, 3, [10], []),
  (10, .iload_n 2, 1, [2], []),
  (11, .ifCond .lt 8, 3, [10], []),
  (14, .iload_n 2, 1, [2], []),
  (15, .iconst 1, 1, [1], []),
  (16, .if_icmp .le 6, 3, [12], []),
  (19, .bipush (-2), 2, [0, 2], []),
  (21, .ireturn, 1, [0], []),
  (22, .aload_n 0, 1, [0], []),
  (23, .invokevirtual 108, 3, [64, 1, 4], [367, 0, 369, 10, 64, 370]),
  (26, .istore_n 3, 1, [3], []),
  (27, .iload_n 3, 1, [3], []),
  (28, .ifCond .eq 5, 3, [19], []),
  (31, .iload_n 3, 1, [3], []),
  (32, .ireturn, 1, [0], []),
  (33, .aload_n 0, 1, [0], []),
  (34, .getfield 41, 3, [4, 6], [235, 0]),
  (37, .invokevirtual 153, 3, [2, 1, 0], [422, 1, 424, 21, 68, 425]),
  (40, .aload_n 0, 1, [0], []),
  (41, .getfield 34, 3, [4, 5], [234, 0]),
  (44, .aload_n 0, 1, [0], []),
  (45, .getfield 16, 3, [4, 2], [231, 0]),
  (48, .aload_n 0, 1, [0], []),
  (49, .getfield 27, 3, [4, 4], [233, 0]),
  (52, .iload_n 1, 1, [1], []),
  (53, .invokevirtual 156, 3, [29, 4, 3], [497, 1, 499, 34, 67, 500]),
  (56, .iconst 0, 1, [0], []),
  (57, .istore 4, 2, [4], []),
  (59, .iload 4, 2, [4], []),
  (61, .ldc 160, 2, [1000000], [437]),
  (63, .if_icmp .ge 37, 3, [49], []),
  (66, .aload_n 0, 1, [0], []),
  (67, .getfield 34, 3, [4, 5], [234, 0]),
  (70, .invokevirtual 161, 3, [31, 1, 3], [438, 1, 440, 24, 67, 441]),
  (73, .ifCond .eq 27, 3, [49], []),
  (76, .aload_n 0, 1, [0], []),
  (77, .getfield 41, 3, [4, 6], [235, 0]),
  (80, .aload_n 0, 1, [0], []),
  (81, .getfield 34, 3, [4, 5], [234, 0]),
  (84, .aload_n 0, 1, [0], []),
  (85, .getfield 34, 3, [4, 5], [234, 0]),
  (88, .invokevirtual 164, 3, [34, 1, 3], [455, 1, 457, 28, 67, 458]),
  (91, .invokevirtual 166, 3, [3, 3, 0], [451, 1, 453, 27, 68, 454]),
  (94, .iinc 4 1, 3, [4, 1], []),
  (97, .goto (-38), 3, [32], []),
  (100, .iload_n 2, 1, [2], []),
  (101, .ifCond .ne 13, 3, [55], []),
  (104, .aload_n 0, 1, [0], []),
  (105, .getfield 41, 3, [4, 6], [235, 0]),
  (108, .getfield 144, 3, [0, 0], [201, 1]),
  (111, .goto 11, 3, [59], []),
  (114, .aload_n 0, 1, [0], []),
  (115, .getfield 41, 3, [4, 6], [235, 0]),
  (118, .iconst 0, 1, [0], []),
  (119, .invokevirtual 147, 3, [4, 2, 0], [467, 1, 469, 31, 68, 470]),
  (122, .ireturn, 1, [0], [])]
def mt_51 : AMt := (yX4_storm, cX4_storm, 5, (some .int), tb_51)
def tb_52 : List AEn := [(0, .aload_n 0, 1, [0], []),
  (1, .getfield 16, 3, [4, 2], [231, 0]),
  (4, .getfield 83, 3, [1, 3], [95, 1]),
  (7, .invokestatic 86, 3, [0, 1], [340, 0, 341, 71, 342]),
  (10, .bipush 12, 2, [12], []),
  (12, .if_icmp .le 6, 3, [8], []),
  (15, .bipush (-4), 2, [0, 4], []),
  (17, .ireturn, 1, [0], []),
  (18, .aload_n 0, 1, [0], []),
  (19, .getfield 170, 3, [4, 14], [243, 0]),
  (22, .ifCond .ne 52, 3, [40], []),
  (25, .aload_n 0, 1, [0], []),
  (26, .getfield 16, 3, [4, 2], [231, 0]),
  (29, .getfield 102, 3, [1, 4], [98, 1]),
  (32, .istore_n 1, 1, [1], []),
  (33, .aload_n 0, 1, [0], []),
  (34, .getfield 16, 3, [4, 2], [231, 0]),
  (37, .iload_n 1, 1, [1], []),
  (38, .invokevirtual 174, 3, [16, 2, 1], [505, 1, 377, 12, 65, 378]),
  (41, .istore_n 2, 1, [2], []),
  (42, .aload_n 0, 1, [0], []),
  (43, .iconst 1, 1, [1], []),
  (44, .aload_n 0, 1, [0], []),
  (45, .getfield 16, 3, [4, 2], [231, 0]),
  (48, .iload_n 1, 1, [1], []),
  (49, .iload_n 1, 1, [1], []),
  (50, .iload_n 2, 1, [2], []),
  (51, .aload_n 0, 1, [0], []),
  (52, .getfield 16, 3, [4, 2], [231, 0]),
  (55, .iload_n 1, 1, [1], []),
  (56, .iload_n 2, 1, [2], []),
  (57, .invokevirtual 130, 3, [19, 3, 1], [406, 1, 408, 18, 65, 409]),
  (60, .iand, 1, [], []),
  (61, .iconst 0, 1, [0], []),
  (62, .invokestatic 177, 3, [70, 5], [506, 0, 507, 64, 508]),
  (65, .iadd, 1, [], []),
  (66, .putfield 181, 3, [4, 15, 0], [244, 0, 0]),
  (69, .aload_n 0, 1, [0], []),
  (70, .iconst 1, 1, [1], []),
  (71, .putfield 170, 3, [4, 14, 1], [243, 0, 0]),
  (74, .aload_n 0, 1, [0], []),
  (75, .getfield 181, 3, [4, 15], [244, 0]),
  (78, .ireturn, 1, [0], [])]
def mt_52 : AMt := (yX4_two, cX4_two, 3, (some .int), tb_52)
def tb_53 : List AEn := [(0, .aload_n 0, 1, [0], []),
  (1, .getfield 16, 3, [4, 2], [231, 0]),
  (4, .getfield 83, 3, [1, 3], [95, 1]),
  (7, .invokestatic 86, 3, [0, 1], [340, 0, 341, 71, 342]),
  (10, .bipush 12, 2, [12], []),
  (12, .if_icmp .le 6, 3, [8], []),
  (15, .bipush (-4), 2, [0, 4], []),
  (17, .ireturn, 1, [0], []),
  (18, .aload_n 0, 1, [0], []),
  (19, .getfield 184, 3, [4, 16], [245, 0]),
  (22, .ifCond .ne 38, 3, [30], []),
  (25, .aload_n 0, 1, [0], []),
  (26, .getfield 16, 3, [4, 2], [231, 0]),
  (29, .getfield 102, 3, [1, 4], [98, 1]),
  (32, .istore_n 1, 1, [1], []),
  (33, .aload_n 0, 1, [0], []),
  (34, .aload_n 0, 1, [0], []),
  (35, .getfield 16, 3, [4, 2], [231, 0]),
  (38, .iload_n 1, 1, [1], []),
  (39, .iload_n 1, 1, [1], []),
  (40, .aload_n 0, 1, [0], []),
  (41, .getfield 16, 3, [4, 2], [231, 0]),
  (44, .iload_n 1, 1, [1], []),
  (45, .invokevirtual 174, 3, [16, 2, 1], [505, 1, 377, 12, 65, 378]),
  (48, .iconst 0, 1, [0], []),
  (49, .invokestatic 187, 3, [71, 5], [516, 0, 517, 64, 518]),
  (52, .putfield 190, 3, [4, 17, 0], [246, 0, 0]),
  (55, .aload_n 0, 1, [0], []),
  (56, .iconst 1, 1, [1], []),
  (57, .putfield 184, 3, [4, 16, 1], [245, 0, 0]),
  (60, .sipush 1000, 3, [1000], []),
  (63, .aload_n 0, 1, [0], []),
  (64, .getfield 190, 3, [4, 17], [246, 0]),
  (67, .iadd, 1, [], []),
  (68, .ireturn, 1, [0], [])]
def mt_53 : AMt := (yX4_game, cX4_game, 2, (some .int), tb_53)
def tb_54 : List AEn := [(0, .iload_n 1, 1, [1], []),
  (1, .ifCond .lt 8, 3, [5], []),
  (4, .iload_n 1, 1, [1], []),
  (5, .iconst 1, 1, [1], []),
  (6, .if_icmp .le 6, 3, [7], []),
  (9, .bipush (-2), 2, [0, 2], []),
  (11, .ireturn, 1, [0], []),
  (12, .aload_n 0, 1, [0], []),
  (13, .getfield 193, 3, [4, 11], [240, 0]),
  (16, .ifCond .ne 7, 3, [12], []),
  (19, .aload_n 0, 1, [0], []),
  (20, .invokevirtual 196, 3, [68, 1, 4], [523, 0, 525, 35, 64, 526]),
  (23, .iload_n 1, 1, [1], []),
  (24, .ifCond .ne 10, 3, [17], []),
  (27, .aload_n 0, 1, [0], []),
  (28, .getfield 199, 3, [4, 12], [241, 0]),
  (31, .goto 7, 3, [19], []),
  (34, .aload_n 0, 1, [0], []),
  (35, .getfield 202, 3, [4, 13], [242, 0]),
  (38, .ireturn, 1, [0], [])]
def mt_54 : AMt := (yX4_where, cX4_where, 2, (some .int), tb_54)
def tb_55 : List AEn := [(0, .aload_n 0, 1, [0], []),
  (1, .invokevirtual 141, 3, [67, 1, 4], [418, 0, 420, 20, 64, 421]),
  (4, .iconst 0, 1, [0], []),
  (5, .istore_n 1, 1, [1], []),
  (6, .iconst 0, 1, [0], []),
  (7, .istore_n 2, 1, [2], []),
  (8, .iload_n 2, 1, [2], []),
  (9, .bipush 16, 2, [16], []),
  (11, .if_icmp .ge 24, 3, [22], []),
  (14, .aload_n 0, 1, [0], []),
  (15, .getfield 51, 3, [4, 10], [239, 0]),
  (18, .iload_n 2, 1, [2], []),
  (19, .iaload, 1, [], []),
  (20, .ifCond .le 9, 3, [20], []),
  (23, .iload_n 1, 1, [1], []),
  (24, .iconst 1, 1, [1], []),
  (25, .iload_n 2, 1, [2], []),
  (26, .ishl, 1, [], []),
  (27, .ior, 1, [], []),
  (28, .istore_n 1, 1, [1], []),
  (29, .iinc 2 1, 3, [2, 1], []),
  (32, .goto (-24), 3, [6], []),
  (35, .iload_n 1, 1, [1], []),
  (36, .ireturn, 1, [0], [])]
def mt_55 : AMt := (yX4_last, cX4_last, 3, (some .int), tb_55)
def tb_56 : List AEn := [(0, .iload_n 1, 1, [1], []),
  (1, .ifCond .lt 9, 3, [5], []),
  (4, .iload_n 1, 1, [1], []),
  (5, .bipush 12, 2, [12], []),
  (7, .if_icmp .le 6, 3, [7], []),
  (10, .bipush (-2), 2, [0, 2], []),
  (12, .ireturn, 1, [0], []),
  (13, .aload_n 0, 1, [0], []),
  (14, .invokevirtual 108, 3, [64, 1, 4], [367, 0, 369, 10, 64, 370]),
  (17, .istore_n 2, 1, [2], []),
  (18, .iload_n 2, 1, [2], []),
  (19, .ifCond .eq 5, 3, [14], []),
  (22, .iload_n 2, 1, [2], []),
  (23, .ireturn, 1, [0], []),
  (24, .iconst 0, 1, [0], []),
  (25, .istore_n 3, 1, [3], []),
  (26, .aload_n 0, 1, [0], []),
  (27, .getfield 34, 3, [4, 5], [234, 0]),
  (30, .aload_n 0, 1, [0], []),
  (31, .getfield 16, 3, [4, 2], [231, 0]),
  (34, .aload_n 0, 1, [0], []),
  (35, .getfield 27, 3, [4, 4], [233, 0]),
  (38, .iload_n 1, 1, [1], []),
  (39, .invokevirtual 156, 3, [29, 4, 3], [497, 1, 499, 34, 67, 500]),
  (42, .iconst 0, 1, [0], []),
  (43, .istore 4, 2, [4], []),
  (45, .iload 4, 2, [4], []),
  (47, .ldc 160, 2, [1000000], [437]),
  (49, .if_icmp .ge 33, 3, [41], []),
  (52, .aload_n 0, 1, [0], []),
  (53, .getfield 34, 3, [4, 5], [234, 0]),
  (56, .invokevirtual 161, 3, [31, 1, 3], [438, 1, 440, 24, 67, 441]),
  (59, .ifCond .eq 23, 3, [41], []),
  (62, .aload_n 0, 1, [0], []),
  (63, .getfield 34, 3, [4, 5], [234, 0]),
  (66, .getfield 205, 3, [3, 4], [169, 1]),
  (69, .iload_n 1, 1, [1], []),
  (70, .if_icmp .ne 6, 3, [39], []),
  (73, .iinc 3 1, 3, [3, 1], []),
  (76, .iinc 4 1, 3, [4, 1], []),
  (79, .goto (-34), 3, [26], []),
  (82, .iload_n 3, 1, [3], []),
  (83, .ireturn, 1, [0], [])]
def mt_56 : AMt := (yX4_goesOn, cX4_goesOn, 5, (some .int), tb_56)
def tb_57 : List AEn := [(0, .iload_n 1, 1, [1], []),
  (1, .ifCond .lt 19, 3, [10], []),
  (4, .iload_n 1, 1, [1], []),
  (5, .sipush 9999, 3, [9999], []),
  (8, .if_icmp .gt 12, 3, [10], []),
  (11, .iload_n 2, 1, [2], []),
  (12, .ifCond .lt 8, 3, [10], []),
  (15, .iload_n 2, 1, [2], []),
  (16, .iconst 1, 1, [1], []),
  (17, .if_icmp .le 6, 3, [12], []),
  (20, .bipush (-2), 2, [0, 2], []),
  (22, .ireturn, 1, [0], []),
  (23, .iload_n 1, 1, [1], []),
  (24, .istore_n 3, 1, [3], []),
  (25, .aload_n 0, 1, [0], []),
  (26, .getfield 16, 3, [4, 2], [231, 0]),
  (29, .getfield 102, 3, [1, 4], [98, 1]),
  (32, .istore 4, 2, [4], []),
  (34, .aload_n 0, 1, [0], []),
  (35, .getfield 16, 3, [4, 2], [231, 0]),
  (38, .iload 4, 2, [4], []),
  (40, .invokevirtual 174, 3, [16, 2, 1], [505, 1, 377, 12, 65, 378]),
  (43, .istore 5, 2, [5], []),
  (45, .iconst 1, 1, [1], []),
  (46, .istore 6, 2, [6], []),
  (48, .iload 6, 2, [6], []),
  (50, .bipush 16, 2, [16], []),
  (52, .if_icmp .ge 59, 3, [59], []),
  (55, .aload_n 0, 1, [0], []),
  (56, .getfield 16, 3, [4, 2], [231, 0]),
  (59, .iload 4, 2, [4], []),
  (61, .iload 5, 2, [5], []),
  (63, .invokevirtual 134, 3, [15, 3, 1], [410, 1, 412, 19, 65, 413]),
  (66, .ifCond .ne 45, 3, [59], []),
  (69, .bipush 75, 2, [75], []),
  (71, .iload_n 3, 1, [3], []),
  (72, .imul, 1, [], []),
  (73, .bipush 74, 2, [74], []),
  (75, .iadd, 1, [], []),
  (76, .ldc 208, 2, [65537], [543]),
  (78, .irem, 1, [], []),
  (79, .istore_n 3, 1, [3], []),
  (80, .aload_n 0, 1, [0], []),
  (81, .getfield 16, 3, [4, 2], [231, 0]),
  (84, .iload 4, 2, [4], []),
  (86, .iload 5, 2, [5], []),
  (88, .iload_n 3, 1, [3], []),
  (89, .invokevirtual 209, 3, [22, 4, 1], [544, 1, 546, 37, 65, 547]),
  (92, .istore 4, 2, [4], []),
  (94, .iload 5, 2, [5], []),
  (96, .iconst 1, 1, [1], []),
  (97, .iload 4, 2, [4], []),
  (99, .ishl, 1, [], []),
  (100, .iconst (-1), 1, [0, 1], []),
  (101, .ixor, 1, [], []),
  (102, .iand, 1, [], []),
  (103, .istore 5, 2, [5], []),
  (105, .iinc 6 1, 3, [6, 1], []),
  (108, .goto (-60), 3, [25], []),
  (111, .iload_n 2, 1, [2], []),
  (112, .ifCond .ne 8, 3, [63], []),
  (115, .iload 6, 2, [6], []),
  (117, .goto 5, 3, [64], []),
  (120, .iload 4, 2, [4], []),
  (122, .ireturn, 1, [0], [])]
def mt_57 : AMt := (yX4_drawn, cX4_drawn, 7, (some .int), tb_57)
def tb_58 : List AEn := [(0, .iload_n 1, 1, [1], []),
  (1, .ifCond .lt 8, 3, [5], []),
  (4, .iload_n 1, 1, [1], []),
  (5, .iconst 2, 1, [2], []),
  (6, .if_icmp .lt 6, 3, [7], []),
  (9, .bipush (-2), 2, [0, 2], []),
  (11, .ireturn, 1, [0], []),
  (12, .aload_n 0, 1, [0], []),
  (13, .getfield 20, 3, [4, 3], [232, 0]),
  (16, .iload_n 1, 1, [1], []),
  (17, .aaload, 1, [], []),
  (18, .ifnonnull 16, 3, [19], []),
  (21, .aload_n 0, 1, [0], []),
  (22, .getfield 20, 3, [4, 3], [232, 0]),
  (25, .iload_n 1, 1, [1], []),
  (26, .new 13, 3, [1], [81, 82, 65]),
  (29, .dup, 1, [], []),
  (30, .invokespecial 15, 3, [5, 1], [83, 1, 84, 65, 85]),
  (33, .aastore, 1, [], []),
  (34, .aload_n 0, 1, [0], []),
  (35, .getfield 20, 3, [4, 3], [232, 0]),
  (38, .iload_n 1, 1, [1], []),
  (39, .aaload, 1, [], []),
  (40, .aload_n 0, 1, [0], []),
  (41, .getfield 16, 3, [4, 2], [231, 0]),
  (44, .invokevirtual 213, 3, [10, 2, 1], [554, 1, 556, 38, 65, 557]),
  (47, .iconst 1, 1, [1], []),
  (48, .ireturn, 1, [0], [])]
def mt_58 : AMt := (yX4_image, cX4_image, 2, (some .int), tb_58)
def tb_59 : List AEn := [(0, .iload_n 1, 1, [1], []),
  (1, .ifCond .lt 8, 3, [5], []),
  (4, .iload_n 1, 1, [1], []),
  (5, .iconst 2, 1, [2], []),
  (6, .if_icmp .lt 6, 3, [7], []),
  (9, .bipush (-2), 2, [0, 2], []),
  (11, .ireturn, 1, [0], []),
  (12, .aload_n 0, 1, [0], []),
  (13, .getfield 20, 3, [4, 3], [232, 0]),
  (16, .iload_n 1, 1, [1], []),
  (17, .aaload, 1, [], []),
  (18, .ifnonnull 6, 3, [14], []),
  (21, .bipush (-3), 2, [0, 3], []),
  (23, .ireturn, 1, [0], []),
  (24, .aload_n 0, 1, [0], []),
  (25, .getfield 16, 3, [4, 2], [231, 0]),
  (28, .aload_n 0, 1, [0], []),
  (29, .getfield 20, 3, [4, 3], [232, 0]),
  (32, .iload_n 1, 1, [1], []),
  (33, .aaload, 1, [], []),
  (34, .invokevirtual 213, 3, [10, 2, 1], [554, 1, 556, 38, 65, 557]),
  (37, .aload_n 0, 1, [0], []),
  (38, .invokevirtual 58, 3, [66, 1, 4], [288, 0, 290, 2, 64, 291]),
  (41, .iconst 1, 1, [1], []),
  (42, .ireturn, 1, [0], [])]
def mt_59 : AMt := (yX4_restore, cX4_restore, 2, (some .int), tb_59)
def tb_60 : List AEn := [(0, .iload_n 1, 1, [1], []),
  (1, .tableswitch 87 0 5 #[39, 44, 52, 60, 71, 79], 39, [26, 2, 5, 9, 13, 18, 22], []),
  (40, .aload_n 0, 1, [0], []),
  (41, .getfield 65, 3, [4, 1], [230, 0]),
  (44, .ireturn, 1, [0], []),
  (45, .aload_n 0, 1, [0], []),
  (46, .getfield 16, 3, [4, 2], [231, 0]),
  (49, .getfield 217, 3, [1, 0], [88, 1]),
  (52, .ireturn, 1, [0], []),
  (53, .aload_n 0, 1, [0], []),
  (54, .getfield 16, 3, [4, 2], [231, 0]),
  (57, .getfield 220, 3, [1, 1], [90, 1]),
  (60, .ireturn, 1, [0], []),
  (61, .aload_n 0, 1, [0], []),
  (62, .getfield 16, 3, [4, 2], [231, 0]),
  (65, .getfield 83, 3, [1, 3], [95, 1]),
  (68, .invokestatic 86, 3, [0, 1], [340, 0, 341, 71, 342]),
  (71, .ireturn, 1, [0], []),
  (72, .aload_n 0, 1, [0], []),
  (73, .getfield 16, 3, [4, 2], [231, 0]),
  (76, .getfield 102, 3, [1, 4], [98, 1]),
  (79, .ireturn, 1, [0], []),
  (80, .aload_n 0, 1, [0], []),
  (81, .getfield 16, 3, [4, 2], [231, 0]),
  (84, .getfield 105, 3, [1, 5], [100, 1]),
  (87, .ireturn, 1, [0], []),
  (88, .bipush (-2), 2, [0, 2], []),
  (90, .ireturn, 1, [0], [])]
def mt_60 : AMt := (yX4_told, cX4_told, 2, (some .int), tb_60)
def tb_61 : List AEn := [(0, .iconst 0, 1, [0], []),
  (1, .istore_n 1, 1, [1], []),
  (2, .iload_n 1, 1, [1], []),
  (3, .aload_n 0, 1, [0], []),
  (4, .getfield 65, 3, [4, 1], [230, 0]),
  (7, .if_icmp .ge 65, 3, [39], []),
  (10, .aload_n 0, 1, [0], []),
  (11, .getfield 9, 3, [4, 0], [229, 0]),
  (14, .iload_n 1, 1, [1], []),
  (15, .iaload, 1, [], []),
  (16, .bipush 35, 2, [35], []),
  (18, .if_icmp .eq 25, 3, [24], []),
  (21, .aload_n 0, 1, [0], []),
  (22, .getfield 9, 3, [4, 0], [229, 0]),
  (25, .iload_n 1, 1, [1], []),
  (26, .iaload, 1, [], []),
  (27, .bipush 48, 2, [48], []),
  (29, .if_icmp .lt 18, 3, [26], []),
  (32, .aload_n 0, 1, [0], []),
  (33, .getfield 9, 3, [4, 0], [229, 0]),
  (36, .iload_n 1, 1, [1], []),
  (37, .iaload, 1, [], []),
  (38, .bipush 57, 2, [57], []),
  (40, .if_icmp .gt 7, 3, [26], []),
  (43, .iconst 1, 1, [1], []),
  (44, .goto 4, 3, [27], []),
  (47, .iconst 0, 1, [0], []),
  (48, .istore_n 2, 1, [2], []),
  (49, .iload_n 1, 1, [1], []),
  (50, .aload_n 0, 1, [0], []),
  (51, .getfield 16, 3, [4, 2], [231, 0]),
  (54, .getfield 61, 3, [1, 2], [92, 1]),
  (57, .if_icmp .ge 7, 3, [35], []),
  (60, .iload_n 2, 1, [2], []),
  (61, .ifCond .ne 5, 3, [37], []),
  (64, .iload_n 1, 1, [1], []),
  (65, .ireturn, 1, [0], []),
  (66, .iinc 1 1, 3, [1, 1], []),
  (69, .goto (-67), 3, [2], []),
  (72, .aload_n 0, 1, [0], []),
  (73, .getfield 65, 3, [4, 1], [230, 0]),
  (76, .aload_n 0, 1, [0], []),
  (77, .getfield 16, 3, [4, 2], [231, 0]),
  (80, .getfield 61, 3, [1, 2], [92, 1]),
  (83, .if_icmp .ge 10, 3, [48], []),
  (86, .aload_n 0, 1, [0], []),
  (87, .getfield 65, 3, [4, 1], [230, 0]),
  (90, .goto 5, 3, [49], []),
  (93, .bipush (-6), 2, [0, 6], []),
  (95, .ireturn, 1, [0], [])]
def mt_61 : AMt := (yX4_fieldFault, cX4_fieldFault, 3, (some .int), tb_61)
def tb_62 : List AEn := [(0, .iconst 0, 1, [0], []),
  (1, .istore_n 1, 1, [1], []),
  (2, .iload_n 1, 1, [1], []),
  (3, .aload_n 0, 1, [0], []),
  (4, .getfield 65, 3, [4, 1], [230, 0]),
  (7, .if_icmp .ge 23, 3, [16], []),
  (10, .aload_n 0, 1, [0], []),
  (11, .getfield 9, 3, [4, 0], [229, 0]),
  (14, .iload_n 1, 1, [1], []),
  (15, .iaload, 1, [], []),
  (16, .invokestatic 223, 3, [65, 1], [312, 0, 313, 64, 314]),
  (19, .ifCond .ge 5, 3, [14], []),
  (22, .iload_n 1, 1, [1], []),
  (23, .ireturn, 1, [0], []),
  (24, .iinc 1 1, 3, [1, 1], []),
  (27, .goto (-25), 3, [2], []),
  (30, .bipush (-6), 2, [0, 6], []),
  (32, .ireturn, 1, [0], [])]
def mt_62 : AMt := (yX4_wayFault, cX4_wayFault, 2, (some .int), tb_62)
def tb_63 : List AEn := [(0, .iconst 0, 1, [0], []),
  (1, .istore_n 1, 1, [1], []),
  (2, .iload_n 1, 1, [1], []),
  (3, .aload_n 0, 1, [0], []),
  (4, .getfield 65, 3, [4, 1], [230, 0]),
  (7, .if_icmp .ge 22, 3, [16], []),
  (10, .aload_n 0, 1, [0], []),
  (11, .getfield 9, 3, [4, 0], [229, 0]),
  (14, .iload_n 1, 1, [1], []),
  (15, .iaload, 1, [], []),
  (16, .bipush 35, 2, [35], []),
  (18, .if_icmp .eq 5, 3, [14], []),
  (21, .iconst 0, 1, [0], []),
  (22, .ireturn, 1, [1], []),
  (23, .iinc 1 1, 3, [1, 1], []),
  (26, .goto (-24), 3, [2], []),
  (29, .iconst 1, 1, [1], []),
  (30, .ireturn, 1, [1], [])]
def mt_63 : AMt := (yX4_padIsAllStones, cX4_padIsAllStones, 2, (some .boolean), tb_63)
def tb_64 : List AEn := [(0, .aload_n 0, 1, [0], []),
  (1, .invokevirtual 72, 3, [62, 1, 4], [308, 0, 310, 4, 64, 311]),
  (4, .bipush (-6), 2, [0, 6], []),
  (6, .if_icmp .eq 6, 3, [6], []),
  (9, .bipush (-5), 2, [0, 5], []),
  (11, .ireturn, 1, [0], []),
  (12, .aload_n 0, 1, [0], []),
  (13, .getfield 27, 3, [4, 4], [233, 0]),
  (16, .aload_n 0, 1, [0], []),
  (17, .getfield 16, 3, [4, 2], [231, 0]),
  (20, .invokevirtual 226, 3, [24, 2, 2], [371, 1, 373, 11, 66, 374]),
  (23, .iconst 0, 1, [0], []),
  (24, .istore_n 1, 1, [1], []),
  (25, .iload_n 1, 1, [1], []),
  (26, .aload_n 0, 1, [0], []),
  (27, .getfield 65, 3, [4, 1], [230, 0]),
  (30, .if_icmp .ge 35, 3, [32], []),
  (33, .aload_n 0, 1, [0], []),
  (34, .getfield 27, 3, [4, 4], [233, 0]),
  (37, .aload_n 0, 1, [0], []),
  (38, .getfield 16, 3, [4, 2], [231, 0]),
  (41, .aload_n 0, 1, [0], []),
  (42, .getfield 9, 3, [4, 0], [229, 0]),
  (45, .iload_n 1, 1, [1], []),
  (46, .iaload, 1, [], []),
  (47, .invokestatic 223, 3, [65, 1], [312, 0, 313, 64, 314]),
  (50, .invokevirtual 229, 3, [25, 3, 2], [384, 1, 386, 14, 66, 387]),
  (53, .ifCond .ne 6, 3, [30], []),
  (56, .bipush (-3), 2, [0, 3], []),
  (58, .ireturn, 1, [0], []),
  (59, .iinc 1 1, 3, [1, 1], []),
  (62, .goto (-37), 3, [13], []),
  (65, .iconst 0, 1, [0], []),
  (66, .ireturn, 1, [0], [])]
def mt_64 : AMt := (yX4_followPad, cX4_followPad, 2, (some .int), tb_64)
def tb_65 : List AEn := [(0, .iconst 0, 1, [0], []),
  (1, .istore_n 1, 1, [1], []),
  (2, .iload_n 1, 1, [1], []),
  (3, .iconst 4, 1, [4], []),
  (4, .if_icmp .ge 20, 3, [14], []),
  (7, .getstatic 233, 3, [1], [315, 0]),
  (10, .iload_n 1, 1, [1], []),
  (11, .iaload, 1, [], []),
  (12, .iload_n 0, 1, [0], []),
  (13, .if_icmp .ne 5, 3, [12], []),
  (16, .iload_n 1, 1, [1], []),
  (17, .ireturn, 1, [0], []),
  (18, .iinc 1 1, 3, [1, 1], []),
  (21, .goto (-19), 3, [2], []),
  (24, .iconst (-1), 1, [0, 1], []),
  (25, .ireturn, 1, [0], [])]
def mt_65 : AMt := (yX4_stepOfSign, cX4_stepOfSign, 2, (some .int), tb_65)
def tb_66 : List AEn := [(0, .aload_n 0, 1, [0], []),
  (1, .iconst 0, 1, [0], []),
  (2, .putfield 236, 3, [4, 7, 1], [236, 0, 0]),
  (5, .aload_n 0, 1, [0], []),
  (6, .iconst 0, 1, [0], []),
  (7, .putfield 193, 3, [4, 11, 1], [240, 0, 0]),
  (10, .aload_n 0, 1, [0], []),
  (11, .iconst 0, 1, [0], []),
  (12, .putfield 170, 3, [4, 14, 1], [243, 0, 0]),
  (15, .aload_n 0, 1, [0], []),
  (16, .iconst 0, 1, [0], []),
  (17, .putfield 184, 3, [4, 16, 1], [245, 0, 0]),
  (20, .return_, 1, [], [])]
def mt_66 : AMt := (yX4_forget, cX4_forget, 1, none, tb_66)
def tb_67 : List AEn := [(0, .aload_n 0, 1, [0], []),
  (1, .getfield 236, 3, [4, 7], [236, 0]),
  (4, .ifCond .eq 4, 3, [4], []),
  (7, .return_, 1, [], []),
  (8, .aload_n 0, 1, [0], []),
  (9, .getfield 45, 3, [4, 8], [237, 0]),
  (12, .invokevirtual 153, 3, [2, 1, 0], [422, 1, 424, 21, 68, 425]),
  (15, .aload_n 0, 1, [0], []),
  (16, .getfield 48, 3, [4, 9], [238, 0]),
  (19, .invokevirtual 153, 3, [2, 1, 0], [422, 1, 424, 21, 68, 425]),
  (22, .iconst 0, 1, [0], []),
  (23, .istore_n 1, 1, [1], []),
  (24, .iload_n 1, 1, [1], []),
  (25, .bipush 16, 2, [16], []),
  (27, .if_icmp .ge 16, 3, [22], []),
  (30, .aload_n 0, 1, [0], []),
  (31, .getfield 51, 3, [4, 10], [239, 0]),
  (34, .iload_n 1, 1, [1], []),
  (35, .iconst 0, 1, [0], []),
  (36, .iastore, 1, [], []),
  (37, .iinc 1 1, 3, [1, 1], []),
  (40, .goto (-16), 3, [12], []),
  (43, .aload_n 0, 1, [0], []),
  (44, .getfield 34, 3, [4, 5], [234, 0]),
  (47, .aload_n 0, 1, [0], []),
  (48, .getfield 16, 3, [4, 2], [231, 0]),
  (51, .aload_n 0, 1, [0], []),
  (52, .getfield 16, 3, [4, 2], [231, 0]),
  (55, .getfield 102, 3, [1, 4], [98, 1]),
  (58, .bipush 16, 2, [16], []),
  (60, .invokevirtual 239, 3, [28, 4, 3], [426, 1, 428, 22, 67, 429]),
  (63, .iconst 0, 1, [0], []),
  (64, .istore_n 1, 1, [1], []),
  (65, .iload_n 1, 1, [1], []),
  (66, .ldc 160, 2, [1000000], [437]),
  (68, .if_icmp .ge 83, 3, [74], []),
  (71, .aload_n 0, 1, [0], []),
  (72, .getfield 34, 3, [4, 5], [234, 0]),
  (75, .invokevirtual 161, 3, [31, 1, 3], [438, 1, 440, 24, 67, 441]),
  (78, .ifCond .eq 73, 3, [74], []),
  (81, .aload_n 0, 1, [0], []),
  (82, .getfield 45, 3, [4, 8], [237, 0]),
  (85, .aload_n 0, 1, [0], []),
  (86, .getfield 34, 3, [4, 5], [234, 0]),
  (89, .aload_n 0, 1, [0], []),
  (90, .getfield 34, 3, [4, 5], [234, 0]),
  (93, .getfield 205, 3, [3, 4], [169, 1]),
  (96, .iconst 1, 1, [1], []),
  (97, .iadd, 1, [], []),
  (98, .invokevirtual 166, 3, [3, 3, 0], [451, 1, 453, 27, 68, 454]),
  (101, .aload_n 0, 1, [0], []),
  (102, .getfield 48, 3, [4, 9], [238, 0]),
  (105, .aload_n 0, 1, [0], []),
  (106, .getfield 34, 3, [4, 5], [234, 0]),
  (109, .aload_n 0, 1, [0], []),
  (110, .getfield 34, 3, [4, 5], [234, 0]),
  (113, .invokevirtual 164, 3, [34, 1, 3], [455, 1, 457, 28, 67, 458]),
  (116, .invokevirtual 166, 3, [3, 3, 0], [451, 1, 453, 27, 68, 454]),
  (119, .aload_n 0, 1, [0], []),
  (120, .getfield 34, 3, [4, 5], [234, 0]),
  (123, .invokevirtual 243, 3, [35, 1, 3], [459, 1, 461, 29, 67, 462]),
  (126, .ifCond .eq 19, 3, [72], []),
  (129, .aload_n 0, 1, [0], []),
  (130, .getfield 51, 3, [4, 10], [239, 0]),
  (133, .aload_n 0, 1, [0], []),
  (134, .getfield 34, 3, [4, 5], [234, 0]),
  (137, .invokevirtual 246, 3, [33, 1, 3], [463, 1, 465, 30, 67, 466]),
  (140, .dup2, 1, [], []),
  (141, .iaload, 1, [], []),
  (142, .iconst 1, 1, [1], []),
  (143, .iadd, 1, [], []),
  (144, .iastore, 1, [], []),
  (145, .iinc 1 1, 3, [1, 1], []),
  (148, .goto (-83), 3, [33], []),
  (151, .aload_n 0, 1, [0], []),
  (152, .iconst 1, 1, [1], []),
  (153, .putfield 236, 3, [4, 7, 1], [236, 0, 0]),
  (156, .return_, 1, [], [])]
def mt_67 : AMt := (yX4_lookAtAllWays, cX4_lookAtAllWays, 2, none, tb_67)
def tb_68 : List AEn := [(0, .aload_n 0, 1, [0], []),
  (1, .iconst 0, 1, [0], []),
  (2, .putfield 199, 3, [4, 12, 0], [241, 0, 0]),
  (5, .aload_n 0, 1, [0], []),
  (6, .iconst 0, 1, [0], []),
  (7, .putfield 202, 3, [4, 13, 0], [242, 0, 0]),
  (10, .iconst 0, 1, [0], []),
  (11, .istore_n 1, 1, [1], []),
  (12, .iload_n 1, 1, [1], []),
  (13, .aload_n 0, 1, [0], []),
  (14, .getfield 16, 3, [4, 2], [231, 0]),
  (17, .getfield 61, 3, [1, 2], [92, 1]),
  (20, .if_icmp .ge 59, 3, [41], []),
  (23, .aload_n 0, 1, [0], []),
  (24, .getfield 16, 3, [4, 2], [231, 0]),
  (27, .iload_n 1, 1, [1], []),
  (28, .invokevirtual 96, 3, [12, 2, 1], [354, 1, 335, 8, 65, 336]),
  (31, .ifCond .eq 42, 3, [39], []),
  (34, .aload_n 0, 1, [0], []),
  (35, .getfield 16, 3, [4, 2], [231, 0]),
  (38, .iload_n 1, 1, [1], []),
  (39, .invokevirtual 150, 3, [20, 2, 1], [480, 1, 482, 32, 65, 483]),
  (42, .aload_n 0, 1, [0], []),
  (43, .getfield 202, 3, [4, 13], [242, 0]),
  (46, .if_icmp .le 27, 3, [39], []),
  (49, .aload_n 0, 1, [0], []),
  (50, .iload_n 1, 1, [1], []),
  (51, .invokevirtual 248, 3, [69, 2, 4], [527, 0, 529, 36, 64, 530]),
  (54, .istore_n 2, 1, [2], []),
  (55, .iload_n 2, 1, [2], []),
  (56, .aload_n 0, 1, [0], []),
  (57, .getfield 202, 3, [4, 13], [242, 0]),
  (60, .if_icmp .le 13, 3, [39], []),
  (63, .aload_n 0, 1, [0], []),
  (64, .iload_n 2, 1, [2], []),
  (65, .putfield 202, 3, [4, 13, 0], [242, 0, 0]),
  (68, .aload_n 0, 1, [0], []),
  (69, .iload_n 1, 1, [1], []),
  (70, .putfield 199, 3, [4, 12, 0], [241, 0, 0]),
  (73, .iinc 1 1, 3, [1, 1], []),
  (76, .goto (-64), 3, [8], []),
  (79, .aload_n 0, 1, [0], []),
  (80, .iconst 1, 1, [1], []),
  (81, .putfield 193, 3, [4, 11, 1], [240, 0, 0]),
  (84, .return_, 1, [], [])]
def mt_68 : AMt := (yX4_lookWhere, cX4_lookWhere, 3, none, tb_68)
def tb_69 : List AEn := [(0, .aload_n 0, 1, [0], []),
  (1, .getfield 16, 3, [4, 2], [231, 0]),
  (4, .iload_n 1, 1, [1], []),
  (5, .invokevirtual 150, 3, [20, 2, 1], [480, 1, 482, 32, 65, 483]),
  (8, .istore_n 2, 1, [2], []),
  (9, .iconst 0, 1, [0], []),
  (10, .istore_n 3, 1, [3], []),
  (11, .aload_n 0, 1, [0], []),
  (12, .getfield 34, 3, [4, 5], [234, 0]),
  (15, .aload_n 0, 1, [0], []),
  (16, .getfield 16, 3, [4, 2], [231, 0]),
  (19, .iload_n 1, 1, [1], []),
  (20, .bipush 16, 2, [16], []),
  (22, .invokevirtual 239, 3, [28, 4, 3], [426, 1, 428, 22, 67, 429]),
  (25, .iconst 0, 1, [0], []),
  (26, .istore 4, 2, [4], []),
  (28, .iload 4, 2, [4], []),
  (30, .ldc 160, 2, [1000000], [437]),
  (32, .if_icmp .ge 38, 3, [36], []),
  (35, .iload_n 3, 1, [3], []),
  (36, .iload_n 2, 1, [2], []),
  (37, .if_icmp .ge 33, 3, [36], []),
  (40, .aload_n 0, 1, [0], []),
  (41, .getfield 34, 3, [4, 5], [234, 0]),
  (44, .invokevirtual 161, 3, [31, 1, 3], [438, 1, 440, 24, 67, 441]),
  (47, .ifCond .eq 23, 3, [36], []),
  (50, .iload_n 3, 1, [3], []),
  (51, .aload_n 0, 1, [0], []),
  (52, .getfield 34, 3, [4, 5], [234, 0]),
  (55, .getfield 205, 3, [3, 4], [169, 1]),
  (58, .iconst 1, 1, [1], []),
  (59, .iadd, 1, [], []),
  (60, .invokestatic 251, 3, [0, 0, 0], [511, 219, 69, 220]),
  (63, .istore_n 3, 1, [3], []),
  (64, .iinc 4 1, 3, [4, 1], []),
  (67, .goto (-39), 3, [16], []),
  (70, .iload_n 3, 1, [3], []),
  (71, .ireturn, 1, [0], [])]
def mt_69 : AMt := (yX4_longestFrom, cX4_longestFrom, 5, (some .int), tb_69)
def tb_70 : List AEn := [(0, .iload 4, 2, [4], []),
  (2, .bipush 30, 2, [30], []),
  (4, .if_icmp .lt 5, 3, [5], []),
  (7, .iconst 0, 1, [0], []),
  (8, .ireturn, 1, [0], []),
  (9, .aload_n 0, 1, [0], []),
  (10, .iload_n 1, 1, [1], []),
  (11, .iload_n 3, 1, [3], []),
  (12, .invokevirtual 134, 3, [15, 3, 1], [410, 1, 412, 19, 65, 413]),
  (15, .ifCond .eq 28, 3, [26], []),
  (18, .aload_n 0, 1, [0], []),
  (19, .iload_n 2, 1, [2], []),
  (20, .iload_n 3, 1, [3], []),
  (21, .invokevirtual 134, 3, [15, 3, 1], [410, 1, 412, 19, 65, 413]),
  (24, .ifCond .eq 7, 3, [17], []),
  (27, .iconst 0, 1, [0], []),
  (28, .goto 14, 3, [25], []),
  (31, .aload_n 0, 1, [0], []),
  (32, .iload_n 2, 1, [2], []),
  (33, .iload_n 1, 1, [1], []),
  (34, .iload_n 3, 1, [3], []),
  (35, .iload 4, 2, [4], []),
  (37, .iconst 1, 1, [1], []),
  (38, .iadd, 1, [], []),
  (39, .invokestatic 177, 3, [70, 5], [506, 0, 507, 64, 508]),
  (42, .ireturn, 1, [0], []),
  (43, .iload_n 3, 1, [3], []),
  (44, .invokestatic 86, 3, [0, 1], [340, 0, 341, 71, 342]),
  (47, .istore 5, 2, [5], []),
  (49, .iconst 0, 1, [0], []),
  (50, .istore 6, 2, [6], []),
  (52, .iconst 0, 1, [0], []),
  (53, .istore 7, 2, [7], []),
  (55, .iload 7, 2, [7], []),
  (57, .iconst 4, 1, [4], []),
  (58, .if_icmp .ge 62, 3, [69], []),
  (61, .iload 6, 2, [6], []),
  (63, .iload 5, 2, [5], []),
  (65, .if_icmp .ge 55, 3, [69], []),
  (68, .aload_n 0, 1, [0], []),
  (69, .iload_n 1, 1, [1], []),
  (70, .iload 7, 2, [7], []),
  (72, .invokevirtual 256, 3, [13, 3, 1], [509, 1, 390, 15, 65, 391]),
  (75, .istore 8, 2, [8], []),
  (77, .iload_n 3, 1, [3], []),
  (78, .iload 8, 2, [8], []),
  (80, .invokestatic 259, 3, [72, 2], [510, 0, 338, 64, 339]),
  (83, .ifCond .eq 31, 3, [67], []),
  (86, .iload 6, 2, [6], []),
  (88, .iconst 1, 1, [1], []),
  (89, .aload_n 0, 1, [0], []),
  (90, .iload_n 2, 1, [2], []),
  (91, .iload 8, 2, [8], []),
  (93, .iload_n 3, 1, [3], []),
  (94, .iconst 1, 1, [1], []),
  (95, .iload 8, 2, [8], []),
  (97, .ishl, 1, [], []),
  (98, .iconst (-1), 1, [0, 1], []),
  (99, .ixor, 1, [], []),
  (100, .iand, 1, [], []),
  (101, .iload 4, 2, [4], []),
  (103, .iconst 1, 1, [1], []),
  (104, .iadd, 1, [], []),
  (105, .invokestatic 177, 3, [70, 5], [506, 0, 507, 64, 508]),
  (108, .iadd, 1, [], []),
  (109, .invokestatic 251, 3, [0, 0, 0], [511, 219, 69, 220]),
  (112, .istore 6, 2, [6], []),
  (114, .iinc 7 1, 3, [7, 1], []),
  (117, .goto (-62), 3, [33], []),
  (120, .iload 6, 2, [6], []),
  (122, .ireturn, 1, [0], [])]
def mt_70 : AMt := (yX4_cutTogether, cX4_cutTogether, 9, (some .int), tb_70)
def tb_71 : List AEn := [(0, .iload 4, 2, [4], []),
  (2, .bipush 30, 2, [30], []),
  (4, .if_icmp .lt 5, 3, [5], []),
  (7, .iconst 0, 1, [0], []),
  (8, .ireturn, 1, [0], []),
  (9, .aload_n 0, 1, [0], []),
  (10, .iload_n 1, 1, [1], []),
  (11, .iload_n 3, 1, [3], []),
  (12, .invokevirtual 134, 3, [15, 3, 1], [410, 1, 412, 19, 65, 413]),
  (15, .ifCond .eq 29, 3, [27], []),
  (18, .aload_n 0, 1, [0], []),
  (19, .iload_n 2, 1, [2], []),
  (20, .iload_n 3, 1, [3], []),
  (21, .invokevirtual 134, 3, [15, 3, 1], [410, 1, 412, 19, 65, 413]),
  (24, .ifCond .eq 7, 3, [17], []),
  (27, .iconst 0, 1, [0], []),
  (28, .goto 15, 3, [26], []),
  (31, .aload_n 0, 1, [0], []),
  (32, .iload_n 2, 1, [2], []),
  (33, .iload_n 1, 1, [1], []),
  (34, .iload_n 3, 1, [3], []),
  (35, .iload 4, 2, [4], []),
  (37, .iconst 1, 1, [1], []),
  (38, .iadd, 1, [], []),
  (39, .invokestatic 187, 3, [71, 5], [516, 0, 517, 64, 518]),
  (42, .ineg, 1, [], []),
  (43, .ireturn, 1, [0], []),
  (44, .bipush (-16), 2, [0, 16], []),
  (46, .istore 5, 2, [5], []),
  (48, .iconst 0, 1, [0], []),
  (49, .istore 6, 2, [6], []),
  (51, .iload 6, 2, [6], []),
  (53, .iconst 4, 1, [4], []),
  (54, .if_icmp .ge 55, 3, [64], []),
  (57, .aload_n 0, 1, [0], []),
  (58, .iload_n 1, 1, [1], []),
  (59, .iload 6, 2, [6], []),
  (61, .invokevirtual 256, 3, [13, 3, 1], [509, 1, 390, 15, 65, 391]),
  (64, .istore 7, 2, [7], []),
  (66, .iload_n 3, 1, [3], []),
  (67, .iload 7, 2, [7], []),
  (69, .invokestatic 259, 3, [72, 2], [510, 0, 338, 64, 339]),
  (72, .ifCond .eq 31, 3, [62], []),
  (75, .iload 5, 2, [5], []),
  (77, .iconst 1, 1, [1], []),
  (78, .aload_n 0, 1, [0], []),
  (79, .iload_n 2, 1, [2], []),
  (80, .iload 7, 2, [7], []),
  (82, .iload_n 3, 1, [3], []),
  (83, .iconst 1, 1, [1], []),
  (84, .iload 7, 2, [7], []),
  (86, .ishl, 1, [], []),
  (87, .iconst (-1), 1, [0, 1], []),
  (88, .ixor, 1, [], []),
  (89, .iand, 1, [], []),
  (90, .iload 4, 2, [4], []),
  (92, .iconst 1, 1, [1], []),
  (93, .iadd, 1, [], []),
  (94, .invokestatic 187, 3, [71, 5], [516, 0, 517, 64, 518]),
  (97, .isub, 1, [], []),
  (98, .invokestatic 251, 3, [0, 0, 0], [511, 219, 69, 220]),
  (101, .istore 5, 2, [5], []),
  (103, .iinc 6 1, 3, [6, 1], []),
  (106, .goto (-55), 3, [31], []),
  (109, .iload 5, 2, [5], []),
  (111, .ireturn, 1, [0], [])]
def mt_71 : AMt := (yX4_leadApart, cX4_leadApart, 8, (some .int), tb_71)
def tb_72 : List AEn := [(0, .iload_n 1, 1, [1], []),
  (1, .ifCond .lt 22, 3, [14], []),
  (4, .iload_n 1, 1, [1], []),
  (5, .bipush 16, 2, [16], []),
  (7, .if_icmp .ge 16, 3, [14], []),
  (10, .iload_n 0, 1, [0], []),
  (11, .iload_n 1, 1, [1], []),
  (12, .ishr, 1, [], []),
  (13, .iconst 1, 1, [1], []),
  (14, .iand, 1, [], []),
  (15, .iconst 1, 1, [1], []),
  (16, .if_icmp .ne 7, 3, [14], []),
  (19, .iconst 1, 1, [1], []),
  (20, .goto 4, 3, [15], []),
  (23, .iconst 0, 1, [0], []),
  (24, .ireturn, 1, [1], [])]
def mt_72 : AMt := (yX4_isIn, cX4_isIn, 2, (some .boolean), tb_72)
def tb_73 : List AEn := [(0, .aload_n 0, 1, [0], []),
  (1, .invokespecial 1, 3, [0], [574, 79, 80]),
  (4, .aload_n 0, 1, [0], []),
  (5, .bipush 16, 2, [16], []),
  (7, .newarray .int, 2, [0, 16], [124]),
  (9, .putfield 7, 3, [5, 2, 2], [583, 0, 1]),
  (12, .aload_n 0, 1, [0], []),
  (13, .bipush 40, 2, [40], []),
  (15, .newarray .int, 2, [0, 40], [124]),
  (17, .putfield 13, 3, [5, 5, 2], [586, 0, 1]),
  (20, .aload_n 0, 1, [0], []),
  (21, .ldc 16, 2, [1179648], [575]),
  (23, .newarray .int, 2, [0, 1179648], [124]),
  (25, .putfield 17, 3, [5, 12, 2], [593, 0, 1]),
  (28, .aload_n 0, 1, [0], []),
  (29, .ldc 20, 2, [1048576], [576]),
  (31, .newarray .int, 2, [0, 1048576], [124]),
  (33, .putfield 21, 3, [5, 13, 2], [594, 0, 1]),
  (36, .aload_n 0, 1, [0], []),
  (37, .bipush 16, 2, [16], []),
  (39, .newarray .int, 2, [0, 16], [124]),
  (41, .putfield 24, 3, [5, 14, 2], [595, 0, 1]),
  (44, .aload_n 0, 1, [0], []),
  (45, .bipush 12, 2, [12], []),
  (47, .newarray .int, 2, [0, 12], [124]),
  (49, .putfield 27, 3, [5, 15, 2], [596, 0, 1]),
  (52, .aload_n 0, 1, [0], []),
  (53, .bipush 60, 2, [60], []),
  (55, .newarray .int, 2, [0, 60], [124]),
  (57, .putfield 30, 3, [5, 17, 2], [598, 0, 1]),
  (60, .aload_n 0, 1, [0], []),
  (61, .iconst 2, 1, [2], []),
  (62, .newarray .boolean, 2, [1, 2], [645]),
  (64, .putfield 33, 3, [5, 18, 2], [599, 0, 1]),
  (67, .aload_n 0, 1, [0], []),
  (68, .iconst 3, 1, [3], []),
  (69, .iconst 3, 1, [3], []),
  (70, .invokevirtual 37, 3, [76, 3, 5], [577, 0, 579, 39, 70, 580]),
  (73, .return_, 1, [], [])]
def mt_73 : AMt := (yX5_init, cX5_init, 1, none, tb_73)
def tb_74 : List AEn := [(0, .lload_n 0, 1, [0], []),
  (1, .lload_n 2, 1, [2], []),
  (2, .lcmp, 1, [], []),
  (3, .ifCond .lt 14, 3, [10], []),
  (6, .lload_n 0, 1, [0], []),
  (7, .lload 4, 2, [4], []),
  (9, .lcmp, 1, [], []),
  (10, .ifCond .gt 7, 3, [10], []),
  (13, .iconst 1, 1, [1], []),
  (14, .goto 4, 3, [11], []),
  (17, .iconst 0, 1, [0], []),
  (18, .ireturn, 1, [1], [])]
def mt_74 : AMt := (yX5_in, cX5_in, 6, (some .boolean), tb_74)
def tb_75 : List AEn := [(0, .iconst 0, 1, [0], []),
  (1, .istore_n 1, 1, [1], []),
  (2, .iload_n 0, 1, [0], []),
  (3, .istore_n 2, 1, [2], []),
  (4, .iload_n 2, 1, [2], []),
  (5, .ifCond .eq 15, 3, [14], []),
  (8, .iinc 1 1, 3, [1, 1], []),
  (11, .iload_n 2, 1, [2], []),
  (12, .iload_n 2, 1, [2], []),
  (13, .iconst 1, 1, [1], []),
  (14, .isub, 1, [], []),
  (15, .iand, 1, [], []),
  (16, .istore_n 2, 1, [2], []),
  (17, .goto (-13), 3, [4], []),
  (20, .iload_n 1, 1, [1], []),
  (21, .ireturn, 1, [0], [])]
def mt_75 : AMt := (yX5_ones, cX5_ones, 3, (some .int), tb_75)
def tb_76 : List AEn := [(0, .aload_n 0, 1, [0], []),
  (1, .iload_n 1, 1, [1], []),
  (2, .putfield 41, 3, [5, 0, 0], [581, 0, 0]),
  (5, .aload_n 0, 1, [0], []),
  (6, .iload_n 2, 1, [2], []),
  (7, .putfield 45, 3, [5, 1, 0], [582, 0, 0]),
  (10, .iconst 0, 1, [0], []),
  (11, .istore_n 3, 1, [3], []),
  (12, .iload_n 3, 1, [3], []),
  (13, .bipush 16, 2, [16], []),
  (15, .if_icmp .ge 16, 3, [18], []),
  (18, .aload_n 0, 1, [0], []),
  (19, .getfield 7, 3, [5, 2], [583, 0]),
  (22, .iload_n 3, 1, [3], []),
  (23, .iconst 1, 1, [1], []),
  (24, .iastore, 1, [], []),
  (25, .iinc 3 1, 3, [3, 1], []),
  (28, .goto (-16), 3, [8], []),
  (31, .aload_n 0, 1, [0], []),
  (32, .iconst 0, 1, [0], []),
  (33, .putfield 48, 3, [5, 3, 0], [584, 0, 0]),
  (36, .return_, 1, [], [])]
def mt_76 : AMt := (yX5_lay, cX5_lay, 4, none, tb_76)
def tb_77 : List AEn := [(0, .aload_n 0, 1, [0], []),
  (1, .getfield 41, 3, [5, 0], [581, 0]),
  (4, .aload_n 0, 1, [0], []),
  (5, .getfield 45, 3, [5, 1], [582, 0]),
  (8, .imul, 1, [], []),
  (9, .ireturn, 1, [0], [])]
def mt_77 : AMt := (yX5_places, cX5_places, 1, (some .int), tb_77)
def tb_78 : List AEn := [(0, .iload_n 1, 1, [1], []),
  (1, .i2l, 1, [], []),
  (2, .lconst 0, 1, [0], []),
  (3, .aload_n 0, 1, [0], []),
  (4, .invokevirtual 51, 3, [77, 1, 5], [654, 0, 656, 40, 70, 657]),
  (7, .iconst 1, 1, [1], []),
  (8, .isub, 1, [], []),
  (9, .i2l, 1, [], []),
  (10, .invokestatic 55, 3, [74, 3], [651, 0, 652, 70, 653]),
  (13, .ireturn, 1, [1], [])]
def mt_78 : AMt := (yX5_isPlace, cX5_isPlace, 2, (some .boolean), tb_78)
def tb_79 : List AEn := [(0, .iload_n 1, 1, [1], []),
  (1, .i2l, 1, [], []),
  (2, .lconst 1, 1, [1], []),
  (3, .ldc2_w 59, 3, [5], [650]),
  (6, .invokestatic 55, 3, [74, 3], [651, 0, 652, 70, 653]),
  (9, .ifCond .eq 23, 3, [17], []),
  (12, .iload_n 2, 1, [2], []),
  (13, .i2l, 1, [], []),
  (14, .lconst 1, 1, [1], []),
  (15, .ldc2_w 59, 3, [5], [650]),
  (18, .invokestatic 55, 3, [74, 3], [651, 0, 652, 70, 653]),
  (21, .ifCond .eq 11, 3, [17], []),
  (24, .iload_n 1, 1, [1], []),
  (25, .iload_n 2, 1, [2], []),
  (26, .imul, 1, [], []),
  (27, .bipush 16, 2, [16], []),
  (29, .if_icmp .le 6, 3, [19], []),
  (32, .bipush (-2), 2, [0, 2], []),
  (34, .ireturn, 1, [0], []),
  (35, .aload_n 0, 1, [0], []),
  (36, .iload_n 1, 1, [1], []),
  (37, .iload_n 2, 1, [2], []),
  (38, .invokevirtual 37, 3, [76, 3, 5], [577, 0, 579, 39, 70, 580]),
  (41, .aload_n 0, 1, [0], []),
  (42, .invokevirtual 51, 3, [77, 1, 5], [654, 0, 656, 40, 70, 657]),
  (45, .ireturn, 1, [0], [])]
def mt_79 : AMt := (yX5_field, cX5_field, 3, (some .int), tb_79)
def tb_80 : List AEn := [(0, .iload_n 1, 1, [1], []),
  (1, .i2l, 1, [], []),
  (2, .ldc2_w 61, 3, [33], [662]),
  (5, .ldc2_w 63, 3, [126], [663]),
  (8, .invokestatic 55, 3, [74, 3], [651, 0, 652, 70, 653]),
  (11, .ifCond .ne 6, 3, [8], []),
  (14, .bipush (-2), 2, [0, 2], []),
  (16, .ireturn, 1, [0], []),
  (17, .aload_n 0, 1, [0], []),
  (18, .getfield 65, 3, [5, 6], [587, 0]),
  (21, .bipush 40, 2, [40], []),
  (23, .if_icmp .ne 6, 3, [14], []),
  (26, .bipush (-4), 2, [0, 4], []),
  (28, .ireturn, 1, [0], []),
  (29, .aload_n 0, 1, [0], []),
  (30, .getfield 13, 3, [5, 5], [586, 0]),
  (33, .aload_n 0, 1, [0], []),
  (34, .getfield 65, 3, [5, 6], [587, 0]),
  (37, .iload_n 1, 1, [1], []),
  (38, .iastore, 1, [], []),
  (39, .aload_n 0, 1, [0], []),
  (40, .dup, 1, [], []),
  (41, .getfield 65, 3, [5, 6], [587, 0]),
  (44, .iconst 1, 1, [1], []),
  (45, .iadd, 1, [], []),
  (46, .putfield 65, 3, [5, 6, 0], [587, 0, 0]),
  (49, .aload_n 0, 1, [0], []),
  (50, .getfield 65, 3, [5, 6], [587, 0]),
  (53, .ireturn, 1, [0], [])]
def mt_80 : AMt := (yX5_say, cX5_say, 2, (some .int), tb_80)
def tb_81 : List AEn := [(0, .aload_n 0, 1, [0], []),
  (1, .getfield 65, 3, [5, 6], [587, 0]),
  (4, .istore_n 1, 1, [1], []),
  (5, .aload_n 0, 1, [0], []),
  (6, .iconst 0, 1, [0], []),
  (7, .putfield 65, 3, [5, 6, 0], [587, 0, 0]),
  (10, .iload_n 1, 1, [1], []),
  (11, .ireturn, 1, [0], [])]
def mt_81 : AMt := (yX5_wipe, cX5_wipe, 2, (some .int), tb_81)
def tb_82 : List AEn := [(0, .iconst 0, 1, [0], []),
  (1, .istore_n 1, 1, [1], []),
  (2, .iload_n 1, 1, [1], []),
  (3, .aload_n 0, 1, [0], []),
  (4, .getfield 65, 3, [5, 6], [587, 0]),
  (7, .if_icmp .ge 49, 3, [29], []),
  (10, .iload_n 1, 1, [1], []),
  (11, .aload_n 0, 1, [0], []),
  (12, .invokevirtual 51, 3, [77, 1, 5], [654, 0, 656, 40, 70, 657]),
  (15, .if_icmp .eq 33, 3, [25], []),
  (18, .aload_n 0, 1, [0], []),
  (19, .getfield 13, 3, [5, 5], [586, 0]),
  (22, .iload_n 1, 1, [1], []),
  (23, .iaload, 1, [], []),
  (24, .bipush 35, 2, [35], []),
  (26, .if_icmp .eq 24, 3, [27], []),
  (29, .aload_n 0, 1, [0], []),
  (30, .getfield 13, 3, [5, 5], [586, 0]),
  (33, .iload_n 1, 1, [1], []),
  (34, .iaload, 1, [], []),
  (35, .i2l, 1, [], []),
  (36, .ldc2_w 68, 3, [48], [676]),
  (39, .ldc2_w 70, 3, [57], [677]),
  (42, .invokestatic 55, 3, [74, 3], [651, 0, 652, 70, 653]),
  (45, .ifCond .ne 5, 3, [27], []),
  (48, .iload_n 1, 1, [1], []),
  (49, .ireturn, 1, [0], []),
  (50, .iinc 1 1, 3, [1, 1], []),
  (53, .goto (-51), 3, [2], []),
  (56, .aload_n 0, 1, [0], []),
  (57, .getfield 65, 3, [5, 6], [587, 0]),
  (60, .aload_n 0, 1, [0], []),
  (61, .invokevirtual 51, 3, [77, 1, 5], [654, 0, 656, 40, 70, 657]),
  (64, .if_icmp .ge 10, 3, [37], []),
  (67, .aload_n 0, 1, [0], []),
  (68, .getfield 65, 3, [5, 6], [587, 0]),
  (71, .goto 5, 3, [38], []),
  (74, .bipush (-6), 2, [0, 6], []),
  (76, .ireturn, 1, [0], [])]
def mt_82 : AMt := (yX5_faultOfField, cX5_faultOfField, 2, (some .int), tb_82)
def tb_83 : List AEn := [(0, .iload_n 0, 1, [0], []),
  (1, .bipush 110, 2, [110], []),
  (3, .if_icmp .ne 7, 3, [5], []),
  (6, .iconst 0, 1, [0], []),
  (7, .goto 35, 3, [21], []),
  (10, .iload_n 0, 1, [0], []),
  (11, .bipush 101, 2, [101], []),
  (13, .if_icmp .ne 7, 3, [10], []),
  (16, .iconst 1, 1, [1], []),
  (17, .goto 25, 3, [21], []),
  (20, .iload_n 0, 1, [0], []),
  (21, .bipush 115, 2, [115], []),
  (23, .if_icmp .ne 7, 3, [15], []),
  (26, .iconst 2, 1, [2], []),
  (27, .goto 15, 3, [21], []),
  (30, .iload_n 0, 1, [0], []),
  (31, .bipush 119, 2, [119], []),
  (33, .if_icmp .ne 7, 3, [20], []),
  (36, .iconst 3, 1, [3], []),
  (37, .goto 5, 3, [21], []),
  (40, .bipush (-6), 2, [0, 6], []),
  (42, .ireturn, 1, [0], [])]
def mt_83 : AMt := (yX5_wayOf, cX5_wayOf, 1, (some .int), tb_83)
def tb_84 : List AEn := [(0, .iload_n 0, 1, [0], []),
  (1, .ifCond .ne 8, 3, [4], []),
  (4, .bipush 110, 2, [110], []),
  (6, .goto 25, 3, [15], []),
  (9, .iload_n 0, 1, [0], []),
  (10, .iconst 1, 1, [1], []),
  (11, .if_icmp .ne 8, 3, [9], []),
  (14, .bipush 101, 2, [101], []),
  (16, .goto 15, 3, [15], []),
  (19, .iload_n 0, 1, [0], []),
  (20, .iconst 2, 1, [2], []),
  (21, .if_icmp .ne 8, 3, [14], []),
  (24, .bipush 115, 2, [115], []),
  (26, .goto 5, 3, [15], []),
  (29, .bipush 119, 2, [119], []),
  (31, .ireturn, 1, [0], [])]
def mt_84 : AMt := (yX5_signOf, cX5_signOf, 1, (some .int), tb_84)
def tb_85 : List AEn := [(0, .iconst 0, 1, [0], []),
  (1, .istore_n 1, 1, [1], []),
  (2, .iload_n 1, 1, [1], []),
  (3, .aload_n 0, 1, [0], []),
  (4, .getfield 65, 3, [5, 6], [587, 0]),
  (7, .if_icmp .ge 23, 3, [16], []),
  (10, .aload_n 0, 1, [0], []),
  (11, .getfield 13, 3, [5, 5], [586, 0]),
  (14, .iload_n 1, 1, [1], []),
  (15, .iaload, 1, [], []),
  (16, .invokestatic 72, 3, [83, 1], [682, 0, 683, 70, 684]),
  (19, .ifCond .ge 5, 3, [14], []),
  (22, .iload_n 1, 1, [1], []),
  (23, .ireturn, 1, [0], []),
  (24, .iinc 1 1, 3, [1, 1], []),
  (27, .goto (-25), 3, [2], []),
  (30, .bipush (-6), 2, [0, 6], []),
  (32, .ireturn, 1, [0], [])]
def mt_85 : AMt := (yX5_faultOfWay, cX5_faultOfWay, 2, (some .int), tb_85)
def tb_86 : List AEn := [(0, .iload_n 1, 1, [1], []),
  (1, .ifCond .ne 10, 3, [5], []),
  (4, .aload_n 0, 1, [0], []),
  (5, .invokevirtual 76, 3, [82, 1, 5], [672, 0, 674, 41, 70, 675]),
  (8, .goto 17, 3, [12], []),
  (11, .iload_n 1, 1, [1], []),
  (12, .iconst 1, 1, [1], []),
  (13, .if_icmp .ne 10, 3, [11], []),
  (16, .aload_n 0, 1, [0], []),
  (17, .invokevirtual 79, 3, [85, 1, 5], [678, 0, 680, 42, 70, 681]),
  (20, .goto 5, 3, [12], []),
  (23, .bipush (-2), 2, [0, 2], []),
  (25, .ireturn, 1, [0], [])]
def mt_86 : AMt := (yX5_fault, cX5_fault, 2, (some .int), tb_86)
def tb_87 : List AEn := [(0, .iconst 0, 1, [0], []),
  (1, .istore_n 1, 1, [1], []),
  (2, .iconst 0, 1, [0], []),
  (3, .istore_n 2, 1, [2], []),
  (4, .iload_n 2, 1, [2], []),
  (5, .aload_n 0, 1, [0], []),
  (6, .invokevirtual 51, 3, [77, 1, 5], [654, 0, 656, 40, 70, 657]),
  (9, .if_icmp .ge 29, 3, [24], []),
  (12, .iload_n 1, 1, [1], []),
  (13, .aload_n 0, 1, [0], []),
  (14, .getfield 7, 3, [5, 2], [583, 0]),
  (17, .iload_n 2, 1, [2], []),
  (18, .iaload, 1, [], []),
  (19, .iconst (-1), 1, [0, 1], []),
  (20, .if_icmp .ne 7, 3, [17], []),
  (23, .iconst 0, 1, [0], []),
  (24, .goto 6, 3, [20], []),
  (27, .iconst 1, 1, [1], []),
  (28, .iload_n 2, 1, [2], []),
  (29, .ishl, 1, [], []),
  (30, .ior, 1, [], []),
  (31, .istore_n 1, 1, [1], []),
  (32, .iinc 2 1, 3, [2, 1], []),
  (35, .goto (-31), 3, [4], []),
  (38, .iload_n 1, 1, [1], []),
  (39, .ireturn, 1, [0], [])]
def mt_87 : AMt := (yX5_open, cX5_open, 3, (some .int), tb_87)
def tb_88 : List AEn := [(0, .aload_n 0, 1, [0], []),
  (1, .invokevirtual 76, 3, [82, 1, 5], [672, 0, 674, 41, 70, 675]),
  (4, .ifCond .lt 6, 3, [5], []),
  (7, .bipush (-5), 2, [0, 5], []),
  (9, .ireturn, 1, [0], []),
  (10, .bipush (-6), 2, [0, 6], []),
  (12, .istore_n 1, 1, [1], []),
  (13, .aload_n 0, 1, [0], []),
  (14, .invokevirtual 51, 3, [77, 1, 5], [654, 0, 656, 40, 70, 657]),
  (17, .iconst 1, 1, [1], []),
  (18, .isub, 1, [], []),
  (19, .istore_n 2, 1, [2], []),
  (20, .iload_n 2, 1, [2], []),
  (21, .ifCond .lt 26, 3, [26], []),
  (24, .aload_n 0, 1, [0], []),
  (25, .getfield 13, 3, [5, 5], [586, 0]),
  (28, .iload_n 2, 1, [2], []),
  (29, .iaload, 1, [], []),
  (30, .bipush 35, 2, [35], []),
  (32, .if_icmp .ne 7, 3, [22], []),
  (35, .iload_n 1, 1, [1], []),
  (36, .goto 4, 3, [23], []),
  (39, .iload_n 2, 1, [2], []),
  (40, .istore_n 1, 1, [1], []),
  (41, .iinc 2 (-1), 3, [2, 0, 1], []),
  (44, .goto (-24), 3, [12], []),
  (47, .iload_n 1, 1, [1], []),
  (48, .ifCond .ge 6, 3, [30], []),
  (51, .bipush (-3), 2, [0, 3], []),
  (53, .ireturn, 1, [0], []),
  (54, .iconst 0, 1, [0], []),
  (55, .istore_n 2, 1, [2], []),
  (56, .iload_n 2, 1, [2], []),
  (57, .aload_n 0, 1, [0], []),
  (58, .invokevirtual 51, 3, [77, 1, 5], [654, 0, 656, 40, 70, 657]),
  (61, .if_icmp .ge 39, 3, [56], []),
  (64, .aload_n 0, 1, [0], []),
  (65, .getfield 7, 3, [5, 2], [583, 0]),
  (68, .iload_n 2, 1, [2], []),
  (69, .aload_n 0, 1, [0], []),
  (70, .getfield 13, 3, [5, 5], [586, 0]),
  (73, .iload_n 2, 1, [2], []),
  (74, .iaload, 1, [], []),
  (75, .bipush 35, 2, [35], []),
  (77, .if_icmp .ne 7, 3, [47], []),
  (80, .iconst (-1), 1, [0, 1], []),
  (81, .goto 12, 3, [53], []),
  (84, .aload_n 0, 1, [0], []),
  (85, .getfield 13, 3, [5, 5], [586, 0]),
  (88, .iload_n 2, 1, [2], []),
  (89, .iaload, 1, [], []),
  (90, .bipush 48, 2, [48], []),
  (92, .isub, 1, [], []),
  (93, .iastore, 1, [], []),
  (94, .iinc 2 1, 3, [2, 1], []),
  (97, .goto (-41), 3, [32], []),
  (100, .aload_n 0, 1, [0], []),
  (101, .iload_n 1, 1, [1], []),
  (102, .putfield 48, 3, [5, 3, 0], [584, 0, 0]),
  (105, .aload_n 0, 1, [0], []),
  (106, .iconst 0, 1, [0], []),
  (107, .putfield 65, 3, [5, 6, 0], [587, 0, 0]),
  (110, .aload_n 0, 1, [0], []),
  (111, .invokevirtual 82, 3, [87, 1, 5], [689, 0, 691, 43, 70, 692]),
  (114, .invokestatic 85, 3, [75, 1], [693, 0, 694, 70, 695]),
  (117, .ireturn, 1, [0], [])]
def mt_88 : AMt := (yX5_sow, cX5_sow, 3, (some .int), tb_88)
def tb_89 : List AEn := [(0, .aload_n 0, 1, [0], []),
  (1, .iload_n 1, 1, [1], []),
  (2, .invokevirtual 88, 3, [78, 2, 5], [700, 0, 702, 44, 70, 703]),
  (5, .ifCond .ne 7, 3, [6], []),
  (8, .iconst (-1), 1, [0, 1], []),
  (9, .goto 24, 3, [18], []),
  (12, .aload_n 0, 1, [0], []),
  (13, .getfield 7, 3, [5, 2], [583, 0]),
  (16, .iload_n 1, 1, [1], []),
  (17, .iaload, 1, [], []),
  (18, .iconst (-1), 1, [0, 1], []),
  (19, .if_icmp .ne 8, 3, [14], []),
  (22, .bipush (-6), 2, [0, 6], []),
  (24, .goto 9, 3, [18], []),
  (27, .aload_n 0, 1, [0], []),
  (28, .getfield 7, 3, [5, 2], [583, 0]),
  (31, .iload_n 1, 1, [1], []),
  (32, .iaload, 1, [], []),
  (33, .ireturn, 1, [0], [])]
def mt_89 : AMt := (yX5_ears, cX5_ears, 2, (some .int), tb_89)
def tb_90 : List AEn := [(0, .aload_n 0, 1, [0], []),
  (1, .iload_n 1, 1, [1], []),
  (2, .invokevirtual 88, 3, [78, 2, 5], [700, 0, 702, 44, 70, 703]),
  (5, .ifCond .ne 5, 3, [6], []),
  (8, .iconst (-1), 1, [0, 1], []),
  (9, .ireturn, 1, [0], []),
  (10, .aload_n 0, 1, [0], []),
  (11, .getfield 7, 3, [5, 2], [583, 0]),
  (14, .iload_n 1, 1, [1], []),
  (15, .iaload, 1, [], []),
  (16, .iconst (-1), 1, [0, 1], []),
  (17, .if_icmp .ne 6, 3, [14], []),
  (20, .bipush (-3), 2, [0, 3], []),
  (22, .ireturn, 1, [0], []),
  (23, .aload_n 0, 1, [0], []),
  (24, .getfield 48, 3, [5, 3], [584, 0]),
  (27, .istore_n 2, 1, [2], []),
  (28, .aload_n 0, 1, [0], []),
  (29, .iload_n 1, 1, [1], []),
  (30, .putfield 48, 3, [5, 3, 0], [584, 0, 0]),
  (33, .iload_n 2, 1, [2], []),
  (34, .ireturn, 1, [0], [])]
def mt_90 : AMt := (yX5_begin, cX5_begin, 3, (some .int), tb_90)
def tb_91 : List AEn := [(0, .iload_n 1, 1, [1], []),
  (1, .i2l, 1, [], []),
  (2, .lconst 0, 1, [0], []),
  (3, .ldc2_w 92, 3, [9], [712]),
  (6, .invokestatic 55, 3, [74, 3], [651, 0, 652, 70, 653]),
  (9, .ifCond .ne 6, 3, [8], []),
  (12, .bipush (-2), 2, [0, 2], []),
  (14, .ireturn, 1, [0], []),
  (15, .aload_n 0, 1, [0], []),
  (16, .getfield 94, 3, [5, 4], [585, 0]),
  (19, .istore_n 2, 1, [2], []),
  (20, .aload_n 0, 1, [0], []),
  (21, .iload_n 1, 1, [1], []),
  (22, .putfield 94, 3, [5, 4, 0], [585, 0, 0]),
  (25, .iload_n 2, 1, [2], []),
  (26, .ireturn, 1, [0], [])]
def mt_91 : AMt := (yX5_spill, cX5_spill, 3, (some .int), tb_91)
def tb_92 : List AEn := [(0, .iload_n 1, 1, [1], []),
  (1, .aload_n 0, 1, [0], []),
  (2, .getfield 45, 3, [5, 1], [582, 0]),
  (5, .idiv, 1, [], []),
  (6, .iload_n 2, 1, [2], []),
  (7, .ifCond .ne 7, 3, [8], []),
  (10, .iconst (-1), 1, [0, 1], []),
  (11, .goto 13, 3, [14], []),
  (14, .iload_n 2, 1, [2], []),
  (15, .iconst 2, 1, [2], []),
  (16, .if_icmp .ne 7, 3, [13], []),
  (19, .iconst 1, 1, [1], []),
  (20, .goto 4, 3, [14], []),
  (23, .iconst 0, 1, [0], []),
  (24, .iadd, 1, [], []),
  (25, .istore_n 3, 1, [3], []),
  (26, .iload_n 1, 1, [1], []),
  (27, .aload_n 0, 1, [0], []),
  (28, .getfield 45, 3, [5, 1], [582, 0]),
  (31, .irem, 1, [], []),
  (32, .iload_n 2, 1, [2], []),
  (33, .iconst 1, 1, [1], []),
  (34, .if_icmp .ne 7, 3, [25], []),
  (37, .iconst 1, 1, [1], []),
  (38, .goto 13, 3, [31], []),
  (41, .iload_n 2, 1, [2], []),
  (42, .iconst 3, 1, [3], []),
  (43, .if_icmp .ne 7, 3, [30], []),
  (46, .iconst (-1), 1, [0, 1], []),
  (47, .goto 4, 3, [31], []),
  (50, .iconst 0, 1, [0], []),
  (51, .iadd, 1, [], []),
  (52, .istore 4, 2, [4], []),
  (54, .iload_n 3, 1, [3], []),
  (55, .i2l, 1, [], []),
  (56, .lconst 0, 1, [0], []),
  (57, .aload_n 0, 1, [0], []),
  (58, .getfield 41, 3, [5, 0], [581, 0]),
  (61, .iconst 1, 1, [1], []),
  (62, .isub, 1, [], []),
  (63, .i2l, 1, [], []),
  (64, .invokestatic 55, 3, [74, 3], [651, 0, 652, 70, 653]),
  (67, .ifCond .eq 32, 3, [60], []),
  (70, .iload 4, 2, [4], []),
  (72, .i2l, 1, [], []),
  (73, .lconst 0, 1, [0], []),
  (74, .aload_n 0, 1, [0], []),
  (75, .getfield 45, 3, [5, 1], [582, 0]),
  (78, .iconst 1, 1, [1], []),
  (79, .isub, 1, [], []),
  (80, .i2l, 1, [], []),
  (81, .invokestatic 55, 3, [74, 3], [651, 0, 652, 70, 653]),
  (84, .ifCond .eq 15, 3, [60], []),
  (87, .aload_n 0, 1, [0], []),
  (88, .getfield 45, 3, [5, 1], [582, 0]),
  (91, .iload_n 3, 1, [3], []),
  (92, .imul, 1, [], []),
  (93, .iload 4, 2, [4], []),
  (95, .iadd, 1, [], []),
  (96, .goto 5, 3, [61], []),
  (99, .bipush (-6), 2, [0, 6], []),
  (101, .ireturn, 1, [0], [])]
def mt_92 : AMt := (yX5_beside, cX5_beside, 5, (some .int), tb_92)
def tb_93 : List AEn := [(0, .aload_n 0, 1, [0], []),
  (1, .iload_n 2, 1, [2], []),
  (2, .iload_n 3, 1, [3], []),
  (3, .invokevirtual 97, 3, [92, 3, 5], [721, 0, 723, 46, 70, 724]),
  (6, .istore 4, 2, [4], []),
  (8, .iload 4, 2, [4], []),
  (10, .ifCond .lt 28, 3, [21], []),
  (13, .aload_n 0, 1, [0], []),
  (14, .getfield 7, 3, [5, 2], [583, 0]),
  (17, .iload 4, 2, [4], []),
  (19, .iaload, 1, [], []),
  (20, .iconst (-1), 1, [0, 1], []),
  (21, .if_icmp .eq 17, 3, [21], []),
  (24, .iload_n 1, 1, [1], []),
  (25, .iload 4, 2, [4], []),
  (27, .ishr, 1, [], []),
  (28, .iconst 1, 1, [1], []),
  (29, .iand, 1, [], []),
  (30, .ifCond .ne 8, 3, [21], []),
  (33, .iload 4, 2, [4], []),
  (35, .goto 5, 3, [22], []),
  (38, .bipush (-6), 2, [0, 6], []),
  (40, .ireturn, 1, [0], [])]
def mt_93 : AMt := (yX5_next, cX5_next, 5, (some .int), tb_93)
def tb_94 : List AEn := [(0, .aload_n 0, 1, [0], []),
  (1, .iload_n 1, 1, [1], []),
  (2, .iload_n 2, 1, [2], []),
  (3, .iconst 0, 1, [0], []),
  (4, .invokevirtual 101, 3, [93, 4, 5], [742, 0, 744, 50, 70, 745]),
  (7, .ifCond .ge 37, 3, [26], []),
  (10, .aload_n 0, 1, [0], []),
  (11, .iload_n 1, 1, [1], []),
  (12, .iload_n 2, 1, [2], []),
  (13, .iconst 1, 1, [1], []),
  (14, .invokevirtual 101, 3, [93, 4, 5], [742, 0, 744, 50, 70, 745]),
  (17, .ifCond .ge 27, 3, [26], []),
  (20, .aload_n 0, 1, [0], []),
  (21, .iload_n 1, 1, [1], []),
  (22, .iload_n 2, 1, [2], []),
  (23, .iconst 2, 1, [2], []),
  (24, .invokevirtual 101, 3, [93, 4, 5], [742, 0, 744, 50, 70, 745]),
  (27, .ifCond .ge 17, 3, [26], []),
  (30, .aload_n 0, 1, [0], []),
  (31, .iload_n 1, 1, [1], []),
  (32, .iload_n 2, 1, [2], []),
  (33, .iconst 3, 1, [3], []),
  (34, .invokevirtual 101, 3, [93, 4, 5], [742, 0, 744, 50, 70, 745]),
  (37, .ifCond .ge 7, 3, [26], []),
  (40, .iconst 1, 1, [1], []),
  (41, .goto 4, 3, [27], []),
  (44, .iconst 0, 1, [0], []),
  (45, .ireturn, 1, [1], [])]
def mt_94 : AMt := (yX5_isBlind, cX5_isBlind, 3, (some .boolean), tb_94)
def tb_95 : List AEn := [(0, .aload_n 0, 1, [0], []),
  (1, .getfield 7, 3, [5, 2], [583, 0]),
  (4, .iload_n 1, 1, [1], []),
  (5, .iaload, 1, [], []),
  (6, .aload_n 0, 1, [0], []),
  (7, .getfield 94, 3, [5, 4], [585, 0]),
  (10, .iload_n 2, 1, [2], []),
  (11, .imul, 1, [], []),
  (12, .isub, 1, [], []),
  (13, .istore_n 3, 1, [3], []),
  (14, .iload_n 3, 1, [3], []),
  (15, .ifCond .le 7, 3, [14], []),
  (18, .iload_n 3, 1, [3], []),
  (19, .goto 4, 3, [15], []),
  (22, .iconst 0, 1, [0], []),
  (23, .ireturn, 1, [0], [])]
def mt_95 : AMt := (yX5_brings, cX5_brings, 4, (some .int), tb_95)
def tb_96 : List AEn := [(0, .aload_n 0, 1, [0], []),
  (1, .iconst 1, 1, [1], []),
  (2, .aload_n 0, 1, [0], []),
  (3, .getfield 48, 3, [5, 3], [584, 0]),
  (6, .ishl, 1, [], []),
  (7, .putfield 105, 3, [5, 7, 0], [588, 0, 0]),
  (10, .aload_n 0, 1, [0], []),
  (11, .aload_n 0, 1, [0], []),
  (12, .getfield 48, 3, [5, 3], [584, 0]),
  (15, .putfield 108, 3, [5, 8, 0], [589, 0, 0]),
  (18, .aload_n 0, 1, [0], []),
  (19, .aload_n 0, 1, [0], []),
  (20, .getfield 7, 3, [5, 2], [583, 0]),
  (23, .aload_n 0, 1, [0], []),
  (24, .getfield 48, 3, [5, 3], [584, 0]),
  (27, .iaload, 1, [], []),
  (28, .putfield 111, 3, [5, 9, 0], [590, 0, 0]),
  (31, .aload_n 0, 1, [0], []),
  (32, .bipush (-6), 2, [0, 6], []),
  (34, .putfield 114, 3, [5, 10, 0], [591, 0, 0]),
  (37, .aload_n 0, 1, [0], []),
  (38, .bipush (-6), 2, [0, 6], []),
  (40, .putfield 117, 3, [5, 11, 0], [592, 0, 0]),
  (43, .iconst 0, 1, [0], []),
  (44, .istore_n 1, 1, [1], []),
  (45, .iload_n 1, 1, [1], []),
  (46, .aload_n 0, 1, [0], []),
  (47, .getfield 65, 3, [5, 6], [587, 0]),
  (50, .if_icmp .ge 118, 3, [97], []),
  (53, .aload_n 0, 1, [0], []),
  (54, .aload_n 0, 1, [0], []),
  (55, .getfield 108, 3, [5, 8], [589, 0]),
  (58, .aload_n 0, 1, [0], []),
  (59, .getfield 13, 3, [5, 5], [586, 0]),
  (62, .iload_n 1, 1, [1], []),
  (63, .iaload, 1, [], []),
  (64, .invokestatic 72, 3, [83, 1], [682, 0, 683, 70, 684]),
  (67, .invokevirtual 97, 3, [92, 3, 5], [721, 0, 723, 46, 70, 724]),
  (70, .istore_n 2, 1, [2], []),
  (71, .iload_n 2, 1, [2], []),
  (72, .ifCond .ge 7, 3, [43], []),
  (75, .iconst 1, 1, [1], []),
  (76, .goto 35, 3, [62], []),
  (79, .aload_n 0, 1, [0], []),
  (80, .getfield 7, 3, [5, 2], [583, 0]),
  (83, .iload_n 2, 1, [2], []),
  (84, .iaload, 1, [], []),
  (85, .iconst (-1), 1, [0, 1], []),
  (86, .if_icmp .ne 7, 3, [51], []),
  (89, .iconst 2, 1, [2], []),
  (90, .goto 21, 3, [62], []),
  (93, .aload_n 0, 1, [0], []),
  (94, .getfield 105, 3, [5, 7], [588, 0]),
  (97, .iload_n 2, 1, [2], []),
  (98, .ishr, 1, [], []),
  (99, .iconst 1, 1, [1], []),
  (100, .iand, 1, [], []),
  (101, .iconst 1, 1, [1], []),
  (102, .if_icmp .ne 7, 3, [61], []),
  (105, .iconst 3, 1, [3], []),
  (106, .goto 5, 3, [62], []),
  (109, .bipush (-6), 2, [0, 6], []),
  (111, .istore_n 3, 1, [3], []),
  (112, .iload_n 3, 1, [3], []),
  (113, .ifCond .lt 15, 3, [73], []),
  (116, .aload_n 0, 1, [0], []),
  (117, .iload_n 1, 1, [1], []),
  (118, .putfield 114, 3, [5, 10, 0], [591, 0, 0]),
  (121, .aload_n 0, 1, [0], []),
  (122, .iload_n 3, 1, [3], []),
  (123, .putfield 117, 3, [5, 11, 0], [592, 0, 0]),
  (126, .iconst 0, 1, [0], []),
  (127, .ireturn, 1, [1], []),
  (128, .aload_n 0, 1, [0], []),
  (129, .dup, 1, [], []),
  (130, .getfield 105, 3, [5, 7], [588, 0]),
  (133, .iconst 1, 1, [1], []),
  (134, .iload_n 2, 1, [2], []),
  (135, .ishl, 1, [], []),
  (136, .ior, 1, [], []),
  (137, .putfield 105, 3, [5, 7, 0], [588, 0, 0]),
  (140, .aload_n 0, 1, [0], []),
  (141, .iload_n 2, 1, [2], []),
  (142, .putfield 108, 3, [5, 8, 0], [589, 0, 0]),
  (145, .aload_n 0, 1, [0], []),
  (146, .dup, 1, [], []),
  (147, .getfield 111, 3, [5, 9], [590, 0]),
  (150, .aload_n 0, 1, [0], []),
  (151, .iload_n 2, 1, [2], []),
  (152, .iload_n 1, 1, [1], []),
  (153, .iconst 1, 1, [1], []),
  (154, .iadd, 1, [], []),
  (155, .invokevirtual 120, 3, [95, 3, 5], [725, 0, 727, 47, 70, 728]),
  (158, .iadd, 1, [], []),
  (159, .putfield 111, 3, [5, 9, 0], [590, 0, 0]),
  (162, .iinc 1 1, 3, [1, 1], []),
  (165, .goto (-120), 3, [25], []),
  (168, .iconst 1, 1, [1], []),
  (169, .ireturn, 1, [1], [])]
def mt_96 : AMt := (yX5_goWay, cX5_goWay, 4, (some .boolean), tb_96)
def tb_97 : List AEn := [(0, .iload_n 1, 1, [1], []),
  (1, .i2l, 1, [], []),
  (2, .lconst 0, 1, [0], []),
  (3, .lconst 1, 1, [1], []),
  (4, .invokestatic 55, 3, [74, 3], [651, 0, 652, 70, 653]),
  (7, .ifCond .ne 6, 3, [8], []),
  (10, .bipush (-2), 2, [0, 2], []),
  (12, .ireturn, 1, [0], []),
  (13, .aload_n 0, 1, [0], []),
  (14, .invokevirtual 79, 3, [85, 1, 5], [678, 0, 680, 42, 70, 681]),
  (17, .ifCond .lt 6, 3, [13], []),
  (20, .bipush (-5), 2, [0, 5], []),
  (22, .ireturn, 1, [0], []),
  (23, .aload_n 0, 1, [0], []),
  (24, .invokevirtual 123, 3, [96, 1, 5], [717, 0, 719, 45, 70, 720]),
  (27, .pop, 1, [], []),
  (28, .iload_n 1, 1, [1], []),
  (29, .ifCond .ne 10, 3, [21], []),
  (32, .aload_n 0, 1, [0], []),
  (33, .getfield 114, 3, [5, 10], [591, 0]),
  (36, .goto 7, 3, [23], []),
  (39, .aload_n 0, 1, [0], []),
  (40, .getfield 117, 3, [5, 11], [592, 0]),
  (43, .ireturn, 1, [0], [])]
def mt_97 : AMt := (yX5_judge, cX5_judge, 2, (some .int), tb_97)
def tb_98 : List AEn := [(0, .iconst 1, 1, [1], []),
  (1, .iload_n 2, 1, [2], []),
  (2, .ishl, 1, [], []),
  (3, .istore_n 3, 1, [3], []),
  (4, .iconst 0, 1, [0], []),
  (5, .istore 4, 2, [4], []),
  (7, .iload 4, 2, [4], []),
  (9, .bipush 16, 2, [16], []),
  (11, .if_icmp .ge 79, 3, [49], []),
  (14, .iconst 0, 1, [0], []),
  (15, .istore 5, 2, [5], []),
  (17, .iload 5, 2, [5], []),
  (19, .aload_n 0, 1, [0], []),
  (20, .invokevirtual 51, 3, [77, 1, 5], [654, 0, 656, 40, 70, 657]),
  (23, .if_icmp .ge 61, 3, [47], []),
  (26, .iconst 0, 1, [0], []),
  (27, .istore 6, 2, [6], []),
  (29, .iload 6, 2, [6], []),
  (31, .iconst 4, 1, [4], []),
  (32, .if_icmp .ge 46, 3, [45], []),
  (35, .aload_n 0, 1, [0], []),
  (36, .iload_n 1, 1, [1], []),
  (37, .iload 5, 2, [5], []),
  (39, .iload 6, 2, [6], []),
  (41, .invokevirtual 101, 3, [93, 4, 5], [742, 0, 744, 50, 70, 745]),
  (44, .istore 7, 2, [7], []),
  (46, .iload_n 3, 1, [3], []),
  (47, .iload_n 3, 1, [3], []),
  (48, .iload 5, 2, [5], []),
  (50, .ishr, 1, [], []),
  (51, .iconst 1, 1, [1], []),
  (52, .iand, 1, [], []),
  (53, .iconst 1, 1, [1], []),
  (54, .if_icmp .ne 15, 3, [40], []),
  (57, .iload 7, 2, [7], []),
  (59, .ifCond .lt 10, 3, [40], []),
  (62, .iconst 1, 1, [1], []),
  (63, .iload 7, 2, [7], []),
  (65, .ishl, 1, [], []),
  (66, .goto 4, 3, [41], []),
  (69, .iconst 0, 1, [0], []),
  (70, .ior, 1, [], []),
  (71, .istore_n 3, 1, [3], []),
  (72, .iinc 6 1, 3, [6, 1], []),
  (75, .goto (-46), 3, [17], []),
  (78, .iinc 5 1, 3, [5, 1], []),
  (81, .goto (-64), 3, [11], []),
  (84, .iinc 4 1, 3, [4, 1], []),
  (87, .goto (-80), 3, [6], []),
  (90, .iload_n 3, 1, [3], []),
  (91, .iconst 1, 1, [1], []),
  (92, .iload_n 2, 1, [2], []),
  (93, .ishl, 1, [], []),
  (94, .iconst (-1), 1, [0, 1], []),
  (95, .ixor, 1, [], []),
  (96, .iand, 1, [], []),
  (97, .ireturn, 1, [0], [])]
def mt_98 : AMt := (yX5_reachable, cX5_reachable, 8, (some .int), tb_98)
def tb_99 : List AEn := [(0, .iconst 0, 1, [0], []),
  (1, .istore_n 2, 1, [2], []),
  (2, .iconst 0, 1, [0], []),
  (3, .istore_n 3, 1, [3], []),
  (4, .iload_n 3, 1, [3], []),
  (5, .aload_n 0, 1, [0], []),
  (6, .invokevirtual 51, 3, [77, 1, 5], [654, 0, 656, 40, 70, 657]),
  (9, .if_icmp .ge 31, 3, [26], []),
  (12, .iload_n 2, 1, [2], []),
  (13, .iload_n 1, 1, [1], []),
  (14, .iload_n 3, 1, [3], []),
  (15, .ishr, 1, [], []),
  (16, .iconst 1, 1, [1], []),
  (17, .iand, 1, [], []),
  (18, .iconst 1, 1, [1], []),
  (19, .if_icmp .ne 12, 3, [21], []),
  (22, .aload_n 0, 1, [0], []),
  (23, .getfield 7, 3, [5, 2], [583, 0]),
  (26, .iload_n 3, 1, [3], []),
  (27, .iaload, 1, [], []),
  (28, .goto 4, 3, [22], []),
  (31, .iconst 0, 1, [0], []),
  (32, .iadd, 1, [], []),
  (33, .istore_n 2, 1, [2], []),
  (34, .iinc 3 1, 3, [3, 1], []),
  (37, .goto (-33), 3, [4], []),
  (40, .iload_n 2, 1, [2], []),
  (41, .ireturn, 1, [0], [])]
def mt_99 : AMt := (yX5_earsOf, cX5_earsOf, 4, (some .int), tb_99)
def tb_100 : List AEn := [(0, .iload_n 1, 1, [1], []),
  (1, .i2l, 1, [], []),
  (2, .lconst 0, 1, [0], []),
  (3, .ldc2_w 127, 3, [6], [733]),
  (6, .invokestatic 55, 3, [74, 3], [651, 0, 652, 70, 653]),
  (9, .ifCond .ne 6, 3, [8], []),
  (12, .bipush (-2), 2, [0, 2], []),
  (14, .ireturn, 1, [0], []),
  (15, .aload_n 0, 1, [0], []),
  (16, .invokevirtual 79, 3, [85, 1, 5], [678, 0, 680, 42, 70, 681]),
  (19, .ifCond .lt 6, 3, [13], []),
  (22, .bipush (-5), 2, [0, 5], []),
  (24, .ireturn, 1, [0], []),
  (25, .aload_n 0, 1, [0], []),
  (26, .invokevirtual 123, 3, [96, 1, 5], [717, 0, 719, 45, 70, 720]),
  (29, .ifCond .ne 6, 3, [18], []),
  (32, .bipush (-3), 2, [0, 3], []),
  (34, .ireturn, 1, [0], []),
  (35, .iload_n 1, 1, [1], []),
  (36, .tableswitch 115 0 5 #[40, 45, 53, 62, 89, 110], 40, [63, 20, 23, 27, 32, 49, 60], []),
  (76, .aload_n 0, 1, [0], []),
  (77, .getfield 108, 3, [5, 8], [589, 0]),
  (80, .ireturn, 1, [0], []),
  (81, .aload_n 0, 1, [0], []),
  (82, .getfield 105, 3, [5, 7], [588, 0]),
  (85, .invokestatic 85, 3, [75, 1], [693, 0, 694, 70, 695]),
  (88, .ireturn, 1, [0], []),
  (89, .aload_n 0, 1, [0], []),
  (90, .aload_n 0, 1, [0], []),
  (91, .getfield 105, 3, [5, 7], [588, 0]),
  (94, .invokevirtual 129, 3, [99, 2, 5], [734, 0, 736, 48, 70, 737]),
  (97, .ireturn, 1, [0], []),
  (98, .aload_n 0, 1, [0], []),
  (99, .invokevirtual 82, 3, [87, 1, 5], [689, 0, 691, 43, 70, 692]),
  (102, .aload_n 0, 1, [0], []),
  (103, .getfield 105, 3, [5, 7], [588, 0]),
  (106, .iconst (-1), 1, [0, 1], []),
  (107, .ixor, 1, [], []),
  (108, .iand, 1, [], []),
  (109, .aload_n 0, 1, [0], []),
  (110, .aload_n 0, 1, [0], []),
  (111, .getfield 105, 3, [5, 7], [588, 0]),
  (114, .aload_n 0, 1, [0], []),
  (115, .getfield 108, 3, [5, 8], [589, 0]),
  (118, .invokevirtual 132, 3, [98, 3, 5], [738, 0, 740, 49, 70, 741]),
  (121, .iconst (-1), 1, [0, 1], []),
  (122, .ixor, 1, [], []),
  (123, .iand, 1, [], []),
  (124, .ireturn, 1, [0], []),
  (125, .aload_n 0, 1, [0], []),
  (126, .aload_n 0, 1, [0], []),
  (127, .getfield 105, 3, [5, 7], [588, 0]),
  (130, .aload_n 0, 1, [0], []),
  (131, .getfield 108, 3, [5, 8], [589, 0]),
  (134, .invokevirtual 135, 3, [94, 3, 5], [746, 0, 748, 51, 70, 749]),
  (137, .ifCond .eq 7, 3, [58], []),
  (140, .iconst 1, 1, [1], []),
  (141, .goto 4, 3, [59], []),
  (144, .iconst 0, 1, [0], []),
  (145, .ireturn, 1, [0], []),
  (146, .aload_n 0, 1, [0], []),
  (147, .getfield 111, 3, [5, 9], [590, 0]),
  (150, .ireturn, 1, [0], []),
  (151, .aload_n 0, 1, [0], []),
  (152, .getfield 105, 3, [5, 7], [588, 0]),
  (155, .ireturn, 1, [0], [])]
def mt_100 : AMt := (yX5_way, cX5_way, 2, (some .int), tb_100)
def tb_101 : List AEn := [(0, .bipush 16, 2, [16], []),
  (2, .iload_n 0, 1, [0], []),
  (3, .imul, 1, [], []),
  (4, .iload_n 1, 1, [1], []),
  (5, .iadd, 1, [], []),
  (6, .ireturn, 1, [0], [])]
def mt_101 : AMt := (yX5_at, cX5_at, 2, (some .int), tb_101)
def tb_102 : List AEn := [(0, .aload_n 0, 1, [0], []),
  (1, .invokevirtual 82, 3, [87, 1, 5], [689, 0, 691, 43, 70, 692]),
  (4, .istore_n 1, 1, [1], []),
  (5, .iload_n 1, 1, [1], []),
  (6, .istore_n 2, 1, [2], []),
  (7, .iload_n 2, 1, [2], []),
  (8, .ifCond .le 127, 3, [76], []),
  (11, .iconst 0, 1, [0], []),
  (12, .istore_n 3, 1, [3], []),
  (13, .iload_n 3, 1, [3], []),
  (14, .aload_n 0, 1, [0], []),
  (15, .invokevirtual 51, 3, [77, 1, 5], [654, 0, 656, 40, 70, 657]),
  (18, .if_icmp .ge 111, 3, [74], []),
  (21, .iload_n 2, 1, [2], []),
  (22, .iload_n 1, 1, [1], []),
  (23, .iconst (-1), 1, [0, 1], []),
  (24, .ixor, 1, [], []),
  (25, .iand, 1, [], []),
  (26, .ifCond .ne 103, 3, [74], []),
  (29, .iload_n 2, 1, [2], []),
  (30, .iload_n 3, 1, [3], []),
  (31, .ishr, 1, [], []),
  (32, .iconst 1, 1, [1], []),
  (33, .iand, 1, [], []),
  (34, .iconst 1, 1, [1], []),
  (35, .if_icmp .ne 88, 3, [72], []),
  (38, .iconst 0, 1, [0], []),
  (39, .istore 4, 2, [4], []),
  (41, .iconst 0, 1, [0], []),
  (42, .istore 5, 2, [5], []),
  (44, .iload 5, 2, [5], []),
  (46, .iconst 4, 1, [4], []),
  (47, .if_icmp .ge 64, 3, [65], []),
  (50, .aload_n 0, 1, [0], []),
  (51, .iload_n 2, 1, [2], []),
  (52, .iload_n 3, 1, [3], []),
  (53, .iload 5, 2, [5], []),
  (55, .invokevirtual 101, 3, [93, 4, 5], [742, 0, 744, 50, 70, 745]),
  (58, .istore 6, 2, [6], []),
  (60, .iload 6, 2, [6], []),
  (62, .ifCond .ge 7, 3, [43], []),
  (65, .iconst 0, 1, [0], []),
  (66, .goto 21, 3, [55], []),
  (69, .iconst 1, 1, [1], []),
  (70, .aload_n 0, 1, [0], []),
  (71, .getfield 17, 3, [5, 12], [593, 0]),
  (74, .iload_n 2, 1, [2], []),
  (75, .iconst 1, 1, [1], []),
  (76, .iload 6, 2, [6], []),
  (78, .ishl, 1, [], []),
  (79, .ior, 1, [], []),
  (80, .iload 6, 2, [6], []),
  (82, .invokestatic 139, 3, [101, 2], [758, 0, 759, 70, 760]),
  (85, .iaload, 1, [], []),
  (86, .iadd, 1, [], []),
  (87, .istore 7, 2, [7], []),
  (89, .iload 7, 2, [7], []),
  (91, .iload 4, 2, [4], []),
  (93, .if_icmp .le 8, 3, [61], []),
  (96, .iload 7, 2, [7], []),
  (98, .goto 5, 3, [62], []),
  (101, .iload 4, 2, [4], []),
  (103, .istore 4, 2, [4], []),
  (105, .iinc 5 1, 3, [5, 1], []),
  (108, .goto (-64), 3, [30], []),
  (111, .aload_n 0, 1, [0], []),
  (112, .getfield 17, 3, [5, 12], [593, 0]),
  (115, .iload_n 2, 1, [2], []),
  (116, .iload_n 3, 1, [3], []),
  (117, .invokestatic 139, 3, [101, 2], [758, 0, 759, 70, 760]),
  (120, .iload 4, 2, [4], []),
  (122, .iastore, 1, [], []),
  (123, .iinc 3 1, 3, [3, 1], []),
  (126, .goto (-113), 3, [9], []),
  (129, .iinc 2 (-1), 3, [2, 0, 1], []),
  (132, .goto (-125), 3, [5], []),
  (135, .return_, 1, [], [])]
def mt_102 : AMt := (yX5_findLongest, cX5_findLongest, 8, none, tb_102)
def tb_103 : List AEn := [(0, .aload_n 0, 1, [0], []),
  (1, .invokevirtual 142, 3, [102, 1, 5], [754, 0, 756, 52, 70, 757]),
  (4, .iconst 1, 1, [1], []),
  (5, .aload_n 0, 1, [0], []),
  (6, .getfield 48, 3, [5, 3], [584, 0]),
  (9, .ishl, 1, [], []),
  (10, .istore_n 2, 1, [2], []),
  (11, .aload_n 0, 1, [0], []),
  (12, .getfield 48, 3, [5, 3], [584, 0]),
  (15, .istore_n 3, 1, [3], []),
  (16, .aload_n 0, 1, [0], []),
  (17, .getfield 17, 3, [5, 12], [593, 0]),
  (20, .iload_n 2, 1, [2], []),
  (21, .iload_n 3, 1, [3], []),
  (22, .invokestatic 139, 3, [101, 2], [758, 0, 759, 70, 760]),
  (25, .iaload, 1, [], []),
  (26, .istore 4, 2, [4], []),
  (28, .iload_n 1, 1, [1], []),
  (29, .iconst (-1), 1, [0, 1], []),
  (30, .if_icmp .ne 8, 3, [24], []),
  (33, .iload 4, 2, [4], []),
  (35, .iconst 1, 1, [1], []),
  (36, .iadd, 1, [], []),
  (37, .ireturn, 1, [0], []),
  (38, .iload_n 1, 1, [1], []),
  (39, .i2l, 1, [], []),
  (40, .lconst 0, 1, [0], []),
  (41, .iload 4, 2, [4], []),
  (43, .iconst 1, 1, [1], []),
  (44, .isub, 1, [], []),
  (45, .i2l, 1, [], []),
  (46, .invokestatic 55, 3, [74, 3], [651, 0, 652, 70, 653]),
  (49, .ifCond .ne 6, 3, [35], []),
  (52, .bipush (-6), 2, [0, 6], []),
  (54, .ireturn, 1, [0], []),
  (55, .iconst 0, 1, [0], []),
  (56, .istore 5, 2, [5], []),
  (58, .iconst 0, 1, [0], []),
  (59, .istore 6, 2, [6], []),
  (61, .iload 6, 2, [6], []),
  (63, .iload_n 1, 1, [1], []),
  (64, .if_icmp .gt 79, 3, [85], []),
  (67, .iconst 0, 1, [0], []),
  (68, .istore 5, 2, [5], []),
  (70, .aload_n 0, 1, [0], []),
  (71, .iload_n 2, 1, [2], []),
  (72, .iload_n 3, 1, [3], []),
  (73, .iload 5, 2, [5], []),
  (75, .invokevirtual 101, 3, [93, 4, 5], [742, 0, 744, 50, 70, 745]),
  (78, .istore 7, 2, [7], []),
  (80, .iload 7, 2, [7], []),
  (82, .ifCond .lt 26, 3, [66], []),
  (85, .aload_n 0, 1, [0], []),
  (86, .getfield 17, 3, [5, 12], [593, 0]),
  (89, .iload_n 2, 1, [2], []),
  (90, .iconst 1, 1, [1], []),
  (91, .iload 7, 2, [7], []),
  (93, .ishl, 1, [], []),
  (94, .ior, 1, [], []),
  (95, .iload 7, 2, [7], []),
  (97, .invokestatic 139, 3, [101, 2], [758, 0, 759, 70, 760]),
  (100, .iaload, 1, [], []),
  (101, .iload 4, 2, [4], []),
  (103, .iconst 1, 1, [1], []),
  (104, .isub, 1, [], []),
  (105, .if_icmp .eq 19, 3, [74], []),
  (108, .iinc 5 1, 3, [5, 1], []),
  (111, .aload_n 0, 1, [0], []),
  (112, .iload_n 2, 1, [2], []),
  (113, .iload_n 3, 1, [3], []),
  (114, .iload 5, 2, [5], []),
  (116, .invokevirtual 101, 3, [93, 4, 5], [742, 0, 744, 50, 70, 745]),
  (119, .istore 7, 2, [7], []),
  (121, .goto (-41), 3, [50], []),
  (124, .iload_n 2, 1, [2], []),
  (125, .iconst 1, 1, [1], []),
  (126, .iload 7, 2, [7], []),
  (128, .ishl, 1, [], []),
  (129, .ior, 1, [], []),
  (130, .istore_n 2, 1, [2], []),
  (131, .iload 7, 2, [7], []),
  (133, .istore_n 3, 1, [3], []),
  (134, .iinc 4 (-1), 3, [4, 0, 1], []),
  (137, .iinc 6 1, 3, [6, 1], []),
  (140, .goto (-79), 3, [39], []),
  (143, .iload 5, 2, [5], []),
  (145, .invokestatic 145, 3, [84, 1], [761, 0, 762, 70, 763]),
  (148, .ireturn, 1, [0], [])]
def mt_103 : AMt := (yX5_longest, cX5_longest, 8, (some .int), tb_103)
def tb_104 : List AEn := [(0, .aload_n 0, 1, [0], []),
  (1, .invokevirtual 82, 3, [87, 1, 5], [689, 0, 691, 43, 70, 692]),
  (4, .istore_n 3, 1, [3], []),
  (5, .iload_n 1, 1, [1], []),
  (6, .istore 4, 2, [4], []),
  (8, .iload 4, 2, [4], []),
  (10, .iload_n 3, 1, [3], []),
  (11, .if_icmp .gt 54, 3, [32], []),
  (14, .iconst 0, 1, [0], []),
  (15, .istore 5, 2, [5], []),
  (17, .iload 5, 2, [5], []),
  (19, .bipush 16, 2, [16], []),
  (21, .if_icmp .ge 38, 3, [30], []),
  (24, .aload_n 0, 1, [0], []),
  (25, .getfield 21, 3, [5, 13], [594, 0]),
  (28, .iload 4, 2, [4], []),
  (30, .iload 5, 2, [5], []),
  (32, .invokestatic 139, 3, [101, 2], [758, 0, 759, 70, 760]),
  (35, .iload 4, 2, [4], []),
  (37, .iload_n 1, 1, [1], []),
  (38, .if_icmp .ne 13, 3, [26], []),
  (41, .iload 5, 2, [5], []),
  (43, .iload_n 2, 1, [2], []),
  (44, .if_icmp .ne 7, 3, [26], []),
  (47, .iconst 1, 1, [1], []),
  (48, .goto 4, 3, [27], []),
  (51, .iconst 0, 1, [0], []),
  (52, .iastore, 1, [], []),
  (53, .iinc 5 1, 3, [5, 1], []),
  (56, .goto (-39), 3, [10], []),
  (59, .iinc 4 1, 3, [4, 1], []),
  (62, .goto (-54), 3, [5], []),
  (65, .iload_n 1, 1, [1], []),
  (66, .istore 4, 2, [4], []),
  (68, .iload 4, 2, [4], []),
  (70, .iload_n 3, 1, [3], []),
  (71, .if_icmp .gt 109, 3, [91], []),
  (74, .iconst 0, 1, [0], []),
  (75, .istore 5, 2, [5], []),
  (77, .iload 5, 2, [5], []),
  (79, .aload_n 0, 1, [0], []),
  (80, .invokevirtual 51, 3, [77, 1, 5], [654, 0, 656, 40, 70, 657]),
  (83, .if_icmp .ge 91, 3, [89], []),
  (86, .iload 4, 2, [4], []),
  (88, .iload_n 3, 1, [3], []),
  (89, .iconst (-1), 1, [0, 1], []),
  (90, .ixor, 1, [], []),
  (91, .iand, 1, [], []),
  (92, .ifCond .ne 82, 3, [89], []),
  (95, .aload_n 0, 1, [0], []),
  (96, .getfield 21, 3, [5, 13], [594, 0]),
  (99, .iload 4, 2, [4], []),
  (101, .iload 5, 2, [5], []),
  (103, .invokestatic 139, 3, [101, 2], [758, 0, 759, 70, 760]),
  (106, .iaload, 1, [], []),
  (107, .istore 6, 2, [6], []),
  (109, .iconst 0, 1, [0], []),
  (110, .istore 7, 2, [7], []),
  (112, .iload 7, 2, [7], []),
  (114, .iconst 4, 1, [4], []),
  (115, .if_icmp .ge 53, 3, [87], []),
  (118, .iload 6, 2, [6], []),
  (120, .ifCond .le 48, 3, [87], []),
  (123, .aload_n 0, 1, [0], []),
  (124, .iload 4, 2, [4], []),
  (126, .iload 5, 2, [5], []),
  (128, .iload 7, 2, [7], []),
  (130, .invokevirtual 101, 3, [93, 4, 5], [742, 0, 744, 50, 70, 745]),
  (133, .istore 8, 2, [8], []),
  (135, .iload 8, 2, [8], []),
  (137, .ifCond .lt 25, 3, [85], []),
  (140, .aload_n 0, 1, [0], []),
  (141, .getfield 21, 3, [5, 13], [594, 0]),
  (144, .iload 4, 2, [4], []),
  (146, .iconst 1, 1, [1], []),
  (147, .iload 8, 2, [8], []),
  (149, .ishl, 1, [], []),
  (150, .ior, 1, [], []),
  (151, .iload 8, 2, [8], []),
  (153, .invokestatic 139, 3, [101, 2], [758, 0, 759, 70, 760]),
  (156, .dup2, 1, [], []),
  (157, .iaload, 1, [], []),
  (158, .iload 6, 2, [6], []),
  (160, .iadd, 1, [], []),
  (161, .iastore, 1, [], []),
  (162, .iinc 7 1, 3, [7, 1], []),
  (165, .goto (-53), 3, [58], []),
  (168, .iinc 5 1, 3, [5, 1], []),
  (171, .goto (-94), 3, [39], []),
  (174, .iinc 4 1, 3, [4, 1], []),
  (177, .goto (-109), 3, [34], []),
  (180, .return_, 1, [], [])]
def mt_104 : AMt := (yX5_findWays, cX5_findWays, 9, none, tb_104)
def tb_105 : List AEn := [(0, .iload_n 1, 1, [1], []),
  (1, .iconst (-1), 1, [0, 1], []),
  (2, .if_icmp .eq 13, 3, [9], []),
  (5, .aload_n 0, 1, [0], []),
  (6, .iload_n 1, 1, [1], []),
  (7, .invokevirtual 88, 3, [78, 2, 5], [700, 0, 702, 44, 70, 703]),
  (10, .ifCond .ne 5, 3, [9], []),
  (13, .iconst (-1), 1, [0, 1], []),
  (14, .ireturn, 1, [0], []),
  (15, .aload_n 0, 1, [0], []),
  (16, .iconst 1, 1, [1], []),
  (17, .aload_n 0, 1, [0], []),
  (18, .getfield 48, 3, [5, 3], [584, 0]),
  (21, .ishl, 1, [], []),
  (22, .aload_n 0, 1, [0], []),
  (23, .getfield 48, 3, [5, 3], [584, 0]),
  (26, .invokevirtual 148, 3, [104, 3, 5], [768, 0, 770, 53, 70, 771]),
  (29, .iconst 0, 1, [0], []),
  (30, .istore_n 2, 1, [2], []),
  (31, .iconst 0, 1, [0], []),
  (32, .istore_n 3, 1, [3], []),
  (33, .iload_n 3, 1, [3], []),
  (34, .aload_n 0, 1, [0], []),
  (35, .invokevirtual 51, 3, [77, 1, 5], [654, 0, 656, 40, 70, 657]),
  (38, .if_icmp .ge 39, 3, [45], []),
  (41, .iload_n 2, 1, [2], []),
  (42, .iload_n 1, 1, [1], []),
  (43, .iconst (-1), 1, [0, 1], []),
  (44, .if_icmp .eq 8, 3, [32], []),
  (47, .iload_n 1, 1, [1], []),
  (48, .iload_n 3, 1, [3], []),
  (49, .if_icmp .ne 19, 3, [40], []),
  (52, .aload_n 0, 1, [0], []),
  (53, .getfield 21, 3, [5, 13], [594, 0]),
  (56, .aload_n 0, 1, [0], []),
  (57, .invokevirtual 82, 3, [87, 1, 5], [689, 0, 691, 43, 70, 692]),
  (60, .iload_n 3, 1, [3], []),
  (61, .invokestatic 139, 3, [101, 2], [758, 0, 759, 70, 760]),
  (64, .iaload, 1, [], []),
  (65, .goto 4, 3, [41], []),
  (68, .iconst 0, 1, [0], []),
  (69, .iadd, 1, [], []),
  (70, .istore_n 2, 1, [2], []),
  (71, .iinc 3 1, 3, [3, 1], []),
  (74, .goto (-41), 3, [21], []),
  (77, .iload_n 2, 1, [2], []),
  (78, .ireturn, 1, [0], [])]
def mt_105 : AMt := (yX5_all, cX5_all, 4, (some .int), tb_105)
def tb_106 : List AEn := [(0, .aload_n 0, 1, [0], []),
  (1, .iconst 1, 1, [1], []),
  (2, .aload_n 0, 1, [0], []),
  (3, .getfield 48, 3, [5, 3], [584, 0]),
  (6, .ishl, 1, [], []),
  (7, .aload_n 0, 1, [0], []),
  (8, .getfield 48, 3, [5, 3], [584, 0]),
  (11, .invokevirtual 132, 3, [98, 3, 5], [738, 0, 740, 49, 70, 741]),
  (14, .iconst 1, 1, [1], []),
  (15, .aload_n 0, 1, [0], []),
  (16, .getfield 48, 3, [5, 3], [584, 0]),
  (19, .ishl, 1, [], []),
  (20, .ior, 1, [], []),
  (21, .istore_n 1, 1, [1], []),
  (22, .iconst 0, 1, [0], []),
  (23, .istore_n 2, 1, [2], []),
  (24, .iconst 0, 1, [0], []),
  (25, .istore_n 3, 1, [3], []),
  (26, .aload_n 0, 1, [0], []),
  (27, .getfield 48, 3, [5, 3], [584, 0]),
  (30, .aload_n 0, 1, [0], []),
  (31, .getfield 45, 3, [5, 1], [582, 0]),
  (34, .idiv, 1, [], []),
  (35, .aload_n 0, 1, [0], []),
  (36, .getfield 48, 3, [5, 3], [584, 0]),
  (39, .aload_n 0, 1, [0], []),
  (40, .getfield 45, 3, [5, 1], [582, 0]),
  (43, .irem, 1, [], []),
  (44, .iadd, 1, [], []),
  (45, .iconst 2, 1, [2], []),
  (46, .irem, 1, [], []),
  (47, .istore 4, 2, [4], []),
  (49, .iconst 0, 1, [0], []),
  (50, .istore 5, 2, [5], []),
  (52, .iload 5, 2, [5], []),
  (54, .aload_n 0, 1, [0], []),
  (55, .invokevirtual 51, 3, [77, 1, 5], [654, 0, 656, 40, 70, 657]),
  (58, .if_icmp .ge 84, 3, [87], []),
  (61, .iload 5, 2, [5], []),
  (63, .aload_n 0, 1, [0], []),
  (64, .getfield 45, 3, [5, 1], [582, 0]),
  (67, .idiv, 1, [], []),
  (68, .iload 5, 2, [5], []),
  (70, .aload_n 0, 1, [0], []),
  (71, .getfield 45, 3, [5, 1], [582, 0]),
  (74, .irem, 1, [], []),
  (75, .iadd, 1, [], []),
  (76, .iconst 2, 1, [2], []),
  (77, .irem, 1, [], []),
  (78, .iload 4, 2, [4], []),
  (80, .if_icmp .ne 7, 3, [53], []),
  (83, .iconst 1, 1, [1], []),
  (84, .goto 4, 3, [54], []),
  (87, .iconst 0, 1, [0], []),
  (88, .istore 6, 2, [6], []),
  (90, .iload_n 2, 1, [2], []),
  (91, .iload_n 1, 1, [1], []),
  (92, .iload 5, 2, [5], []),
  (94, .ishr, 1, [], []),
  (95, .iconst 1, 1, [1], []),
  (96, .iand, 1, [], []),
  (97, .iconst 1, 1, [1], []),
  (98, .if_icmp .ne 12, 3, [67], []),
  (101, .iload 6, 2, [6], []),
  (103, .ifCond .eq 7, 3, [67], []),
  (106, .iconst 1, 1, [1], []),
  (107, .goto 4, 3, [68], []),
  (110, .iconst 0, 1, [0], []),
  (111, .iadd, 1, [], []),
  (112, .istore_n 2, 1, [2], []),
  (113, .iload_n 3, 1, [3], []),
  (114, .iload_n 1, 1, [1], []),
  (115, .iload 5, 2, [5], []),
  (117, .ishr, 1, [], []),
  (118, .iconst 1, 1, [1], []),
  (119, .iand, 1, [], []),
  (120, .iconst 1, 1, [1], []),
  (121, .if_icmp .ne 12, 3, [82], []),
  (124, .iload 6, 2, [6], []),
  (126, .ifCond .ne 7, 3, [82], []),
  (129, .iconst 1, 1, [1], []),
  (130, .goto 4, 3, [83], []),
  (133, .iconst 0, 1, [0], []),
  (134, .iadd, 1, [], []),
  (135, .istore_n 3, 1, [3], []),
  (136, .iinc 5 1, 3, [5, 1], []),
  (139, .goto (-87), 3, [34], []),
  (142, .iload_n 2, 1, [2], []),
  (143, .iload_n 3, 1, [3], []),
  (144, .if_icmp .gt 9, 3, [94], []),
  (147, .iconst 2, 1, [2], []),
  (148, .iload_n 2, 1, [2], []),
  (149, .imul, 1, [], []),
  (150, .goto 8, 3, [99], []),
  (153, .iconst 2, 1, [2], []),
  (154, .iload_n 3, 1, [3], []),
  (155, .imul, 1, [], []),
  (156, .iconst 1, 1, [1], []),
  (157, .iadd, 1, [], []),
  (158, .ireturn, 1, [0], [])]
def mt_106 : AMt := (yX5_bound, cX5_bound, 7, (some .int), tb_106)
def tb_107 : List AEn := [(0, .aload_n 0, 1, [0], []),
  (1, .invokevirtual 82, 3, [87, 1, 5], [689, 0, 691, 43, 70, 692]),
  (4, .istore_n 2, 1, [2], []),
  (5, .iload_n 2, 1, [2], []),
  (6, .istore_n 3, 1, [3], []),
  (7, .iload_n 3, 1, [3], []),
  (8, .ifCond .le 161, 3, [91], []),
  (11, .iload_n 3, 1, [3], []),
  (12, .invokestatic 85, 3, [75, 1], [693, 0, 694, 70, 695]),
  (15, .istore 4, 2, [4], []),
  (17, .iconst 0, 1, [0], []),
  (18, .istore 5, 2, [5], []),
  (20, .iload 5, 2, [5], []),
  (22, .aload_n 0, 1, [0], []),
  (23, .invokevirtual 51, 3, [77, 1, 5], [654, 0, 656, 40, 70, 657]),
  (26, .if_icmp .ge 137, 3, [89], []),
  (29, .iload_n 3, 1, [3], []),
  (30, .iload_n 2, 1, [2], []),
  (31, .iconst (-1), 1, [0, 1], []),
  (32, .ixor, 1, [], []),
  (33, .iand, 1, [], []),
  (34, .ifCond .ne 129, 3, [89], []),
  (37, .iconst 0, 1, [0], []),
  (38, .istore 6, 2, [6], []),
  (40, .iconst 0, 1, [0], []),
  (41, .istore 7, 2, [7], []),
  (43, .iload 7, 2, [7], []),
  (45, .iconst 4, 1, [4], []),
  (46, .if_icmp .ge 98, 3, [80], []),
  (49, .iload 4, 2, [4], []),
  (51, .iload_n 1, 1, [1], []),
  (52, .if_icmp .ge 92, 3, [80], []),
  (55, .iload_n 3, 1, [3], []),
  (56, .iload 5, 2, [5], []),
  (58, .ishr, 1, [], []),
  (59, .iconst 1, 1, [1], []),
  (60, .iand, 1, [], []),
  (61, .iconst 1, 1, [1], []),
  (62, .if_icmp .ne 15, 3, [45], []),
  (65, .aload_n 0, 1, [0], []),
  (66, .iload_n 3, 1, [3], []),
  (67, .iload 5, 2, [5], []),
  (69, .iload 7, 2, [7], []),
  (71, .invokevirtual 101, 3, [93, 4, 5], [742, 0, 744, 50, 70, 745]),
  (74, .goto 5, 3, [46], []),
  (77, .bipush (-6), 2, [0, 6], []),
  (79, .istore 8, 2, [8], []),
  (81, .iload 8, 2, [8], []),
  (83, .ifCond .ge 7, 3, [51], []),
  (86, .iconst 0, 1, [0], []),
  (87, .goto 33, 3, [70], []),
  (90, .bipush 32, 2, [32], []),
  (92, .aload_n 0, 1, [0], []),
  (93, .iload 8, 2, [8], []),
  (95, .iload 4, 2, [4], []),
  (97, .invokevirtual 120, 3, [95, 3, 5], [725, 0, 727, 47, 70, 728]),
  (100, .imul, 1, [], []),
  (101, .iconst 1, 1, [1], []),
  (102, .isub, 1, [], []),
  (103, .aload_n 0, 1, [0], []),
  (104, .getfield 17, 3, [5, 12], [593, 0]),
  (107, .iload_n 3, 1, [3], []),
  (108, .iconst 1, 1, [1], []),
  (109, .iload 8, 2, [8], []),
  (111, .ishl, 1, [], []),
  (112, .ior, 1, [], []),
  (113, .iload 8, 2, [8], []),
  (115, .invokestatic 139, 3, [101, 2], [758, 0, 759, 70, 760]),
  (118, .iaload, 1, [], []),
  (119, .iadd, 1, [], []),
  (120, .istore 9, 2, [9], []),
  (122, .iload 9, 2, [9], []),
  (124, .iload 6, 2, [6], []),
  (126, .if_icmp .le 8, 3, [76], []),
  (129, .iload 9, 2, [9], []),
  (131, .goto 5, 3, [77], []),
  (134, .iload 6, 2, [6], []),
  (136, .istore 6, 2, [6], []),
  (138, .iinc 7 1, 3, [7, 1], []),
  (141, .goto (-98), 3, [26], []),
  (144, .aload_n 0, 1, [0], []),
  (145, .getfield 17, 3, [5, 12], [593, 0]),
  (148, .iload_n 3, 1, [3], []),
  (149, .iload 5, 2, [5], []),
  (151, .invokestatic 139, 3, [101, 2], [758, 0, 759, 70, 760]),
  (154, .iload 6, 2, [6], []),
  (156, .iastore, 1, [], []),
  (157, .iinc 5 1, 3, [5, 1], []),
  (160, .goto (-140), 3, [12], []),
  (163, .iinc 3 (-1), 3, [3, 0, 1], []),
  (166, .goto (-159), 3, [5], []),
  (169, .return_, 1, [], [])]
def mt_107 : AMt := (yX5_findBest, cX5_findBest, 10, none, tb_107)
def tb_108 : List AEn := [(0, .aload_n 0, 1, [0], []),
  (1, .getfield 17, 3, [5, 12], [593, 0]),
  (4, .iload_n 1, 1, [1], []),
  (5, .iload_n 2, 1, [2], []),
  (6, .invokestatic 139, 3, [101, 2], [758, 0, 759, 70, 760]),
  (9, .iaload, 1, [], []),
  (10, .istore_n 3, 1, [3], []),
  (11, .iconst 0, 1, [0], []),
  (12, .istore 4, 2, [4], []),
  (14, .iload 4, 2, [4], []),
  (16, .iconst 4, 1, [4], []),
  (17, .if_icmp .ge 67, 3, [48], []),
  (20, .iload_n 3, 1, [3], []),
  (21, .ifCond .le 63, 3, [48], []),
  (24, .aload_n 0, 1, [0], []),
  (25, .iload_n 1, 1, [1], []),
  (26, .iload_n 2, 1, [2], []),
  (27, .iload 4, 2, [4], []),
  (29, .invokevirtual 101, 3, [93, 4, 5], [742, 0, 744, 50, 70, 745]),
  (32, .istore 5, 2, [5], []),
  (34, .iload 5, 2, [5], []),
  (36, .ifCond .lt 42, 3, [46], []),
  (39, .bipush 32, 2, [32], []),
  (41, .aload_n 0, 1, [0], []),
  (42, .iload 5, 2, [5], []),
  (44, .iload_n 1, 1, [1], []),
  (45, .invokestatic 85, 3, [75, 1], [693, 0, 694, 70, 695]),
  (48, .invokevirtual 120, 3, [95, 3, 5], [725, 0, 727, 47, 70, 728]),
  (51, .imul, 1, [], []),
  (52, .iconst 1, 1, [1], []),
  (53, .isub, 1, [], []),
  (54, .aload_n 0, 1, [0], []),
  (55, .getfield 17, 3, [5, 12], [593, 0]),
  (58, .iload_n 1, 1, [1], []),
  (59, .iconst 1, 1, [1], []),
  (60, .iload 5, 2, [5], []),
  (62, .ishl, 1, [], []),
  (63, .ior, 1, [], []),
  (64, .iload 5, 2, [5], []),
  (66, .invokestatic 139, 3, [101, 2], [758, 0, 759, 70, 760]),
  (69, .iaload, 1, [], []),
  (70, .iadd, 1, [], []),
  (71, .iload_n 3, 1, [3], []),
  (72, .if_icmp .ne 6, 3, [46], []),
  (75, .iload 4, 2, [4], []),
  (77, .ireturn, 1, [0], []),
  (78, .iinc 4 1, 3, [4, 1], []),
  (81, .goto (-67), 3, [9], []),
  (84, .bipush (-6), 2, [0, 6], []),
  (86, .ireturn, 1, [0], [])]
def mt_108 : AMt := (yX5_bestWay, cX5_bestWay, 6, (some .int), tb_108)
def tb_109 : List AEn := [(0, .aload_n 0, 1, [0], []),
  (1, .getfield 17, 3, [5, 12], [593, 0]),
  (4, .iload_n 1, 1, [1], []),
  (5, .iload_n 2, 1, [2], []),
  (6, .invokestatic 139, 3, [101, 2], [758, 0, 759, 70, 760]),
  (9, .iaload, 1, [], []),
  (10, .bipush 32, 2, [32], []),
  (12, .iadd, 1, [], []),
  (13, .iconst 1, 1, [1], []),
  (14, .isub, 1, [], []),
  (15, .bipush 32, 2, [32], []),
  (17, .idiv, 1, [], []),
  (18, .ireturn, 1, [0], [])]
def mt_109 : AMt := (yX5_bestFrom, cX5_bestFrom, 3, (some .int), tb_109)
def tb_110 : List AEn := [(0, .aload_n 0, 1, [0], []),
  (1, .bipush 16, 2, [16], []),
  (3, .invokevirtual 151, 3, [107, 2, 5], [780, 0, 782, 54, 70, 783]),
  (6, .iconst 1, 1, [1], []),
  (7, .aload_n 0, 1, [0], []),
  (8, .getfield 48, 3, [5, 3], [584, 0]),
  (11, .ishl, 1, [], []),
  (12, .istore_n 2, 1, [2], []),
  (13, .aload_n 0, 1, [0], []),
  (14, .getfield 48, 3, [5, 3], [584, 0]),
  (17, .istore_n 3, 1, [3], []),
  (18, .iload_n 1, 1, [1], []),
  (19, .iconst (-1), 1, [0, 1], []),
  (20, .if_icmp .ne 17, 3, [24], []),
  (23, .aload_n 0, 1, [0], []),
  (24, .getfield 7, 3, [5, 2], [583, 0]),
  (27, .iload_n 3, 1, [3], []),
  (28, .iaload, 1, [], []),
  (29, .aload_n 0, 1, [0], []),
  (30, .iload_n 2, 1, [2], []),
  (31, .iload_n 3, 1, [3], []),
  (32, .invokevirtual 155, 3, [109, 3, 5], [784, 0, 786, 55, 70, 787]),
  (35, .iadd, 1, [], []),
  (36, .ireturn, 1, [0], []),
  (37, .iload_n 1, 1, [1], []),
  (38, .ifCond .ge 8, 3, [28], []),
  (41, .bipush (-6), 2, [0, 6], []),
  (43, .goto 9, 3, [32], []),
  (46, .aload_n 0, 1, [0], []),
  (47, .iload_n 2, 1, [2], []),
  (48, .iload_n 3, 1, [3], []),
  (49, .invokevirtual 158, 3, [108, 3, 5], [788, 0, 790, 56, 70, 791]),
  (52, .istore 4, 2, [4], []),
  (54, .iconst 0, 1, [0], []),
  (55, .istore 5, 2, [5], []),
  (57, .iload 5, 2, [5], []),
  (59, .iload_n 1, 1, [1], []),
  (60, .if_icmp .ge 37, 3, [59], []),
  (63, .iload 4, 2, [4], []),
  (65, .ifCond .lt 32, 3, [59], []),
  (68, .aload_n 0, 1, [0], []),
  (69, .iload_n 2, 1, [2], []),
  (70, .iload_n 3, 1, [3], []),
  (71, .iload 4, 2, [4], []),
  (73, .invokevirtual 101, 3, [93, 4, 5], [742, 0, 744, 50, 70, 745]),
  (76, .istore_n 3, 1, [3], []),
  (77, .iload_n 2, 1, [2], []),
  (78, .iconst 1, 1, [1], []),
  (79, .iload_n 3, 1, [3], []),
  (80, .ishl, 1, [], []),
  (81, .ior, 1, [], []),
  (82, .istore_n 2, 1, [2], []),
  (83, .aload_n 0, 1, [0], []),
  (84, .iload_n 2, 1, [2], []),
  (85, .iload_n 3, 1, [3], []),
  (86, .invokevirtual 158, 3, [108, 3, 5], [788, 0, 790, 56, 70, 791]),
  (89, .istore 4, 2, [4], []),
  (91, .iinc 5 1, 3, [5, 1], []),
  (94, .goto (-37), 3, [35], []),
  (97, .iload 4, 2, [4], []),
  (99, .ifCond .ge 8, 3, [63], []),
  (102, .bipush (-6), 2, [0, 6], []),
  (104, .goto 8, 3, [65], []),
  (107, .iload 4, 2, [4], []),
  (109, .invokestatic 145, 3, [84, 1], [761, 0, 762, 70, 763]),
  (112, .ireturn, 1, [0], [])]
def mt_110 : AMt := (yX5_best, cX5_best, 6, (some .int), tb_110)
def tb_111 : List AEn := [(0, .iload_n 1, 1, [1], []),
  (1, .i2l, 1, [], []),
  (2, .lconst 0, 1, [0], []),
  (3, .ldc2_w 161, 3, [20], [796]),
  (6, .invokestatic 55, 3, [74, 3], [651, 0, 652, 70, 653]),
  (9, .ifCond .eq 13, 3, [12], []),
  (12, .iload_n 2, 1, [2], []),
  (13, .i2l, 1, [], []),
  (14, .lconst 0, 1, [0], []),
  (15, .lconst 1, 1, [1], []),
  (16, .invokestatic 55, 3, [74, 3], [651, 0, 652, 70, 653]),
  (19, .ifCond .ne 6, 3, [14], []),
  (22, .bipush (-2), 2, [0, 2], []),
  (24, .ireturn, 1, [0], []),
  (25, .aload_n 0, 1, [0], []),
  (26, .invokevirtual 79, 3, [85, 1, 5], [678, 0, 680, 42, 70, 681]),
  (29, .ifCond .lt 6, 3, [19], []),
  (32, .bipush (-5), 2, [0, 5], []),
  (34, .ireturn, 1, [0], []),
  (35, .aload_n 0, 1, [0], []),
  (36, .invokevirtual 123, 3, [96, 1, 5], [717, 0, 719, 45, 70, 720]),
  (39, .ifCond .ne 6, 3, [24], []),
  (42, .bipush (-3), 2, [0, 3], []),
  (44, .ireturn, 1, [0], []),
  (45, .aload_n 0, 1, [0], []),
  (46, .aload_n 0, 1, [0], []),
  (47, .getfield 105, 3, [5, 7], [588, 0]),
  (50, .invokestatic 85, 3, [75, 1], [693, 0, 694, 70, 695]),
  (53, .iload_n 1, 1, [1], []),
  (54, .iadd, 1, [], []),
  (55, .invokevirtual 151, 3, [107, 2, 5], [780, 0, 782, 54, 70, 783]),
  (58, .iload_n 2, 1, [2], []),
  (59, .ifCond .ne 21, 3, [43], []),
  (62, .aload_n 0, 1, [0], []),
  (63, .getfield 111, 3, [5, 9], [590, 0]),
  (66, .aload_n 0, 1, [0], []),
  (67, .aload_n 0, 1, [0], []),
  (68, .getfield 105, 3, [5, 7], [588, 0]),
  (71, .aload_n 0, 1, [0], []),
  (72, .getfield 108, 3, [5, 8], [589, 0]),
  (75, .invokevirtual 155, 3, [109, 3, 5], [784, 0, 786, 55, 70, 787]),
  (78, .iadd, 1, [], []),
  (79, .ireturn, 1, [0], []),
  (80, .aload_n 0, 1, [0], []),
  (81, .aload_n 0, 1, [0], []),
  (82, .getfield 105, 3, [5, 7], [588, 0]),
  (85, .aload_n 0, 1, [0], []),
  (86, .getfield 108, 3, [5, 8], [589, 0]),
  (89, .invokevirtual 158, 3, [108, 3, 5], [788, 0, 790, 56, 70, 791]),
  (92, .istore_n 3, 1, [3], []),
  (93, .iload_n 3, 1, [3], []),
  (94, .ifCond .ge 8, 3, [54], []),
  (97, .bipush (-6), 2, [0, 6], []),
  (99, .goto 7, 3, [56], []),
  (102, .iload_n 3, 1, [3], []),
  (103, .invokestatic 145, 3, [84, 1], [761, 0, 762, 70, 763]),
  (106, .ireturn, 1, [0], [])]
def mt_111 : AMt := (yX5_storm, cX5_storm, 4, (some .int), tb_111)
def tb_112 : List AEn := [(0, .aload_n 0, 1, [0], []),
  (1, .iconst 0, 1, [0], []),
  (2, .putfield 163, 3, [5, 16, 0], [597, 0, 0]),
  (5, .aload_n 0, 1, [0], []),
  (6, .invokevirtual 82, 3, [87, 1, 5], [689, 0, 691, 43, 70, 692]),
  (9, .istore_n 1, 1, [1], []),
  (10, .iload_n 1, 1, [1], []),
  (11, .invokestatic 85, 3, [75, 1], [693, 0, 694, 70, 695]),
  (14, .bipush 12, 2, [12], []),
  (16, .if_icmp .le 5, 3, [12], []),
  (19, .iconst 0, 1, [0], []),
  (20, .ireturn, 1, [1], []),
  (21, .iconst 0, 1, [0], []),
  (22, .istore_n 2, 1, [2], []),
  (23, .iload_n 2, 1, [2], []),
  (24, .aload_n 0, 1, [0], []),
  (25, .invokevirtual 51, 3, [77, 1, 5], [654, 0, 656, 40, 70, 657]),
  (28, .if_icmp .ge 48, 3, [45], []),
  (31, .iload_n 1, 1, [1], []),
  (32, .iload_n 2, 1, [2], []),
  (33, .ishr, 1, [], []),
  (34, .iconst 1, 1, [1], []),
  (35, .iand, 1, [], []),
  (36, .iconst 1, 1, [1], []),
  (37, .if_icmp .ne 33, 3, [43], []),
  (40, .aload_n 0, 1, [0], []),
  (41, .getfield 24, 3, [5, 14], [595, 0]),
  (44, .iload_n 2, 1, [2], []),
  (45, .aload_n 0, 1, [0], []),
  (46, .getfield 163, 3, [5, 16], [597, 0]),
  (49, .iastore, 1, [], []),
  (50, .aload_n 0, 1, [0], []),
  (51, .getfield 27, 3, [5, 15], [596, 0]),
  (54, .aload_n 0, 1, [0], []),
  (55, .getfield 163, 3, [5, 16], [597, 0]),
  (58, .iload_n 2, 1, [2], []),
  (59, .iastore, 1, [], []),
  (60, .aload_n 0, 1, [0], []),
  (61, .dup, 1, [], []),
  (62, .getfield 163, 3, [5, 16], [597, 0]),
  (65, .iconst 1, 1, [1], []),
  (66, .iadd, 1, [], []),
  (67, .putfield 163, 3, [5, 16, 0], [597, 0, 0]),
  (70, .iinc 2 1, 3, [2, 1], []),
  (73, .goto (-50), 3, [14], []),
  (76, .iconst 1, 1, [1], []),
  (77, .ireturn, 1, [1], [])]
def mt_112 : AMt := (yX5_areFew, cX5_areFew, 3, (some .boolean), tb_112)
def tb_113 : List AEn := [(0, .iload_n 0, 1, [0], []),
  (1, .bipush 12, 2, [12], []),
  (3, .imul, 1, [], []),
  (4, .iload_n 1, 1, [1], []),
  (5, .iadd, 1, [], []),
  (6, .bipush 12, 2, [12], []),
  (8, .imul, 1, [], []),
  (9, .iload_n 2, 1, [2], []),
  (10, .iadd, 1, [], []),
  (11, .iconst 2, 1, [2], []),
  (12, .imul, 1, [], []),
  (13, .iload_n 3, 1, [3], []),
  (14, .iadd, 1, [], []),
  (15, .ireturn, 1, [0], [])]
def mt_113 : AMt := (yX5_stand, cX5_stand, 4, (some .int), tb_113)
def tb_114 : List AEn := [(0, .aload_n 0, 1, [0], []),
  (1, .aload_n 0, 1, [0], []),
  (2, .getfield 27, 3, [5, 15], [596, 0]),
  (5, .iload_n 2, 1, [2], []),
  (6, .iaload, 1, [], []),
  (7, .iload_n 3, 1, [3], []),
  (8, .invokevirtual 97, 3, [92, 3, 5], [721, 0, 723, 46, 70, 724]),
  (11, .istore 4, 2, [4], []),
  (13, .iload 4, 2, [4], []),
  (15, .ifCond .lt 14, 3, [16], []),
  (18, .aload_n 0, 1, [0], []),
  (19, .getfield 7, 3, [5, 2], [583, 0]),
  (22, .iload 4, 2, [4], []),
  (24, .iaload, 1, [], []),
  (25, .iconst (-1), 1, [0, 1], []),
  (26, .if_icmp .ne 6, 3, [18], []),
  (29, .bipush (-6), 2, [0, 6], []),
  (31, .ireturn, 1, [0], []),
  (32, .iload_n 1, 1, [1], []),
  (33, .aload_n 0, 1, [0], []),
  (34, .getfield 24, 3, [5, 14], [595, 0]),
  (37, .iload 4, 2, [4], []),
  (39, .iaload, 1, [], []),
  (40, .ishr, 1, [], []),
  (41, .iconst 1, 1, [1], []),
  (42, .iand, 1, [], []),
  (43, .ifCond .ne 13, 3, [32], []),
  (46, .aload_n 0, 1, [0], []),
  (47, .getfield 24, 3, [5, 14], [595, 0]),
  (50, .iload 4, 2, [4], []),
  (52, .iaload, 1, [], []),
  (53, .goto 5, 3, [33], []),
  (56, .bipush (-6), 2, [0, 6], []),
  (58, .ireturn, 1, [0], [])]
def mt_114 : AMt := (yX5_nextFew, cX5_nextFew, 5, (some .int), tb_114)
def tb_115 : List AEn := [(0, .iconst 0, 1, [0], []),
  (1, .istore 6, 2, [6], []),
  (3, .iconst 0, 1, [0], []),
  (4, .istore 7, 2, [7], []),
  (6, .iconst 0, 1, [0], []),
  (7, .istore 8, 2, [8], []),
  (9, .iload 8, 2, [8], []),
  (11, .iconst 4, 1, [4], []),
  (12, .if_icmp .ge 158, 3, [86], []),
  (15, .aload_n 0, 1, [0], []),
  (16, .iload_n 1, 1, [1], []),
  (17, .iload 4, 2, [4], []),
  (19, .ifCond .ne 7, 3, [15], []),
  (22, .iload_n 2, 1, [2], []),
  (23, .goto 4, 3, [16], []),
  (26, .iload_n 3, 1, [3], []),
  (27, .iload 8, 2, [8], []),
  (29, .invokevirtual 166, 3, [114, 4, 5], [813, 0, 815, 60, 70, 816]),
  (32, .istore 9, 2, [9], []),
  (34, .iload 9, 2, [9], []),
  (36, .ifCond .lt 128, 3, [84], []),
  (39, .aload_n 0, 1, [0], []),
  (40, .getfield 17, 3, [5, 12], [593, 0]),
  (43, .iload_n 1, 1, [1], []),
  (44, .iconst 1, 1, [1], []),
  (45, .iload 9, 2, [9], []),
  (47, .ishl, 1, [], []),
  (48, .ior, 1, [], []),
  (49, .iload 4, 2, [4], []),
  (51, .ifCond .ne 8, 3, [32], []),
  (54, .iload 9, 2, [9], []),
  (56, .goto 4, 3, [33], []),
  (59, .iload_n 2, 1, [2], []),
  (60, .iload 4, 2, [4], []),
  (62, .ifCond .ne 7, 3, [37], []),
  (65, .iload_n 3, 1, [3], []),
  (66, .goto 5, 3, [38], []),
  (69, .iload 9, 2, [9], []),
  (71, .iconst 1, 1, [1], []),
  (72, .iload 4, 2, [4], []),
  (74, .isub, 1, [], []),
  (75, .invokestatic 169, 3, [113, 4], [817, 0, 818, 70, 819]),
  (78, .iaload, 1, [], []),
  (79, .istore 10, 2, [10], []),
  (81, .iload 10, 2, [10], []),
  (83, .iload 5, 2, [5], []),
  (85, .ifCond .eq 13, 3, [52], []),
  (88, .iload 4, 2, [4], []),
  (90, .iconst 1, 1, [1], []),
  (91, .if_icmp .ne 7, 3, [52], []),
  (94, .iconst (-1), 1, [0, 1], []),
  (95, .goto 4, 3, [53], []),
  (98, .iconst 1, 1, [1], []),
  (99, .iadd, 1, [], []),
  (100, .istore 11, 2, [11], []),
  (102, .iload 5, 2, [5], []),
  (104, .ifCond .eq 24, 3, [67], []),
  (107, .iload 4, 2, [4], []),
  (109, .iconst 1, 1, [1], []),
  (110, .if_icmp .ne 18, 3, [67], []),
  (113, .iload 11, 2, [11], []),
  (115, .iload 7, 2, [7], []),
  (117, .if_icmp .ge 7, 3, [65], []),
  (120, .iconst 1, 1, [1], []),
  (121, .goto 19, 3, [73], []),
  (124, .iconst 0, 1, [0], []),
  (125, .goto 15, 3, [73], []),
  (128, .iload 11, 2, [11], []),
  (130, .iload 7, 2, [7], []),
  (132, .if_icmp .le 7, 3, [72], []),
  (135, .iconst 1, 1, [1], []),
  (136, .goto 4, 3, [73], []),
  (139, .iconst 0, 1, [0], []),
  (140, .istore 12, 2, [12], []),
  (142, .iload 6, 2, [6], []),
  (144, .ifCond .eq 8, 3, [78], []),
  (147, .iload 12, 2, [12], []),
  (149, .ifCond .eq 8, 3, [80], []),
  (152, .iload 11, 2, [11], []),
  (154, .goto 5, 3, [81], []),
  (157, .iload 7, 2, [7], []),
  (159, .istore 7, 2, [7], []),
  (161, .iconst 1, 1, [1], []),
  (162, .istore 6, 2, [6], []),
  (164, .iinc 8 1, 3, [8, 1], []),
  (167, .goto (-158), 3, [6], []),
  (170, .iload 6, 2, [6], []),
  (172, .ifCond .eq 8, 3, [90], []),
  (175, .iload 7, 2, [7], []),
  (177, .goto 6, 3, [91], []),
  (180, .sipush (-1000), 3, [0, 1000], []),
  (183, .ireturn, 1, [0], [])]
def mt_115 : AMt := (yX5_bestStep, cX5_bestStep, 13, (some .int), tb_115)
def tb_116 : List AEn := [(0, .iconst 1, 1, [1], []),
  (1, .aload_n 0, 1, [0], []),
  (2, .getfield 163, 3, [5, 16], [597, 0]),
  (5, .ishl, 1, [], []),
  (6, .iconst 1, 1, [1], []),
  (7, .isub, 1, [], []),
  (8, .istore_n 2, 1, [2], []),
  (9, .iload_n 2, 1, [2], []),
  (10, .ifCond .le 166, 3, [95], []),
  (13, .iconst 0, 1, [0], []),
  (14, .istore_n 3, 1, [3], []),
  (15, .iload_n 3, 1, [3], []),
  (16, .aload_n 0, 1, [0], []),
  (17, .getfield 163, 3, [5, 16], [597, 0]),
  (20, .if_icmp .ge 150, 3, [93], []),
  (23, .iconst 0, 1, [0], []),
  (24, .istore 4, 2, [4], []),
  (26, .iload 4, 2, [4], []),
  (28, .aload_n 0, 1, [0], []),
  (29, .getfield 163, 3, [5, 16], [597, 0]),
  (32, .if_icmp .ge 132, 3, [91], []),
  (35, .iload_n 2, 1, [2], []),
  (36, .iload_n 3, 1, [3], []),
  (37, .ishr, 1, [], []),
  (38, .iconst 1, 1, [1], []),
  (39, .iand, 1, [], []),
  (40, .iconst 1, 1, [1], []),
  (41, .if_icmp .ne 117, 3, [89], []),
  (44, .iload_n 2, 1, [2], []),
  (45, .iload 4, 2, [4], []),
  (47, .ishr, 1, [], []),
  (48, .iconst 1, 1, [1], []),
  (49, .iand, 1, [], []),
  (50, .iconst 1, 1, [1], []),
  (51, .if_icmp .ne 107, 3, [89], []),
  (54, .aload_n 0, 1, [0], []),
  (55, .iload_n 2, 1, [2], []),
  (56, .iload_n 3, 1, [3], []),
  (57, .iload 4, 2, [4], []),
  (59, .iconst 0, 1, [0], []),
  (60, .iload_n 1, 1, [1], []),
  (61, .invokevirtual 173, 3, [115, 6, 5], [809, 0, 811, 59, 70, 812]),
  (64, .istore 5, 2, [5], []),
  (66, .aload_n 0, 1, [0], []),
  (67, .iload_n 2, 1, [2], []),
  (68, .iload_n 3, 1, [3], []),
  (69, .iload 4, 2, [4], []),
  (71, .iconst 1, 1, [1], []),
  (72, .iload_n 1, 1, [1], []),
  (73, .invokevirtual 173, 3, [115, 6, 5], [809, 0, 811, 59, 70, 812]),
  (76, .istore 6, 2, [6], []),
  (78, .aload_n 0, 1, [0], []),
  (79, .getfield 17, 3, [5, 12], [593, 0]),
  (82, .iload_n 2, 1, [2], []),
  (83, .iload_n 3, 1, [3], []),
  (84, .iload 4, 2, [4], []),
  (86, .iconst 0, 1, [0], []),
  (87, .invokestatic 169, 3, [113, 4], [817, 0, 818, 70, 819]),
  (90, .iload 5, 2, [5], []),
  (92, .sipush (-1000), 3, [0, 1000], []),
  (95, .if_icmp .le 8, 3, [63], []),
  (98, .iload 5, 2, [5], []),
  (100, .goto 17, 3, [69], []),
  (103, .iload 6, 2, [6], []),
  (105, .sipush (-1000), 3, [0, 1000], []),
  (108, .if_icmp .le 8, 3, [68], []),
  (111, .iload 6, 2, [6], []),
  (113, .goto 4, 3, [69], []),
  (116, .iconst 0, 1, [0], []),
  (117, .iastore, 1, [], []),
  (118, .aload_n 0, 1, [0], []),
  (119, .getfield 17, 3, [5, 12], [593, 0]),
  (122, .iload_n 2, 1, [2], []),
  (123, .iload_n 3, 1, [3], []),
  (124, .iload 4, 2, [4], []),
  (126, .iconst 1, 1, [1], []),
  (127, .invokestatic 169, 3, [113, 4], [817, 0, 818, 70, 819]),
  (130, .iload 6, 2, [6], []),
  (132, .sipush (-1000), 3, [0, 1000], []),
  (135, .if_icmp .le 8, 3, [82], []),
  (138, .iload 6, 2, [6], []),
  (140, .goto 17, 3, [88], []),
  (143, .iload 5, 2, [5], []),
  (145, .sipush (-1000), 3, [0, 1000], []),
  (148, .if_icmp .le 8, 3, [87], []),
  (151, .iload 5, 2, [5], []),
  (153, .goto 4, 3, [88], []),
  (156, .iconst 0, 1, [0], []),
  (157, .iastore, 1, [], []),
  (158, .iinc 4 1, 3, [4, 1], []),
  (161, .goto (-135), 3, [17], []),
  (164, .iinc 3 1, 3, [3, 1], []),
  (167, .goto (-152), 3, [11], []),
  (170, .iinc 2 (-1), 3, [2, 0, 1], []),
  (173, .goto (-164), 3, [7], []),
  (176, .aload_n 0, 1, [0], []),
  (177, .getfield 24, 3, [5, 14], [595, 0]),
  (180, .aload_n 0, 1, [0], []),
  (181, .getfield 48, 3, [5, 3], [584, 0]),
  (184, .iaload, 1, [], []),
  (185, .istore_n 2, 1, [2], []),
  (186, .aload_n 0, 1, [0], []),
  (187, .getfield 17, 3, [5, 12], [593, 0]),
  (190, .iconst 1, 1, [1], []),
  (191, .iload_n 2, 1, [2], []),
  (192, .ishl, 1, [], []),
  (193, .iload_n 2, 1, [2], []),
  (194, .iload_n 2, 1, [2], []),
  (195, .iconst 0, 1, [0], []),
  (196, .invokestatic 169, 3, [113, 4], [817, 0, 818, 70, 819]),
  (199, .iaload, 1, [], []),
  (200, .ireturn, 1, [0], [])]
def mt_116 : AMt := (yX5_goTwo, cX5_goTwo, 7, (some .int), tb_116)
def tb_117 : List AEn := [(0, .aload_n 0, 1, [0], []),
  (1, .invokevirtual 177, 3, [112, 1, 5], [801, 0, 803, 57, 70, 804]),
  (4, .ifCond .eq 13, 3, [9], []),
  (7, .iconst 1, 1, [1], []),
  (8, .aload_n 0, 1, [0], []),
  (9, .iconst 0, 1, [0], []),
  (10, .invokevirtual 180, 3, [116, 2, 5], [805, 0, 807, 58, 70, 808]),
  (13, .iadd, 1, [], []),
  (14, .goto 5, 3, [10], []),
  (17, .bipush (-4), 2, [0, 4], []),
  (19, .ireturn, 1, [0], [])]
def mt_117 : AMt := (yX5_two, cX5_two, 1, (some .int), tb_117)
def tb_118 : List AEn := [(0, .aload_n 0, 1, [0], []),
  (1, .invokevirtual 177, 3, [112, 1, 5], [801, 0, 803, 57, 70, 804]),
  (4, .ifCond .eq 15, 3, [9], []),
  (7, .sipush 1000, 3, [1000], []),
  (10, .aload_n 0, 1, [0], []),
  (11, .iconst 1, 1, [1], []),
  (12, .invokevirtual 180, 3, [116, 2, 5], [805, 0, 807, 58, 70, 808]),
  (15, .iadd, 1, [], []),
  (16, .goto 5, 3, [10], []),
  (19, .bipush (-4), 2, [0, 4], []),
  (21, .ireturn, 1, [0], [])]
def mt_118 : AMt := (yX5_game, cX5_game, 1, (some .int), tb_118)
def tb_119 : List AEn := [(0, .iload_n 1, 1, [1], []),
  (1, .i2l, 1, [], []),
  (2, .lconst 0, 1, [0], []),
  (3, .lconst 1, 1, [1], []),
  (4, .invokestatic 55, 3, [74, 3], [651, 0, 652, 70, 653]),
  (7, .ifCond .ne 6, 3, [8], []),
  (10, .bipush (-2), 2, [0, 2], []),
  (12, .ireturn, 1, [0], []),
  (13, .aload_n 0, 1, [0], []),
  (14, .invokevirtual 142, 3, [102, 1, 5], [754, 0, 756, 52, 70, 757]),
  (17, .bipush (-6), 2, [0, 6], []),
  (19, .istore_n 2, 1, [2], []),
  (20, .iconst 0, 1, [0], []),
  (21, .istore_n 3, 1, [3], []),
  (22, .iconst 0, 1, [0], []),
  (23, .istore 4, 2, [4], []),
  (25, .iload 4, 2, [4], []),
  (27, .aload_n 0, 1, [0], []),
  (28, .invokevirtual 51, 3, [77, 1, 5], [654, 0, 656, 40, 70, 657]),
  (31, .if_icmp .ge 68, 3, [55], []),
  (34, .aload_n 0, 1, [0], []),
  (35, .getfield 7, 3, [5, 2], [583, 0]),
  (38, .iload 4, 2, [4], []),
  (40, .iaload, 1, [], []),
  (41, .iconst (-1), 1, [0, 1], []),
  (42, .if_icmp .ne 7, 3, [28], []),
  (45, .iconst 0, 1, [0], []),
  (46, .goto 19, 3, [38], []),
  (49, .iconst 1, 1, [1], []),
  (50, .aload_n 0, 1, [0], []),
  (51, .getfield 17, 3, [5, 12], [593, 0]),
  (54, .iconst 1, 1, [1], []),
  (55, .iload 4, 2, [4], []),
  (57, .ishl, 1, [], []),
  (58, .iload 4, 2, [4], []),
  (60, .invokestatic 139, 3, [101, 2], [758, 0, 759, 70, 760]),
  (63, .iaload, 1, [], []),
  (64, .iadd, 1, [], []),
  (65, .istore 5, 2, [5], []),
  (67, .iload 5, 2, [5], []),
  (69, .iload_n 3, 1, [3], []),
  (70, .if_icmp .le 8, 3, [44], []),
  (73, .iload 4, 2, [4], []),
  (75, .goto 4, 3, [45], []),
  (78, .iload_n 2, 1, [2], []),
  (79, .istore_n 2, 1, [2], []),
  (80, .iload 5, 2, [5], []),
  (82, .iload_n 3, 1, [3], []),
  (83, .if_icmp .le 8, 3, [51], []),
  (86, .iload 5, 2, [5], []),
  (88, .goto 4, 3, [52], []),
  (91, .iload_n 3, 1, [3], []),
  (92, .istore_n 3, 1, [3], []),
  (93, .iinc 4 1, 3, [4, 1], []),
  (96, .goto (-71), 3, [16], []),
  (99, .iload_n 1, 1, [1], []),
  (100, .ifCond .ne 7, 3, [59], []),
  (103, .iload_n 2, 1, [2], []),
  (104, .goto 4, 3, [60], []),
  (107, .iload_n 3, 1, [3], []),
  (108, .ireturn, 1, [0], [])]
def mt_119 : AMt := (yX5_where, cX5_where, 6, (some .int), tb_119)
def tb_120 : List AEn := [(0, .aload_n 0, 1, [0], []),
  (1, .iconst 1, 1, [1], []),
  (2, .aload_n 0, 1, [0], []),
  (3, .getfield 48, 3, [5, 3], [584, 0]),
  (6, .ishl, 1, [], []),
  (7, .aload_n 0, 1, [0], []),
  (8, .getfield 48, 3, [5, 3], [584, 0]),
  (11, .invokevirtual 148, 3, [104, 3, 5], [768, 0, 770, 53, 70, 771]),
  (14, .iconst 0, 1, [0], []),
  (15, .istore_n 1, 1, [1], []),
  (16, .iconst 0, 1, [0], []),
  (17, .istore_n 2, 1, [2], []),
  (18, .iload_n 2, 1, [2], []),
  (19, .aload_n 0, 1, [0], []),
  (20, .invokevirtual 51, 3, [77, 1, 5], [654, 0, 656, 40, 70, 657]),
  (23, .if_icmp .ge 35, 3, [34], []),
  (26, .iload_n 1, 1, [1], []),
  (27, .aload_n 0, 1, [0], []),
  (28, .getfield 21, 3, [5, 13], [594, 0]),
  (31, .aload_n 0, 1, [0], []),
  (32, .invokevirtual 82, 3, [87, 1, 5], [689, 0, 691, 43, 70, 692]),
  (35, .iload_n 2, 1, [2], []),
  (36, .invokestatic 139, 3, [101, 2], [758, 0, 759, 70, 760]),
  (39, .iaload, 1, [], []),
  (40, .ifCond .le 9, 3, [29], []),
  (43, .iconst 1, 1, [1], []),
  (44, .iload_n 2, 1, [2], []),
  (45, .ishl, 1, [], []),
  (46, .goto 4, 3, [30], []),
  (49, .iconst 0, 1, [0], []),
  (50, .ior, 1, [], []),
  (51, .istore_n 1, 1, [1], []),
  (52, .iinc 2 1, 3, [2, 1], []),
  (55, .goto (-37), 3, [12], []),
  (58, .iload_n 1, 1, [1], []),
  (59, .ireturn, 1, [0], [])]
def mt_120 : AMt := (yX5_last, cX5_last, 3, (some .int), tb_120)
def tb_121 : List AEn := [(0, .iload_n 1, 1, [1], []),
  (1, .i2l, 1, [], []),
  (2, .lconst 0, 1, [0], []),
  (3, .ldc2_w 184, 3, [12], [836]),
  (6, .invokestatic 55, 3, [74, 3], [651, 0, 652, 70, 653]),
  (9, .ifCond .ne 6, 3, [8], []),
  (12, .bipush (-2), 2, [0, 2], []),
  (14, .ireturn, 1, [0], []),
  (15, .aload_n 0, 1, [0], []),
  (16, .invokevirtual 79, 3, [85, 1, 5], [678, 0, 680, 42, 70, 681]),
  (19, .ifCond .lt 6, 3, [13], []),
  (22, .bipush (-5), 2, [0, 5], []),
  (24, .ireturn, 1, [0], []),
  (25, .aload_n 0, 1, [0], []),
  (26, .invokevirtual 123, 3, [96, 1, 5], [717, 0, 719, 45, 70, 720]),
  (29, .ifCond .ne 6, 3, [18], []),
  (32, .bipush (-3), 2, [0, 3], []),
  (34, .ireturn, 1, [0], []),
  (35, .aload_n 0, 1, [0], []),
  (36, .aload_n 0, 1, [0], []),
  (37, .getfield 105, 3, [5, 7], [588, 0]),
  (40, .aload_n 0, 1, [0], []),
  (41, .getfield 108, 3, [5, 8], [589, 0]),
  (44, .invokevirtual 148, 3, [104, 3, 5], [768, 0, 770, 53, 70, 771]),
  (47, .aload_n 0, 1, [0], []),
  (48, .invokevirtual 82, 3, [87, 1, 5], [689, 0, 691, 43, 70, 692]),
  (51, .istore_n 2, 1, [2], []),
  (52, .aload_n 0, 1, [0], []),
  (53, .getfield 105, 3, [5, 7], [588, 0]),
  (56, .invokestatic 85, 3, [75, 1], [693, 0, 694, 70, 695]),
  (59, .iload_n 1, 1, [1], []),
  (60, .iadd, 1, [], []),
  (61, .istore_n 3, 1, [3], []),
  (62, .iconst 0, 1, [0], []),
  (63, .istore 4, 2, [4], []),
  (65, .aload_n 0, 1, [0], []),
  (66, .getfield 105, 3, [5, 7], [588, 0]),
  (69, .istore 5, 2, [5], []),
  (71, .iload 5, 2, [5], []),
  (73, .iload_n 2, 1, [2], []),
  (74, .if_icmp .gt 62, 3, [70], []),
  (77, .iload 5, 2, [5], []),
  (79, .iload_n 2, 1, [2], []),
  (80, .iconst (-1), 1, [0, 1], []),
  (81, .ixor, 1, [], []),
  (82, .iand, 1, [], []),
  (83, .ifCond .ne 47, 3, [68], []),
  (86, .iload 5, 2, [5], []),
  (88, .invokestatic 85, 3, [75, 1], [693, 0, 694, 70, 695]),
  (91, .iload_n 3, 1, [3], []),
  (92, .if_icmp .ne 38, 3, [68], []),
  (95, .iconst 0, 1, [0], []),
  (96, .istore 6, 2, [6], []),
  (98, .iload 6, 2, [6], []),
  (100, .aload_n 0, 1, [0], []),
  (101, .invokevirtual 51, 3, [77, 1, 5], [654, 0, 656, 40, 70, 657]),
  (104, .if_icmp .ge 26, 3, [68], []),
  (107, .iload 4, 2, [4], []),
  (109, .aload_n 0, 1, [0], []),
  (110, .getfield 21, 3, [5, 13], [594, 0]),
  (113, .iload 5, 2, [5], []),
  (115, .iload 6, 2, [6], []),
  (117, .invokestatic 139, 3, [101, 2], [758, 0, 759, 70, 760]),
  (120, .iaload, 1, [], []),
  (121, .iadd, 1, [], []),
  (122, .istore 4, 2, [4], []),
  (124, .iinc 6 1, 3, [6, 1], []),
  (127, .goto (-29), 3, [53], []),
  (130, .iinc 5 1, 3, [5, 1], []),
  (133, .goto (-62), 3, [38], []),
  (136, .iload 4, 2, [4], []),
  (138, .ireturn, 1, [0], [])]
def mt_121 : AMt := (yX5_goesOn, cX5_goesOn, 7, (some .int), tb_121)
def tb_122 : List AEn := [(0, .iload_n 1, 1, [1], []),
  (1, .i2l, 1, [], []),
  (2, .lconst 0, 1, [0], []),
  (3, .ldc2_w 186, 3, [9999], [841]),
  (6, .invokestatic 55, 3, [74, 3], [651, 0, 652, 70, 653]),
  (9, .ifCond .eq 13, 3, [12], []),
  (12, .iload_n 2, 1, [2], []),
  (13, .i2l, 1, [], []),
  (14, .lconst 0, 1, [0], []),
  (15, .lconst 1, 1, [1], []),
  (16, .invokestatic 55, 3, [74, 3], [651, 0, 652, 70, 653]),
  (19, .ifCond .ne 6, 3, [14], []),
  (22, .bipush (-2), 2, [0, 2], []),
  (24, .ireturn, 1, [0], []),
  (25, .iconst 1, 1, [1], []),
  (26, .aload_n 0, 1, [0], []),
  (27, .getfield 48, 3, [5, 3], [584, 0]),
  (30, .ishl, 1, [], []),
  (31, .istore_n 3, 1, [3], []),
  (32, .aload_n 0, 1, [0], []),
  (33, .getfield 48, 3, [5, 3], [584, 0]),
  (36, .istore 4, 2, [4], []),
  (38, .iload_n 1, 1, [1], []),
  (39, .istore 5, 2, [5], []),
  (41, .aload_n 0, 1, [0], []),
  (42, .iload_n 3, 1, [3], []),
  (43, .iload 4, 2, [4], []),
  (45, .invokevirtual 135, 3, [94, 3, 5], [746, 0, 748, 51, 70, 749]),
  (48, .ifCond .ne 137, 3, [101], []),
  (51, .ldc2_w 188, 3, [75], [842]),
  (54, .iload 5, 2, [5], []),
  (56, .i2l, 1, [], []),
  (57, .lmul, 1, [], []),
  (58, .ldc2_w 190, 3, [74], [843]),
  (61, .ladd, 1, [], []),
  (62, .ldc2_w 192, 3, [65537], [844]),
  (65, .lrem, 1, [], []),
  (66, .l2i, 1, [], []),
  (67, .istore 5, 2, [5], []),
  (69, .iconst 0, 1, [0], []),
  (70, .istore 6, 2, [6], []),
  (72, .iconst 0, 1, [0], []),
  (73, .istore 7, 2, [7], []),
  (75, .iload 7, 2, [7], []),
  (77, .iconst 4, 1, [4], []),
  (78, .if_icmp .ge 31, 3, [60], []),
  (81, .iload 6, 2, [6], []),
  (83, .aload_n 0, 1, [0], []),
  (84, .iload_n 3, 1, [3], []),
  (85, .iload 4, 2, [4], []),
  (87, .iload 7, 2, [7], []),
  (89, .invokevirtual 101, 3, [93, 4, 5], [742, 0, 744, 50, 70, 745]),
  (92, .ifCond .lt 7, 3, [55], []),
  (95, .iconst 1, 1, [1], []),
  (96, .goto 4, 3, [56], []),
  (99, .iconst 0, 1, [0], []),
  (100, .iadd, 1, [], []),
  (101, .istore 6, 2, [6], []),
  (103, .iinc 7 1, 3, [7, 1], []),
  (106, .goto (-31), 3, [43], []),
  (109, .iload 5, 2, [5], []),
  (111, .iload 6, 2, [6], []),
  (113, .irem, 1, [], []),
  (114, .istore 7, 2, [7], []),
  (116, .iconst 0, 1, [0], []),
  (117, .istore 8, 2, [8], []),
  (119, .aload_n 0, 1, [0], []),
  (120, .iload_n 3, 1, [3], []),
  (121, .iload 4, 2, [4], []),
  (123, .iload 8, 2, [8], []),
  (125, .invokevirtual 101, 3, [93, 4, 5], [742, 0, 744, 50, 70, 745]),
  (128, .ifCond .lt 8, 3, [74], []),
  (131, .iload 7, 2, [7], []),
  (133, .ifCond .le 31, 3, [88], []),
  (136, .iload 7, 2, [7], []),
  (138, .aload_n 0, 1, [0], []),
  (139, .iload_n 3, 1, [3], []),
  (140, .iload 4, 2, [4], []),
  (142, .iload 8, 2, [8], []),
  (144, .invokevirtual 101, 3, [93, 4, 5], [742, 0, 744, 50, 70, 745]),
  (147, .ifCond .lt 7, 3, [83], []),
  (150, .iconst 1, 1, [1], []),
  (151, .goto 4, 3, [84], []),
  (154, .iconst 0, 1, [0], []),
  (155, .isub, 1, [], []),
  (156, .istore 7, 2, [7], []),
  (158, .iinc 8 1, 3, [8, 1], []),
  (161, .goto (-42), 3, [66], []),
  (164, .aload_n 0, 1, [0], []),
  (165, .iload_n 3, 1, [3], []),
  (166, .iload 4, 2, [4], []),
  (168, .iload 8, 2, [8], []),
  (170, .invokevirtual 101, 3, [93, 4, 5], [742, 0, 744, 50, 70, 745]),
  (173, .istore 4, 2, [4], []),
  (175, .iload_n 3, 1, [3], []),
  (176, .iconst 1, 1, [1], []),
  (177, .iload 4, 2, [4], []),
  (179, .ishl, 1, [], []),
  (180, .ior, 1, [], []),
  (181, .istore_n 3, 1, [3], []),
  (182, .goto (-141), 3, [24], []),
  (185, .iload_n 2, 1, [2], []),
  (186, .ifCond .ne 10, 3, [106], []),
  (189, .iload_n 3, 1, [3], []),
  (190, .invokestatic 85, 3, [75, 1], [693, 0, 694, 70, 695]),
  (193, .goto 5, 3, [107], []),
  (196, .iload 4, 2, [4], []),
  (198, .ireturn, 1, [0], [])]
def mt_122 : AMt := (yX5_drawn, cX5_drawn, 9, (some .int), tb_122)
def tb_123 : List AEn := [(0, .aload_n 0, 1, [0], []),
  (1, .getfield 194, 3, [5, 20], [601, 0]),
  (4, .ifCond .eq 7, 3, [5], []),
  (7, .iload_n 1, 1, [1], []),
  (8, .goto 12, 3, [10], []),
  (11, .aload_n 0, 1, [0], []),
  (12, .getfield 30, 3, [5, 17], [598, 0]),
  (15, .aload_n 0, 1, [0], []),
  (16, .getfield 198, 3, [5, 19], [600, 0]),
  (19, .iaload, 1, [], []),
  (20, .istore_n 2, 1, [2], []),
  (21, .aload_n 0, 1, [0], []),
  (22, .getfield 30, 3, [5, 17], [598, 0]),
  (25, .aload_n 0, 1, [0], []),
  (26, .getfield 198, 3, [5, 19], [600, 0]),
  (29, .iload_n 2, 1, [2], []),
  (30, .iastore, 1, [], []),
  (31, .aload_n 0, 1, [0], []),
  (32, .dup, 1, [], []),
  (33, .getfield 198, 3, [5, 19], [600, 0]),
  (36, .iconst 1, 1, [1], []),
  (37, .iadd, 1, [], []),
  (38, .putfield 198, 3, [5, 19, 0], [600, 0, 0]),
  (41, .iload_n 2, 1, [2], []),
  (42, .ireturn, 1, [0], [])]
def mt_123 : AMt := (yX5_pass, cX5_pass, 3, (some .int), tb_123)
def tb_124 : List AEn := [(0, .aload_n 0, 1, [0], []),
  (1, .aload_n 0, 1, [0], []),
  (2, .aload_n 0, 1, [0], []),
  (3, .getfield 41, 3, [5, 0], [581, 0]),
  (6, .invokevirtual 201, 3, [123, 2, 5], [853, 0, 855, 62, 70, 856]),
  (9, .putfield 41, 3, [5, 0, 0], [581, 0, 0]),
  (12, .aload_n 0, 1, [0], []),
  (13, .aload_n 0, 1, [0], []),
  (14, .aload_n 0, 1, [0], []),
  (15, .getfield 45, 3, [5, 1], [582, 0]),
  (18, .invokevirtual 201, 3, [123, 2, 5], [853, 0, 855, 62, 70, 856]),
  (21, .putfield 45, 3, [5, 1, 0], [582, 0, 0]),
  (24, .aload_n 0, 1, [0], []),
  (25, .aload_n 0, 1, [0], []),
  (26, .aload_n 0, 1, [0], []),
  (27, .getfield 48, 3, [5, 3], [584, 0]),
  (30, .invokevirtual 201, 3, [123, 2, 5], [853, 0, 855, 62, 70, 856]),
  (33, .putfield 48, 3, [5, 3, 0], [584, 0, 0]),
  (36, .aload_n 0, 1, [0], []),
  (37, .aload_n 0, 1, [0], []),
  (38, .aload_n 0, 1, [0], []),
  (39, .getfield 94, 3, [5, 4], [585, 0]),
  (42, .invokevirtual 201, 3, [123, 2, 5], [853, 0, 855, 62, 70, 856]),
  (45, .putfield 94, 3, [5, 4, 0], [585, 0, 0]),
  (48, .iconst 0, 1, [0], []),
  (49, .istore_n 1, 1, [1], []),
  (50, .iload_n 1, 1, [1], []),
  (51, .bipush 16, 2, [16], []),
  (53, .if_icmp .ge 25, 3, [41], []),
  (56, .aload_n 0, 1, [0], []),
  (57, .getfield 7, 3, [5, 2], [583, 0]),
  (60, .iload_n 1, 1, [1], []),
  (61, .aload_n 0, 1, [0], []),
  (62, .aload_n 0, 1, [0], []),
  (63, .getfield 7, 3, [5, 2], [583, 0]),
  (66, .iload_n 1, 1, [1], []),
  (67, .iaload, 1, [], []),
  (68, .invokevirtual 201, 3, [123, 2, 5], [853, 0, 855, 62, 70, 856]),
  (71, .iastore, 1, [], []),
  (72, .iinc 1 1, 3, [1, 1], []),
  (75, .goto (-25), 3, [26], []),
  (78, .return_, 1, [], [])]
def mt_124 : AMt := (yX5_passAll, cX5_passAll, 2, none, tb_124)
def tb_125 : List AEn := [(0, .iload_n 1, 1, [1], []),
  (1, .i2l, 1, [], []),
  (2, .lconst 0, 1, [0], []),
  (3, .lconst 1, 1, [1], []),
  (4, .invokestatic 55, 3, [74, 3], [651, 0, 652, 70, 653]),
  (7, .ifCond .ne 6, 3, [8], []),
  (10, .bipush (-2), 2, [0, 2], []),
  (12, .ireturn, 1, [0], []),
  (13, .aload_n 0, 1, [0], []),
  (14, .bipush 30, 2, [30], []),
  (16, .iload_n 1, 1, [1], []),
  (17, .imul, 1, [], []),
  (18, .putfield 198, 3, [5, 19, 0], [600, 0, 0]),
  (21, .aload_n 0, 1, [0], []),
  (22, .iconst 1, 1, [1], []),
  (23, .putfield 194, 3, [5, 20, 1], [601, 0, 0]),
  (26, .aload_n 0, 1, [0], []),
  (27, .invokevirtual 204, 3, [124, 1, 5], [849, 0, 851, 61, 70, 852]),
  (30, .aload_n 0, 1, [0], []),
  (31, .getfield 33, 3, [5, 18], [599, 0]),
  (34, .iload_n 1, 1, [1], []),
  (35, .iconst 1, 1, [1], []),
  (36, .bastore, 1, [], []),
  (37, .iconst 1, 1, [1], []),
  (38, .ireturn, 1, [0], [])]
def mt_125 : AMt := (yX5_image, cX5_image, 2, (some .int), tb_125)
def tb_126 : List AEn := [(0, .iload_n 1, 1, [1], []),
  (1, .i2l, 1, [], []),
  (2, .lconst 0, 1, [0], []),
  (3, .lconst 1, 1, [1], []),
  (4, .invokestatic 55, 3, [74, 3], [651, 0, 652, 70, 653]),
  (7, .ifCond .ne 6, 3, [8], []),
  (10, .bipush (-2), 2, [0, 2], []),
  (12, .ireturn, 1, [0], []),
  (13, .aload_n 0, 1, [0], []),
  (14, .getfield 33, 3, [5, 18], [599, 0]),
  (17, .iload_n 1, 1, [1], []),
  (18, .baload, 1, [], []),
  (19, .ifCond .ne 6, 3, [15], []),
  (22, .bipush (-3), 2, [0, 3], []),
  (24, .ireturn, 1, [0], []),
  (25, .aload_n 0, 1, [0], []),
  (26, .bipush 30, 2, [30], []),
  (28, .iload_n 1, 1, [1], []),
  (29, .imul, 1, [], []),
  (30, .putfield 198, 3, [5, 19, 0], [600, 0, 0]),
  (33, .aload_n 0, 1, [0], []),
  (34, .iconst 0, 1, [0], []),
  (35, .putfield 194, 3, [5, 20, 1], [601, 0, 0]),
  (38, .aload_n 0, 1, [0], []),
  (39, .invokevirtual 204, 3, [124, 1, 5], [849, 0, 851, 61, 70, 852]),
  (42, .iconst 1, 1, [1], []),
  (43, .ireturn, 1, [0], [])]
def mt_126 : AMt := (yX5_restore, cX5_restore, 2, (some .int), tb_126)
def tb_127 : List AEn := [(0, .iload_n 1, 1, [1], []),
  (1, .ifCond .ne 10, 3, [5], []),
  (4, .aload_n 0, 1, [0], []),
  (5, .getfield 65, 3, [5, 6], [587, 0]),
  (8, .goto 68, 3, [37], []),
  (11, .iload_n 1, 1, [1], []),
  (12, .iconst 1, 1, [1], []),
  (13, .if_icmp .ne 10, 3, [11], []),
  (16, .aload_n 0, 1, [0], []),
  (17, .getfield 41, 3, [5, 0], [581, 0]),
  (20, .goto 56, 3, [37], []),
  (23, .iload_n 1, 1, [1], []),
  (24, .iconst 2, 1, [2], []),
  (25, .if_icmp .ne 10, 3, [17], []),
  (28, .aload_n 0, 1, [0], []),
  (29, .getfield 45, 3, [5, 1], [582, 0]),
  (32, .goto 44, 3, [37], []),
  (35, .iload_n 1, 1, [1], []),
  (36, .iconst 3, 1, [3], []),
  (37, .if_icmp .ne 13, 3, [24], []),
  (40, .aload_n 0, 1, [0], []),
  (41, .invokevirtual 82, 3, [87, 1, 5], [689, 0, 691, 43, 70, 692]),
  (44, .invokestatic 85, 3, [75, 1], [693, 0, 694, 70, 695]),
  (47, .goto 29, 3, [37], []),
  (50, .iload_n 1, 1, [1], []),
  (51, .iconst 4, 1, [4], []),
  (52, .if_icmp .ne 10, 3, [30], []),
  (55, .aload_n 0, 1, [0], []),
  (56, .getfield 48, 3, [5, 3], [584, 0]),
  (59, .goto 17, 3, [37], []),
  (62, .iload_n 1, 1, [1], []),
  (63, .iconst 5, 1, [5], []),
  (64, .if_icmp .ne 10, 3, [36], []),
  (67, .aload_n 0, 1, [0], []),
  (68, .getfield 94, 3, [5, 4], [585, 0]),
  (71, .goto 5, 3, [37], []),
  (74, .bipush (-2), 2, [0, 2], []),
  (76, .ireturn, 1, [0], [])]
def mt_127 : AMt := (yX5_told, cX5_told, 2, (some .int), tb_127)
def tb_128 : List AEn := [(0, .new 7, 3, [4], [73, 74, 64]),
  (3, .dup, 1, [], []),
  (4, .invokespecial 9, 3, [36, 1], [75, 0, 76, 64, 77]),
  (7, .astore_n 1, 1, [1], []),
  (8, .new 10, 3, [5], [569, 570, 70]),
  (11, .dup, 1, [], []),
  (12, .invokespecial 12, 3, [73, 1], [571, 0, 572, 70, 573]),
  (15, .astore_n 2, 1, [2], []),
  (16, .iconst 0, 1, [0], []),
  (17, .istore_n 3, 1, [3], []),
  (18, .iload_n 3, 1, [3], []),
  (19, .aload_n 0, 1, [0], []),
  (20, .arraylength, 1, [], []),
  (21, .iconst 3, 1, [3], []),
  (22, .isub, 1, [], []),
  (23, .if_icmp .gt 649, 3, [402], []),
  (26, .aload_n 0, 1, [0], []),
  (27, .iload_n 3, 1, [3], []),
  (28, .iaload, 1, [], []),
  (29, .bipush 31, 2, [31], []),
  (31, .iand, 1, [], []),
  (32, .tableswitch 634 0 23 #[112, 145, 168, 181, 204, 217, 240, 263, 286, 309, 332, 355, 378, 391, 414, 447, 460, 473, 496, 509, 532, 565, 588, 611], 112, [400, 22, 49, 66, 73, 90, 97, 114, 131, 148, 165, 182, 199, 216, 223, 240, 267, 274, 281, 298, 305, 322, 349, 366, 383], []),
  (144, .aload_n 1, 1, [1], []),
  (145, .aload_n 0, 1, [0], []),
  (146, .iload_n 3, 1, [3], []),
  (147, .iconst 1, 1, [1], []),
  (148, .iadd, 1, [], []),
  (149, .iaload, 1, [], []),
  (150, .aload_n 0, 1, [0], []),
  (151, .iload_n 3, 1, [3], []),
  (152, .iconst 2, 1, [2], []),
  (153, .iadd, 1, [], []),
  (154, .iaload, 1, [], []),
  (155, .invokevirtual 13, 3, [37, 3, 4], [284, 0, 285, 286, 64, 287]),
  (158, .aload_n 2, 1, [2], []),
  (159, .aload_n 0, 1, [0], []),
  (160, .iload_n 3, 1, [3], []),
  (161, .iconst 1, 1, [1], []),
  (162, .iadd, 1, [], []),
  (163, .iaload, 1, [], []),
  (164, .aload_n 0, 1, [0], []),
  (165, .iload_n 3, 1, [3], []),
  (166, .iconst 2, 1, [2], []),
  (167, .iadd, 1, [], []),
  (168, .iaload, 1, [], []),
  (169, .invokevirtual 17, 3, [79, 3, 5], [646, 0, 647, 648, 70, 649]),
  (172, .if_icmp .eq 494, 3, [400], []),
  (175, .iconst 0, 1, [0], []),
  (176, .ireturn, 1, [1], []),
  (177, .aload_n 1, 1, [1], []),
  (178, .aload_n 0, 1, [0], []),
  (179, .iload_n 3, 1, [3], []),
  (180, .iconst 1, 1, [1], []),
  (181, .iadd, 1, [], []),
  (182, .iaload, 1, [], []),
  (183, .invokevirtual 18, 3, [38, 2, 4], [292, 0, 293, 294, 64, 295]),
  (186, .aload_n 2, 1, [2], []),
  (187, .aload_n 0, 1, [0], []),
  (188, .iload_n 3, 1, [3], []),
  (189, .iconst 1, 1, [1], []),
  (190, .iadd, 1, [], []),
  (191, .iaload, 1, [], []),
  (192, .invokevirtual 22, 3, [80, 2, 5], [658, 0, 659, 660, 70, 661]),
  (195, .if_icmp .eq 471, 3, [400], []),
  (198, .iconst 0, 1, [0], []),
  (199, .ireturn, 1, [1], []),
  (200, .aload_n 1, 1, [1], []),
  (201, .invokevirtual 23, 3, [39, 1, 4], [296, 0, 297, 298, 64, 299]),
  (204, .aload_n 2, 1, [2], []),
  (205, .invokevirtual 27, 3, [81, 1, 5], [664, 0, 665, 666, 70, 667]),
  (208, .if_icmp .eq 458, 3, [400], []),
  (211, .iconst 0, 1, [0], []),
  (212, .ireturn, 1, [1], []),
  (213, .aload_n 1, 1, [1], []),
  (214, .aload_n 0, 1, [0], []),
  (215, .iload_n 3, 1, [3], []),
  (216, .iconst 1, 1, [1], []),
  (217, .iadd, 1, [], []),
  (218, .iaload, 1, [], []),
  (219, .invokevirtual 28, 3, [40, 2, 4], [300, 0, 301, 302, 64, 303]),
  (222, .aload_n 2, 1, [2], []),
  (223, .aload_n 0, 1, [0], []),
  (224, .iload_n 3, 1, [3], []),
  (225, .iconst 1, 1, [1], []),
  (226, .iadd, 1, [], []),
  (227, .iaload, 1, [], []),
  (228, .invokevirtual 31, 3, [86, 2, 5], [668, 0, 669, 670, 70, 671]),
  (231, .if_icmp .eq 435, 3, [400], []),
  (234, .iconst 0, 1, [0], []),
  (235, .ireturn, 1, [1], []),
  (236, .aload_n 1, 1, [1], []),
  (237, .invokevirtual 32, 3, [41, 1, 4], [317, 0, 318, 319, 64, 320]),
  (240, .aload_n 2, 1, [2], []),
  (241, .invokevirtual 35, 3, [88, 1, 5], [685, 0, 686, 687, 70, 688]),
  (244, .if_icmp .eq 422, 3, [400], []),
  (247, .iconst 0, 1, [0], []),
  (248, .ireturn, 1, [1], []),
  (249, .aload_n 1, 1, [1], []),
  (250, .aload_n 0, 1, [0], []),
  (251, .iload_n 3, 1, [3], []),
  (252, .iconst 1, 1, [1], []),
  (253, .iadd, 1, [], []),
  (254, .iaload, 1, [], []),
  (255, .invokevirtual 36, 3, [42, 2, 4], [346, 0, 347, 348, 64, 349]),
  (258, .aload_n 2, 1, [2], []),
  (259, .aload_n 0, 1, [0], []),
  (260, .iload_n 3, 1, [3], []),
  (261, .iconst 1, 1, [1], []),
  (262, .iadd, 1, [], []),
  (263, .iaload, 1, [], []),
  (264, .invokevirtual 39, 3, [89, 2, 5], [696, 0, 697, 698, 70, 699]),
  (267, .if_icmp .eq 399, 3, [400], []),
  (270, .iconst 0, 1, [0], []),
  (271, .ireturn, 1, [1], []),
  (272, .aload_n 1, 1, [1], []),
  (273, .aload_n 0, 1, [0], []),
  (274, .iload_n 3, 1, [3], []),
  (275, .iconst 1, 1, [1], []),
  (276, .iadd, 1, [], []),
  (277, .iaload, 1, [], []),
  (278, .invokevirtual 40, 3, [43, 2, 4], [355, 0, 356, 357, 64, 358]),
  (281, .aload_n 2, 1, [2], []),
  (282, .aload_n 0, 1, [0], []),
  (283, .iload_n 3, 1, [3], []),
  (284, .iconst 1, 1, [1], []),
  (285, .iadd, 1, [], []),
  (286, .iaload, 1, [], []),
  (287, .invokevirtual 43, 3, [90, 2, 5], [704, 0, 705, 706, 70, 707]),
  (290, .if_icmp .eq 376, 3, [400], []),
  (293, .iconst 0, 1, [0], []),
  (294, .ireturn, 1, [1], []),
  (295, .aload_n 1, 1, [1], []),
  (296, .aload_n 0, 1, [0], []),
  (297, .iload_n 3, 1, [3], []),
  (298, .iconst 1, 1, [1], []),
  (299, .iadd, 1, [], []),
  (300, .iaload, 1, [], []),
  (301, .invokevirtual 44, 3, [44, 2, 4], [359, 0, 360, 361, 64, 362]),
  (304, .aload_n 2, 1, [2], []),
  (305, .aload_n 0, 1, [0], []),
  (306, .iload_n 3, 1, [3], []),
  (307, .iconst 1, 1, [1], []),
  (308, .iadd, 1, [], []),
  (309, .iaload, 1, [], []),
  (310, .invokevirtual 47, 3, [91, 2, 5], [708, 0, 709, 710, 70, 711]),
  (313, .if_icmp .eq 353, 3, [400], []),
  (316, .iconst 0, 1, [0], []),
  (317, .ireturn, 1, [1], []),
  (318, .aload_n 1, 1, [1], []),
  (319, .aload_n 0, 1, [0], []),
  (320, .iload_n 3, 1, [3], []),
  (321, .iconst 1, 1, [1], []),
  (322, .iadd, 1, [], []),
  (323, .iaload, 1, [], []),
  (324, .invokevirtual 48, 3, [45, 2, 4], [363, 0, 364, 365, 64, 366]),
  (327, .aload_n 2, 1, [2], []),
  (328, .aload_n 0, 1, [0], []),
  (329, .iload_n 3, 1, [3], []),
  (330, .iconst 1, 1, [1], []),
  (331, .iadd, 1, [], []),
  (332, .iaload, 1, [], []),
  (333, .invokevirtual 51, 3, [97, 2, 5], [713, 0, 714, 715, 70, 716]),
  (336, .if_icmp .eq 330, 3, [400], []),
  (339, .iconst 0, 1, [0], []),
  (340, .ireturn, 1, [1], []),
  (341, .aload_n 1, 1, [1], []),
  (342, .aload_n 0, 1, [0], []),
  (343, .iload_n 3, 1, [3], []),
  (344, .iconst 1, 1, [1], []),
  (345, .iadd, 1, [], []),
  (346, .iaload, 1, [], []),
  (347, .invokevirtual 52, 3, [46, 2, 4], [394, 0, 395, 396, 64, 397]),
  (350, .aload_n 2, 1, [2], []),
  (351, .aload_n 0, 1, [0], []),
  (352, .iload_n 3, 1, [3], []),
  (353, .iconst 1, 1, [1], []),
  (354, .iadd, 1, [], []),
  (355, .iaload, 1, [], []),
  (356, .invokevirtual 55, 3, [100, 2, 5], [729, 0, 730, 731, 70, 732]),
  (359, .if_icmp .eq 307, 3, [400], []),
  (362, .iconst 0, 1, [0], []),
  (363, .ireturn, 1, [1], []),
  (364, .aload_n 1, 1, [1], []),
  (365, .aload_n 0, 1, [0], []),
  (366, .iload_n 3, 1, [3], []),
  (367, .iconst 1, 1, [1], []),
  (368, .iadd, 1, [], []),
  (369, .iaload, 1, [], []),
  (370, .invokevirtual 56, 3, [47, 2, 4], [414, 0, 415, 416, 64, 417]),
  (373, .aload_n 2, 1, [2], []),
  (374, .aload_n 0, 1, [0], []),
  (375, .iload_n 3, 1, [3], []),
  (376, .iconst 1, 1, [1], []),
  (377, .iadd, 1, [], []),
  (378, .iaload, 1, [], []),
  (379, .invokevirtual 59, 3, [103, 2, 5], [750, 0, 751, 752, 70, 753]),
  (382, .if_icmp .eq 284, 3, [400], []),
  (385, .iconst 0, 1, [0], []),
  (386, .ireturn, 1, [1], []),
  (387, .aload_n 1, 1, [1], []),
  (388, .aload_n 0, 1, [0], []),
  (389, .iload_n 3, 1, [3], []),
  (390, .iconst 1, 1, [1], []),
  (391, .iadd, 1, [], []),
  (392, .iaload, 1, [], []),
  (393, .invokevirtual 60, 3, [48, 2, 4], [472, 0, 473, 474, 64, 475]),
  (396, .aload_n 2, 1, [2], []),
  (397, .aload_n 0, 1, [0], []),
  (398, .iload_n 3, 1, [3], []),
  (399, .iconst 1, 1, [1], []),
  (400, .iadd, 1, [], []),
  (401, .iaload, 1, [], []),
  (402, .invokevirtual 63, 3, [105, 2, 5], [764, 0, 765, 766, 70, 767]),
  (405, .if_icmp .eq 261, 3, [400], []),
  (408, .iconst 0, 1, [0], []),
  (409, .ireturn, 1, [1], []),
  (410, .aload_n 1, 1, [1], []),
  (411, .invokevirtual 64, 3, [49, 1, 4], [476, 0, 477, 478, 64, 479]),
  (414, .aload_n 2, 1, [2], []),
  (415, .invokevirtual 67, 3, [106, 1, 5], [772, 0, 773, 774, 70, 775]),
  (418, .if_icmp .eq 248, 3, [400], []),
  (421, .iconst 0, 1, [0], []),
  (422, .ireturn, 1, [1], []),
  (423, .aload_n 1, 1, [1], []),
  (424, .aload_n 0, 1, [0], []),
  (425, .iload_n 3, 1, [3], []),
  (426, .iconst 1, 1, [1], []),
  (427, .iadd, 1, [], []),
  (428, .iaload, 1, [], []),
  (429, .invokevirtual 68, 3, [50, 2, 4], [489, 0, 490, 491, 64, 492]),
  (432, .aload_n 2, 1, [2], []),
  (433, .aload_n 0, 1, [0], []),
  (434, .iload_n 3, 1, [3], []),
  (435, .iconst 1, 1, [1], []),
  (436, .iadd, 1, [], []),
  (437, .iaload, 1, [], []),
  (438, .invokevirtual 71, 3, [110, 2, 5], [776, 0, 777, 778, 70, 779]),
  (441, .if_icmp .eq 225, 3, [400], []),
  (444, .iconst 0, 1, [0], []),
  (445, .ireturn, 1, [1], []),
  (446, .aload_n 1, 1, [1], []),
  (447, .aload_n 0, 1, [0], []),
  (448, .iload_n 3, 1, [3], []),
  (449, .iconst 1, 1, [1], []),
  (450, .iadd, 1, [], []),
  (451, .iaload, 1, [], []),
  (452, .aload_n 0, 1, [0], []),
  (453, .iload_n 3, 1, [3], []),
  (454, .iconst 2, 1, [2], []),
  (455, .iadd, 1, [], []),
  (456, .iaload, 1, [], []),
  (457, .invokevirtual 72, 3, [51, 3, 4], [493, 0, 494, 495, 64, 496]),
  (460, .aload_n 2, 1, [2], []),
  (461, .aload_n 0, 1, [0], []),
  (462, .iload_n 3, 1, [3], []),
  (463, .iconst 1, 1, [1], []),
  (464, .iadd, 1, [], []),
  (465, .iaload, 1, [], []),
  (466, .aload_n 0, 1, [0], []),
  (467, .iload_n 3, 1, [3], []),
  (468, .iconst 2, 1, [2], []),
  (469, .iadd, 1, [], []),
  (470, .iaload, 1, [], []),
  (471, .invokevirtual 75, 3, [111, 3, 5], [792, 0, 793, 794, 70, 795]),
  (474, .if_icmp .eq 192, 3, [400], []),
  (477, .iconst 0, 1, [0], []),
  (478, .ireturn, 1, [1], []),
  (479, .aload_n 1, 1, [1], []),
  (480, .invokevirtual 76, 3, [52, 1, 4], [501, 0, 502, 503, 64, 504]),
  (483, .aload_n 2, 1, [2], []),
  (484, .invokevirtual 79, 3, [117, 1, 5], [797, 0, 798, 799, 70, 800]),
  (487, .if_icmp .eq 179, 3, [400], []),
  (490, .iconst 0, 1, [0], []),
  (491, .ireturn, 1, [1], []),
  (492, .aload_n 1, 1, [1], []),
  (493, .invokevirtual 80, 3, [53, 1, 4], [512, 0, 513, 514, 64, 515]),
  (496, .aload_n 2, 1, [2], []),
  (497, .invokevirtual 83, 3, [118, 1, 5], [820, 0, 821, 822, 70, 823]),
  (500, .if_icmp .eq 166, 3, [400], []),
  (503, .iconst 0, 1, [0], []),
  (504, .ireturn, 1, [1], []),
  (505, .aload_n 1, 1, [1], []),
  (506, .aload_n 0, 1, [0], []),
  (507, .iload_n 3, 1, [3], []),
  (508, .iconst 1, 1, [1], []),
  (509, .iadd, 1, [], []),
  (510, .iaload, 1, [], []),
  (511, .invokevirtual 84, 3, [54, 2, 4], [519, 0, 520, 521, 64, 522]),
  (514, .aload_n 2, 1, [2], []),
  (515, .aload_n 0, 1, [0], []),
  (516, .iload_n 3, 1, [3], []),
  (517, .iconst 1, 1, [1], []),
  (518, .iadd, 1, [], []),
  (519, .iaload, 1, [], []),
  (520, .invokevirtual 87, 3, [119, 2, 5], [824, 0, 825, 826, 70, 827]),
  (523, .if_icmp .eq 143, 3, [400], []),
  (526, .iconst 0, 1, [0], []),
  (527, .ireturn, 1, [1], []),
  (528, .aload_n 1, 1, [1], []),
  (529, .invokevirtual 88, 3, [55, 1, 4], [531, 0, 532, 533, 64, 534]),
  (532, .aload_n 2, 1, [2], []),
  (533, .invokevirtual 91, 3, [120, 1, 5], [828, 0, 829, 830, 70, 831]),
  (536, .if_icmp .eq 130, 3, [400], []),
  (539, .iconst 0, 1, [0], []),
  (540, .ireturn, 1, [1], []),
  (541, .aload_n 1, 1, [1], []),
  (542, .aload_n 0, 1, [0], []),
  (543, .iload_n 3, 1, [3], []),
  (544, .iconst 1, 1, [1], []),
  (545, .iadd, 1, [], []),
  (546, .iaload, 1, [], []),
  (547, .invokevirtual 92, 3, [56, 2, 4], [535, 0, 536, 537, 64, 538]),
  (550, .aload_n 2, 1, [2], []),
  (551, .aload_n 0, 1, [0], []),
  (552, .iload_n 3, 1, [3], []),
  (553, .iconst 1, 1, [1], []),
  (554, .iadd, 1, [], []),
  (555, .iaload, 1, [], []),
  (556, .invokevirtual 95, 3, [121, 2, 5], [832, 0, 833, 834, 70, 835]),
  (559, .if_icmp .eq 107, 3, [400], []),
  (562, .iconst 0, 1, [0], []),
  (563, .ireturn, 1, [1], []),
  (564, .aload_n 1, 1, [1], []),
  (565, .aload_n 0, 1, [0], []),
  (566, .iload_n 3, 1, [3], []),
  (567, .iconst 1, 1, [1], []),
  (568, .iadd, 1, [], []),
  (569, .iaload, 1, [], []),
  (570, .aload_n 0, 1, [0], []),
  (571, .iload_n 3, 1, [3], []),
  (572, .iconst 2, 1, [2], []),
  (573, .iadd, 1, [], []),
  (574, .iaload, 1, [], []),
  (575, .invokevirtual 96, 3, [57, 3, 4], [539, 0, 540, 541, 64, 542]),
  (578, .aload_n 2, 1, [2], []),
  (579, .aload_n 0, 1, [0], []),
  (580, .iload_n 3, 1, [3], []),
  (581, .iconst 1, 1, [1], []),
  (582, .iadd, 1, [], []),
  (583, .iaload, 1, [], []),
  (584, .aload_n 0, 1, [0], []),
  (585, .iload_n 3, 1, [3], []),
  (586, .iconst 2, 1, [2], []),
  (587, .iadd, 1, [], []),
  (588, .iaload, 1, [], []),
  (589, .invokevirtual 99, 3, [122, 3, 5], [837, 0, 838, 839, 70, 840]),
  (592, .if_icmp .eq 74, 3, [400], []),
  (595, .iconst 0, 1, [0], []),
  (596, .ireturn, 1, [1], []),
  (597, .aload_n 1, 1, [1], []),
  (598, .aload_n 0, 1, [0], []),
  (599, .iload_n 3, 1, [3], []),
  (600, .iconst 1, 1, [1], []),
  (601, .iadd, 1, [], []),
  (602, .iaload, 1, [], []),
  (603, .invokevirtual 100, 3, [58, 2, 4], [550, 0, 551, 552, 64, 553]),
  (606, .aload_n 2, 1, [2], []),
  (607, .aload_n 0, 1, [0], []),
  (608, .iload_n 3, 1, [3], []),
  (609, .iconst 1, 1, [1], []),
  (610, .iadd, 1, [], []),
  (611, .iaload, 1, [], []),
  (612, .invokevirtual 103, 3, [125, 2, 5], [845, 0, 846, 847, 70, 848]),
  (615, .if_icmp .eq 51, 3, [400], []),
  (618, .iconst 0, 1, [0], []),
  (619, .ireturn, 1, [1], []),
  (620, .aload_n 1, 1, [1], []),
  (621, .aload_n 0, 1, [0], []),
  (622, .iload_n 3, 1, [3], []),
  (623, .iconst 1, 1, [1], []),
  (624, .iadd, 1, [], []),
  (625, .iaload, 1, [], []),
  (626, .invokevirtual 104, 3, [59, 2, 4], [561, 0, 562, 563, 64, 564]),
  (629, .aload_n 2, 1, [2], []),
  (630, .aload_n 0, 1, [0], []),
  (631, .iload_n 3, 1, [3], []),
  (632, .iconst 1, 1, [1], []),
  (633, .iadd, 1, [], []),
  (634, .iaload, 1, [], []),
  (635, .invokevirtual 107, 3, [126, 2, 5], [857, 0, 858, 859, 70, 860]),
  (638, .if_icmp .eq 28, 3, [400], []),
  (641, .iconst 0, 1, [0], []),
  (642, .ireturn, 1, [1], []),
  (643, .aload_n 1, 1, [1], []),
  (644, .aload_n 0, 1, [0], []),
  (645, .iload_n 3, 1, [3], []),
  (646, .iconst 1, 1, [1], []),
  (647, .iadd, 1, [], []),
  (648, .iaload, 1, [], []),
  (649, .invokevirtual 108, 3, [60, 2, 4], [565, 0, 566, 567, 64, 568]),
  (652, .aload_n 2, 1, [2], []),
  (653, .aload_n 0, 1, [0], []),
  (654, .iload_n 3, 1, [3], []),
  (655, .iconst 1, 1, [1], []),
  (656, .iadd, 1, [], []),
  (657, .iaload, 1, [], []),
  (658, .invokevirtual 111, 3, [127, 2, 5], [861, 0, 862, 863, 70, 864]),
  (661, .if_icmp .eq 5, 3, [400], []),
  (664, .iconst 0, 1, [0], []),
  (665, .ireturn, 1, [1], []),
  (666, .iinc 3 3, 3, [3, 3], []),
  (669, .goto (-651), 3, [10], []),
  (672, .iconst 1, 1, [1], []),
  (673, .ireturn, 1, [1], [])]
def mt_128 : AMt := (yL_law, cL_law, 4, (some .boolean), tb_128)
def methods : List AMt := [mt_0, mt_1, mt_2, mt_3, mt_4, mt_5, mt_6, mt_7, mt_8, mt_9, mt_10, mt_11, mt_12, mt_13, mt_14, mt_15, mt_16, mt_17, mt_18, mt_19, mt_20, mt_21, mt_22, mt_23, mt_24, mt_25, mt_26, mt_27, mt_28, mt_29, mt_30, mt_31, mt_32, mt_33, mt_34, mt_35, mt_36, mt_37, mt_38, mt_39, mt_40, mt_41, mt_42, mt_43, mt_44, mt_45, mt_46, mt_47, mt_48, mt_49, mt_50, mt_51, mt_52, mt_53, mt_54, mt_55, mt_56, mt_57, mt_58, mt_59, mt_60, mt_61, mt_62, mt_63, mt_64, mt_65, mt_66, mt_67, mt_68, mt_69, mt_70, mt_71, mt_72, mt_73, mt_74, mt_75, mt_76, mt_77, mt_78, mt_79, mt_80, mt_81, mt_82, mt_83, mt_84, mt_85, mt_86, mt_87, mt_88, mt_89, mt_90, mt_91, mt_92, mt_93, mt_94, mt_95, mt_96, mt_97, mt_98, mt_99, mt_100, mt_101, mt_102, mt_103, mt_104, mt_105, mt_106, mt_107, mt_108, mt_109, mt_110, mt_111, mt_112, mt_113, mt_114, mt_115, mt_116, mt_117, mt_118, mt_119, mt_120, mt_121, mt_122, mt_123, mt_124, mt_125, mt_126, mt_127, mt_128]
abbrev classes : List vw_C := [(RX0, TX0, 3), (RX1, TX1, 9), (RX2, TX2, 5), (RX3, TX3, 9), (RX4, TX4, 18), (RX5, TX5, 21)]
/-- the fields of a new object: an int, or no reference -/
def a_dfs : List (List (Option (Option Nat))) := [[none, none, some none], [none, none, none, none, none, none, some none, some none, some none], [none, none, none, none, none], [some none, none, none, none, none, some none, some none, some none, some none], [some none, none, some none, some none, some none, some none, some none, none, some none, some none, some none, none, none, none, none, none, none, none], [none, none, some none, none, none, some none, none, none, none, none, none, none, some none, some none, some none, some none, none, some none, some none, none, none]]
end
section
-- THE ABSTRACT MACHINE: the shapes of the cells by their numbers, one memory of ints, references are numbers of cells (from 1000000 on: arrays that nobody writes)
abbrev AMm : Type := Nat → Nat → Int32
abbrev ADc : Type := (Nat × List (Option (Option Nat))) ⊕ ((Nat × Nat) ⊕ List (Option Nat))
abbrev ADd : Type := List ADc
abbrev ALo : Type := List (Option Value)
abbrev ASt : Type := Nat × Nat × ALo × List Value × ADd × AMm
abbrev ARs : Type := Option Value × ADd × AMm
abbrev ACl : Type := Nat × List Value × List Value
abbrev AOu : Type := ASt ⊕ (ARs ⊕ ACl)
/-- one int of the memory is set -/
def ms (M : AMm) (i k : Nat) (v : Int32) : AMm := fun a b => if a = i then (if b = k then v else M a b) else M a b
/-- all ints of a cell are set -/
def mr (M : AMm) (i : Nat) (f : Nat → Int32) : AMm := fun a b => if a = i then f b else M a b
def a_roL (M : AMm) (r : Nat) : Nat := if r = 0 then (M 1000004 0).toNatClampNeg else 4
def a_cs : List Nat → Int32
  | [a] => nI a
  | [_, b] => -(nI b)
  | _ => 0
def a_hd : List Nat → Nat
  | a :: _ => a
  | [] => 0
def a_nx (k j : Nat) (L : ALo) (st : List Value) (D : ADd) (M : AMm) : Option AOu := some (.inl (k, j + 1, L, st, D, M))
def a_ld (L : ALo) (i : Nat) : Option Value := match L[i]? with
  | some (some v) => some v
  | _ => none
/-- a value of one word is put into a local, ahead of which no long stands -/
def a_st (L : ALo) (i : Nat) (v : Value) : Option ALo := match i with
  | 0 => if 0 < L.length then some (L.set 0 (some v)) else none
  | i + 1 => if i + 1 < L.length then (match L[i]? with
    | some (some (.long _)) => none
    | some (some (.double _)) => none
    | _ => some (L.set (i + 1) (some v))) else none
def a_sto (k j : Nat) (L : ALo) (i : Nat) (v : Value) (st : List Value) (D : ADd) (M : AMm) : Option AOu := match a_st L i v with
  | some L' => a_nx k j L' st D M
  | none => none
def a_b2 (k j : Nat) (L : ALo) (st : List Value) (D : ADd) (M : AMm) (f : Int32 → Int32 → Int32) : Option AOu := match st with
  | .int y :: .int x :: r => a_nx k j L (.int (f x y) :: r) D M
  | _ => none
def a_l2 (k j : Nat) (L : ALo) (st : List Value) (D : ADd) (M : AMm) (f : Int64 → Int64 → Int64) : Option AOu := match st with
  | .long y :: .long x :: r => a_nx k j L (.long (f x y) :: r) D M
  | _ => none
def a_if (c : Jvm.ClassFile.Cond) (x y : Int32) (t f : ASt) : AOu := match c with
  | .eq => if x = y then .inl t else .inl f
  | .ne => if x = y then .inl f else .inl t
  | .lt => if x < y then .inl t else .inl f
  | .ge => if y ≤ x then .inl t else .inl f
  | .gt => if y < x then .inl t else .inl f
  | .le => if x ≤ y then .inl t else .inl f
def a_tsw (x : Int32) (aux : List Nat) : Nat := if x.toInt < 0 ∨ (aux.length : Int) - 2 < x.toInt then a_hd aux else aux.getD (x.toInt.toNat + 1) 0
/-- an int out of an array -/
def a_ald (kind : Nat) (D : ADd) (M : AMm) (a : Nat) (i : Int32) (kk : Int32 → Option AOu) : Option AOu :=
  if 1000000 ≤ a then (if kind = 0 ∧ a < 1000004 then (if i < 0 ∨ a_roL M (a - 1000000) ≤ i.toNatClampNeg then none else kk (M a i.toNatClampNeg)) else none)
  else match D[a]? with
  | some (.inr (.inl (kd, n))) => if kd = kind then (if i < 0 ∨ n ≤ i.toNatClampNeg then none else kk (M a i.toNatClampNeg)) else none
  | _ => none
/-- an int into an array -/
def a_ast (kind : Nat) (D : ADd) (M : AMm) (a : Nat) (i : Int32) (v : Int32) (kk : AMm → Option AOu) : Option AOu := match D[a]? with
  | some (.inr (.inl (kd, n))) => if kd = kind then (if i < 0 ∨ n ≤ i.toNatClampNeg then none else kk (ms M a i.toNatClampNeg v)) else none
  | _ => none
def a_rf (r : Option Nat) : Value := match r with
  | some q => .ref q
  | none => .null
def a_gf (D : ADd) (M : AMm) (a ci sl : Nat) : Option Value := match D[a]? with
  | some (.inl (c, fs)) => if c = ci then (match fs[sl]? with
    | some none => some (.int (M a sl))
    | some (some r) => some (a_rf r)
    | none => none) else none
  | _ => none
/-- a field is set: an int (0), a boolean (1), a reference (2) -/
def a_pf (D : ADd) (M : AMm) (a ci sl ty : Nat) (v : Value) (kk : ADd → AMm → Option AOu) : Option AOu := match D[a]? with
  | some (.inl (c, fs)) => if c = ci then (match fs[sl]?, ty, v with
    | some none, 0, .int x => kk D (ms M a sl x)
    | some none, 1, .int x => if x = 0 ∨ x = 1 then kk D (ms M a sl x) else none
    | some (some _), 2, .ref q => kk (D.set a (.inl (c, fs.set sl (some (some q))))) M
    | _, _, _ => none) else none
  | _ => none
/-- the locals at a method's entry -/
def a_sl : List Value → ALo
  | [] => []
  | .long x :: r => some (.long x) :: none :: a_sl r
  | .double x :: r => some (.double x) :: none :: a_sl r
  | v :: r => some v :: a_sl r
def a_maxL (k : Nat) : Nat := match methods[k]? with
  | some mt => mt.2.2.1
  | none => 0
def a_cat (st : List Value) : Nat := (st.map fun v => v.category).sum
def a_call (k : Nat) (na : Nat) (st : List Value) : Option AOu := if na ≤ st.length ∧ a_cat (st.drop na) ≤ 8 ∧ (a_sl (st.take na).reverse).length ≤ a_maxL k then some (.inr (.inr (k, (st.take na).reverse, st.drop na))) else none
/-- a call on an object: of the class ci -/
def a_callv (D : ADd) (k na ci : Nat) (st : List Value) : Option AOu := match st[na - 1]? with
  | some (.ref a) => match D[a]? with
    | some (.inl (c, _)) => if c = ci ∧ 0 < na then a_call k na st else none
    | _ => none
  | _ => none
/-- a constructor is called -/
def a_calls (k na : Nat) (st : List Value) : Option AOu := match st[na - 1]? with
  | some (.ref _) => if 0 < na then a_call k na st else none
  | _ => none
/-- the greater (0), the less -/
def a_mm (t : Nat) (x y : Int32) : Int32 := match t with
  | 0 => if x < y then y else x
  | _ => if y < x then y else x
def a_isF (D : ADd) (q : Nat) : Bool := match D[q]? with
  | some (.inl (1, _)) => true
  | _ => false
def a_ex (ins : Instr) (aux : List Nat) (k j : Nat) (L : ALo) (st : List Value) (D : ADd) (M : AMm) : Option AOu :=
  match ins with
  | .iconst _ => a_nx k j L (.int (a_cs aux) :: st) D M
  | .bipush _ => a_nx k j L (.int (a_cs aux) :: st) D M
  | .sipush _ => a_nx k j L (.int (a_cs aux) :: st) D M
  | .ldc _ => a_nx k j L (.int (a_cs aux) :: st) D M
  | .ldc_w _ => a_nx k j L (.int (a_cs aux) :: st) D M
  | .lconst _ => a_nx k j L (.long (lN (a_hd aux)) :: st) D M
  | .ldc2_w _ => a_nx k j L (.long (lN (a_hd aux)) :: st) D M
  | .iload _ => match a_ld L (a_hd aux) with
    | some (.int x) => a_nx k j L (.int x :: st) D M
    | _ => none
  | .iload_n _ => match a_ld L (a_hd aux) with
    | some (.int x) => a_nx k j L (.int x :: st) D M
    | _ => none
  | .aload_n _ => match a_ld L (a_hd aux) with
    | some (.ref x) => a_nx k j L (.ref x :: st) D M
    | _ => none
  | .lload _ => match a_ld L (a_hd aux) with
    | some (.long x) => a_nx k j L (.long x :: st) D M
    | _ => none
  | .lload_n _ => match a_ld L (a_hd aux) with
    | some (.long x) => a_nx k j L (.long x :: st) D M
    | _ => none
  | .istore _ => match st with
    | .int x :: r => a_sto k j L (a_hd aux) (.int x) r D M
    | _ => none
  | .istore_n _ => match st with
    | .int x :: r => a_sto k j L (a_hd aux) (.int x) r D M
    | _ => none
  | .astore_n _ => match st with
    | .ref x :: r => a_sto k j L (a_hd aux) (.ref x) r D M
    | _ => none
  | .iinc _ _ => match a_ld L (a_hd aux) with
    | some (.int x) => a_sto k j L (a_hd aux) (.int (x + a_cs aux.tail)) st D M
    | _ => none
  | .iadd => a_b2 k j L st D M (fun x y => x + y)
  | .isub => a_b2 k j L st D M (fun x y => x - y)
  | .imul => a_b2 k j L st D M (fun x y => x * y)
  | .iand => a_b2 k j L st D M (fun x y => x &&& y)
  | .ior => a_b2 k j L st D M (fun x y => x ||| y)
  | .ixor => a_b2 k j L st D M (fun x y => x ^^^ y)
  | .ishl => a_b2 k j L st D M (fun x y => x <<< (y &&& 31))
  | .ishr => a_b2 k j L st D M (fun x y => x >>> (y &&& 31))
  | .iushr => a_b2 k j L st D M (fun x y => (x.toUInt32 >>> (y.toUInt32 &&& Int32.toUInt32 31)).toInt32)
  | .idiv => match st with
    | .int y :: .int x :: r => if y = 0 then none else a_nx k j L (.int (x / y) :: r) D M
    | _ => none
  | .irem => match st with
    | .int y :: .int x :: r => if y = 0 then none else a_nx k j L (.int (x - x / y * y) :: r) D M
    | _ => none
  | .ineg => match st with
    | .int x :: r => a_nx k j L (.int (-x) :: r) D M
    | _ => none
  | .i2l => match st with
    | .int x :: r => a_nx k j L (.long x.toInt64 :: r) D M
    | _ => none
  | .l2i => match st with
    | .long x :: r => a_nx k j L (.int x.toInt32 :: r) D M
    | _ => none
  | .ladd => a_l2 k j L st D M (fun x y => x + y)
  | .lmul => a_l2 k j L st D M (fun x y => x * y)
  | .lrem => match st with
    | .long y :: .long x :: r => if y = 0 then none else a_nx k j L (.long (x - x / y * y) :: r) D M
    | _ => none
  | .lcmp => match st with
    | .long y :: .long x :: r => a_nx k j L (.int (lg_cmp x y) :: r) D M
    | _ => none
  | .pop => match st with
    | .int _ :: r => a_nx k j L r D M
    | _ => none
  | .dup => match st with
    | .int x :: r => a_nx k j L (.int x :: .int x :: r) D M
    | .ref x :: r => a_nx k j L (.ref x :: .ref x :: r) D M
    | _ => none
  | .dup2 => match st with
    | .int x :: .ref y :: r => a_nx k j L (.int x :: .ref y :: .int x :: .ref y :: r) D M
    | _ => none
  | .goto _ => some (.inl (k, a_hd aux, L, st, D, M))
  | .ifCond c _ => match st with
    | .int x :: r => some (a_if c x 0 (k, a_hd aux, L, r, D, M) (k, j + 1, L, r, D, M))
    | _ => none
  | .if_icmp c _ => match st with
    | .int y :: .int x :: r => some (a_if c x y (k, a_hd aux, L, r, D, M) (k, j + 1, L, r, D, M))
    | _ => none
  | .ifnonnull _ => match st with
    | .ref _ :: r => some (.inl (k, a_hd aux, L, r, D, M))
    | .null :: r => a_nx k j L r D M
    | _ => none
  | .tableswitch _ _ _ _ => match st with
    | .int x :: r => some (.inl (k, a_tsw x aux, L, r, D, M))
    | _ => none
  | .iaload => match st with
    | .int i :: .ref a :: r => a_ald 0 D M a i (fun v => a_nx k j L (.int v :: r) D M)
    | _ => none
  | .baload => match st with
    | .int i :: .ref a :: r => a_ald 1 D M a i (fun v => a_nx k j L (.int v :: r) D M)
    | _ => none
  | .iastore => match st with
    | .int v :: .int i :: .ref a :: r => a_ast 0 D M a i v (fun M' => a_nx k j L r D M')
    | _ => none
  | .bastore => match st with
    | .int v :: .int i :: .ref a :: r => if v = 0 ∨ v = 1 then a_ast 1 D M a i v (fun M' => a_nx k j L r D M') else none
    | _ => none
  | .aaload => match st with
    | .int i :: .ref a :: r => match D[a]? with
      | some (.inr (.inr rs)) => if i < 0 ∨ rs.length ≤ i.toNatClampNeg then none else a_nx k j L (a_rf (rs.getD i.toNatClampNeg none) :: r) D M
      | _ => none
    | _ => none
  | .aastore => match st with
    | .ref q :: .int i :: .ref a :: r => match D[a]? with
      | some (.inr (.inr rs)) => if i < 0 ∨ rs.length ≤ i.toNatClampNeg then none else (match a_isF D q with
        | true => a_nx k j L r (D.set a (.inr (.inr (rs.set i.toNatClampNeg (some q))))) M
        | false => none)
      | _ => none
    | _ => none
  | .arraylength => match st with
    | .ref a :: r => if a = 1000000 then a_nx k j L (.int (M 1000004 0) :: r) D M else (match D[a]? with
      | some (.inr (.inl (_, n))) => a_nx k j L (.int (nI n) :: r) D M
      | _ => none)
    | _ => none
  | .getfield _ => match st with
    | .ref a :: r => match a_gf D M a (a_hd aux) (a_hd aux.tail) with
      | some v => a_nx k j L (v :: r) D M
      | none => none
    | _ => none
  | .putfield _ => match st with
    | v :: .ref a :: r => a_pf D M a (a_hd aux) (a_hd aux.tail) (a_hd aux.tail.tail) v (fun D' M' => a_nx k j L r D' M')
    | _ => none
  | .getstatic _ => a_nx k j L (.ref (1000000 + a_hd aux) :: st) D M
  | .new _ => if D.length < 1000 then a_nx k j L (.ref D.length :: st) (D ++ [.inl (a_hd aux, a_dfs.getD (a_hd aux) [])]) (mr M D.length (fun _ => 0)) else none
  | .newarray _ => match st with
    | .int n :: r => if D.length < 1000 then (if n = nI (a_hd aux.tail) then a_nx k j L (.ref D.length :: r) (D ++ [.inr (.inl (a_hd aux, a_hd aux.tail))]) (mr M D.length (fun _ => 0)) else none) else none
    | _ => none
  | .anewarray _ => match st with
    | .int n :: r => if D.length < 1000 then (if n = nI (a_hd aux) then a_nx k j L (.ref D.length :: r) (D ++ [.inr (.inr (List.replicate (a_hd aux) none))]) M else none) else none
    | _ => none
  | .invokevirtual _ => a_callv D (a_hd aux) (a_hd aux.tail) (a_hd aux.tail.tail) st
  | .invokestatic _ => match aux with
    | [c, n] => a_call c n st
    | [_, _, t] => match st with
      | .int y :: .int x :: r => if a_cat r ≤ 8 then a_nx k j L (.int (a_mm t x y) :: r) D M else none
      | _ => none
    | _ => match st with
      | [.int n, .int dp, .ref b, .int sp, .ref a] => match D[a]?, D[b]? with
        | some (.inr (.inl (0, n0))), some (.inr (.inl (0, n1))) => if n < 0 ∨ dp < 0 ∨ sp < 0 ∨ n0 < sp.toNatClampNeg + n.toNatClampNeg ∨ n1 < dp.toNatClampNeg + n.toNatClampNeg then none else a_nx k j L [] D (mr M b (va_cpy (M a) (M b) sp.toNatClampNeg dp.toNatClampNeg n.toNatClampNeg))
        | _, _ => none
      | _ => none
  | .invokespecial _ => match aux with
    | [c, n] => a_calls c n st
    | _ => match st with
      | .ref _ :: r => if a_cat r ≤ 8 then a_nx k j L r D M else none
      | _ => none
  | .ireturn => match st with
    | [.int v] => if a_hd aux = 0 ∨ v = 0 ∨ v = 1 then some (.inr (.inl (some (.int v), D, M))) else none
    | _ => none
  | .return_ => match st with
    | [] => some (.inr (.inl (none, D, M)))
    | _ => none
  | _ => none
def stp (s : ASt) : Option AOu := match methods[s.1]? with
  | none => none
  | some mt => match mt.2.2.2.2[s.2.1]? with
    | none => none
    | some e => a_ex e.2.1 e.2.2.2.1 s.1 s.2.1 s.2.2.1 s.2.2.2.1 s.2.2.2.2.1 s.2.2.2.2.2
def ent (k : Nat) (as : List Value) (D : ADd) (M : AMm) : ASt := (k, 0, a_sl as ++ List.replicate (a_maxL k - (a_sl as).length) none, [], D, M)
def aft (s : ASt) (r : ARs) (rest : List Value) : ASt := (s.1, s.2.1 + 1, s.2.2.1, r.1.toList ++ rest, r.2.1, r.2.2)
def ex : Nat → Nat → ASt → Option ARs
  | _, 0, _ => none
  | d, n + 1, s => match stp s with
    | none => none
    | some (.inl s') => ex d n s'
    | some (.inr (.inl r)) => some r
    | some (.inr (.inr (k, as, rest))) => match d with
      | 0 => none
      | d' + 1 => match ex d' n (ent k as s.2.2.2.2.1 s.2.2.2.2.2) with
        | none => none
        | some r => ex (d' + 1) n (aft s r rest)
theorem ex_up : ∀ (n d d2 m : Nat) (s : ASt) (r : ARs), ex d n s = some r → d ≤ d2 → ex d2 (n + m) s = some r := by
  intro n
  induction n with
  | zero => intro d d2 m s r h; simp [ex] at h
  | succ n ih =>
    intro d d2 m s r h hd
    rw [show n + 1 + m = (n + m) + 1 by omega]
    unfold ex at h ⊢
    cases hs : stp s with
    | none => rw [hs] at h; simp at h
    | some o =>
      rw [hs] at h
      cases o with
      | inl s' => exact ih d d2 m s' r h hd
      | inr o =>
        cases o with
        | inl r' => exact h
        | inr c =>
          obtain ⟨k, as, rest⟩ := c
          cases d with
          | zero => simp at h
          | succ d' =>
            cases d2 with
            | zero => omega
            | succ d2' =>
              dsimp only at h ⊢
              cases hc : ex d' n (ent k as s.2.2.2.2.1 s.2.2.2.2.2) with
              | none => rw [hc] at h; simp at h
              | some r1 =>
                rw [hc] at h
                rw [ih d' d2' m _ r1 hc (by omega)]
                exact ih (d' + 1) (d2' + 1) m _ r h hd
/-- from s, with d calls deep at most, the machine comes to an end with Q -/
def T (d : Nat) (Q : ARs → Prop) (s : ASt) : Prop := ∃ n r, ex d n s = some r ∧ Q r
theorem T_mono {d d2 : Nat} {Q Q2 : ARs → Prop} {s : ASt} (h : T d Q s) (hd : d ≤ d2) (hQ : ∀ r, Q r → Q2 r) : T d2 Q2 s := by
  obtain ⟨n, r, h1, h2⟩ := h
  exact ⟨n, r, ex_up n d d2 0 s r h1 hd, hQ r h2⟩
theorem T_stp {d : Nat} {Q : ARs → Prop} {s s' : ASt} (h : stp s = some (.inl s')) (k : T d Q s') : T d Q s := by
  obtain ⟨n, r, h1, h2⟩ := k
  exact ⟨n + 1, r, by unfold ex; rw [h]; exact h1, h2⟩
theorem T_ret {d : Nat} {Q : ARs → Prop} {s : ASt} {r : ARs} (h : stp s = some (.inr (.inl r))) (k : Q r) : T d Q s :=
  ⟨1, r, by unfold ex; rw [h], k⟩
theorem T_call {d : Nat} {Q : ARs → Prop} {s : ASt} {k : Nat} {as rest : List Value} (h : stp s = some (.inr (.inr (k, as, rest)))) (hc : T d (fun r => T (d + 1) Q (aft s r rest)) (ent k as s.2.2.2.2.1 s.2.2.2.2.2)) : T (d + 1) Q s := by
  obtain ⟨n, r, h1, n2, r2, h2, h3⟩ := hc
  refine ⟨(n + n2) + 1, r2, ?_, h3⟩
  unfold ex
  rw [h]
  dsimp only
  rw [ex_up n d d n2 _ r h1 (Nat.le_refl _)]
  dsimp only
  rw [Nat.add_comm n n2]
  exact ex_up n2 (d + 1) (d + 1) n _ r2 h2 (Nat.le_refl _)
/-- n steps that neither branch on a number nor call -/
def itr : Nat → ASt → Option ASt
  | 0, s => some s
  | n + 1, s => match stp s with
    | some (.inl s') => itr n s'
    | _ => none
theorem T_run {d : Nat} {Q : ARs → Prop} : ∀ (n : Nat) {s : ASt} (s' : ASt), itr n s = some s' → T d Q s' → T d Q s := by
  intro n
  induction n with
  | zero => intro s s' h k; obtain rfl := Option.some.inj h; exact k
  | succ n ih =>
    intro s s' h k
    unfold itr at h
    cases hs : stp s with
    | none => rw [hs] at h; simp at h
    | some o =>
      rw [hs] at h
      cases o with
      | inl s1 => exact T_stp hs (ih s' h k)
      | inr o => simp at h
theorem T_br {d : Nat} {Q : ARs → Prop} {s : ASt} (c : Prop) [hd : Decidable c] (s1 s2 : ASt) (h : stp s = some (if c then .inl s1 else .inl s2)) (k1 : c → T d Q s1) (k2 : ¬ c → T d Q s2) : T d Q s := by
  by_cases hc : c
  · exact T_stp (by rw [h, if_pos hc]) (k1 hc)
  · exact T_stp (by rw [h, if_neg hc]) (k2 hc)
theorem T_gd {d : Nat} {Q : ARs → Prop} {s : ASt} (c : Prop) [hd : Decidable c] (s1 : ASt) (h : stp s = if c then none else some (.inl s1)) (hc : ¬ c) (k1 : T d Q s1) : T d Q s :=
  T_stp (by rw [h, if_neg hc]) k1
theorem T_gy {d : Nat} {Q : ARs → Prop} {s : ASt} (c : Prop) [hd : Decidable c] (s1 : ASt) (h : stp s = if c then some (.inl s1) else none) (hc : c) (k1 : T d Q s1) : T d Q s :=
  T_stp (by rw [h, if_pos hc]) k1
theorem T_rg {d : Nat} {Q : ARs → Prop} {s : ASt} (c : Prop) [hd : Decidable c] (r : ARs) (h : stp s = if c then some (.inr (.inl r)) else none) (hc : c) (k1 : Q r) : T d Q s :=
  T_ret (by rw [h, if_pos hc]) k1
theorem T_eq {d : Nat} {Q : ARs → Prop} {s s' : ASt} (h : s = s') (k : T d Q s') : T d Q s := h ▸ k
end
section
-- what must hold of a row of the tables
def a_pc (tb : List AEn) (j : Nat) : Nat := match tb[j]? with
  | some e => e.1
  | none => 0
def a_isN : Jvm.Cond → Bool
  | .fieldLinkNest .. => true
  | .methodLinkNest .. => true
  | _ => false
def GW : List Jvm.Cond := lw_tbl.filter goodWord
def a_snm (r : Nat) : String := if r = 1 then "STEP_SIGNS" else if r = 2 then "STEP_ROWS" else "STEP_COLUMNS"
def a_w (w : Nat) (c : Jvm.Cond) : Bool := decide (lw_tbl[w]? = some c)
def ok_fl (own : String) (idx w nest ci sl : Nat) : Bool := match classes[ci]? with
  | some q => decide (sl < q.2.2) && (decide ((q.2.1 sl).1 = q.1) && (if nest = 0 then a_w w (.fieldLink own idx q.1 (q.2.1 sl).2.1 (q.2.1 sl).2.2.1) else a_w w (.fieldLinkNest own idx q.1 (q.2.1 sl).2.1 (q.2.1 sl).2.2.1 "CornWay")))
  | none => false
def ok_pt (own : String) (ci sl ty fin : Nat) : Bool := match classes[ci]? with
  | some q => (if fin = 0 then decide ((q.2.1 sl).2.2.2 = false) else decide ((q.2.1 sl).2.2.2 = true) && decide (q.1 = own)) && (match parseFieldDescriptor (q.2.1 sl).2.2.1 with
    | some .int => ty == 0
    | some .boolean => ty == 1
    | some (.object _) => ty == 2
    | some (.array _) => ty == 2
    | _ => false)
  | none => false
def ok_ln (own : String) (idx w nest : Nat) (y : MethodName) : Bool := if nest = 0 then a_w w (.methodLink own idx y) else a_w w (.methodLinkNest own idx y "CornWay")
def ok_cl (mt : AMt) (wi wc n : Nat) : Bool := a_w wi (.initialized mt.1.cls) && (a_w wc (.code mt.1 mt.2.1 mt.2.2.1 mt.2.2.2.1) && decide ((parseMethodDescriptor mt.1.desc).map (fun d => d.parameters.length) = some n))
def ok_i (own : String) (nm : String) (tb : List AEn) (j pc : Nat) (ins : Instr) (len : Nat) (aux wx : List Nat) : Bool :=
  match ins with
  | .iconst n => len == 1 && (a_pc tb (j + 1) == pc + len && decide (Int32.ofInt n = a_cs aux))
  | .bipush n => len == 2 && (a_pc tb (j + 1) == pc + len && decide ((Int8.ofInt n).toInt32 = a_cs aux))
  | .sipush n => len == 3 && (a_pc tb (j + 1) == pc + len && decide ((Int16.ofInt n).toInt32 = a_cs aux))
  | .ldc i => len == 2 && (a_pc tb (j + 1) == pc + len && a_w (a_hd wx) (.constant own i (a_cs aux)))
  | .ldc_w i => len == 3 && (a_pc tb (j + 1) == pc + len && a_w (a_hd wx) (.constant own i (a_cs aux)))
  | .lconst n => len == 1 && (a_pc tb (j + 1) == pc + len && decide (n.val = a_hd aux))
  | .ldc2_w i => len == 3 && (a_pc tb (j + 1) == pc + len && a_w (a_hd wx) (.constantLong own i (lN (a_hd aux))))
  | .iload i => len == 2 && (a_pc tb (j + 1) == pc + len && i == a_hd aux)
  | .iload_n i => len == 1 && (a_pc tb (j + 1) == pc + len && i.val == a_hd aux)
  | .aload_n i => len == 1 && (a_pc tb (j + 1) == pc + len && i.val == a_hd aux)
  | .lload i => len == 2 && (a_pc tb (j + 1) == pc + len && i == a_hd aux)
  | .lload_n i => len == 1 && (a_pc tb (j + 1) == pc + len && i.val == a_hd aux)
  | .istore i => len == 2 && (a_pc tb (j + 1) == pc + len && i == a_hd aux)
  | .istore_n i => len == 1 && (a_pc tb (j + 1) == pc + len && i.val == a_hd aux)
  | .astore_n i => len == 1 && (a_pc tb (j + 1) == pc + len && i.val == a_hd aux)
  | .iinc i n => len == 3 && (a_pc tb (j + 1) == pc + len && (i == a_hd aux && decide (Int32.ofInt n = a_cs aux.tail)))
  | .goto off => len == 3 && decide ((pc : Int) + off = (a_pc tb (a_hd aux) : Int))
  | .ifCond _ off => len == 3 && (a_pc tb (j + 1) == pc + len && decide ((pc : Int) + off = (a_pc tb (a_hd aux) : Int)))
  | .if_icmp _ off => len == 3 && (a_pc tb (j + 1) == pc + len && decide ((pc : Int) + off = (a_pc tb (a_hd aux) : Int)))
  | .ifnonnull off => len == 3 && (a_pc tb (j + 1) == pc + len && decide ((pc : Int) + off = (a_pc tb (a_hd aux) : Int)))
  | .tableswitch dflt lo hi offs => decide (lo = 0) && (decide (hi = (aux.length : Int) - 2) && (decide ((pc : Int) + dflt = (a_pc tb (a_hd aux) : Int)) && (decide (2 ≤ aux.length) && (List.range (aux.length - 1)).all (fun i => match offs[i]? with
    | some o => decide ((pc : Int) + o = (a_pc tb (aux.getD (i + 1) 0) : Int))
    | none => false))))
  | .getfield i => len == 3 && (a_pc tb (j + 1) == pc + len && ok_fl own i (a_hd wx) (a_hd wx.tail) (a_hd aux) (a_hd aux.tail))
  | .putfield i => len == 3 && (a_pc tb (j + 1) == pc + len && (ok_fl own i (a_hd wx) (a_hd wx.tail) (a_hd aux) (a_hd aux.tail) && (ok_pt own (a_hd aux) (a_hd aux.tail) (a_hd aux.tail.tail) (a_hd wx.tail.tail) && (a_hd wx.tail.tail == 0 || (nm == "<init>" && a_hd wx.tail == 0)))))
  | .getstatic i => len == 3 && (a_pc tb (j + 1) == pc + len && (decide (0 < a_hd aux ∧ a_hd aux < 4) && (if a_hd wx.tail = 0 then a_w (a_hd wx) (.fieldLink own i "CornWay" (a_snm (a_hd aux)) "[I") else a_w (a_hd wx) (.fieldLinkNest own i "CornWay" (a_snm (a_hd aux)) "[I" "CornWay"))))
  | .new i => len == 3 && (a_pc tb (j + 1) == pc + len && (match classes[a_hd aux]? with
    | some q => a_w (a_hd wx) (.classLink own i q.1) && (a_w (a_hd wx.tail) (.instantiable q.1 q.2.2) && a_w (a_hd wx.tail.tail) (.initialized q.1))
    | none => false))
  | .newarray t => len == 2 && (a_pc tb (j + 1) == pc + len && (decide (a_hd aux.tail ≤ 2000000) && (match t with
    | .int => a_hd aux == 0 && a_w (a_hd wx) (.arrayClass .int)
    | .boolean => a_hd aux == 1 && a_w (a_hd wx) (.arrayClass .boolean)
    | _ => false)))
  | .anewarray i => len == 3 && (a_pc tb (j + 1) == pc + len && (decide (a_hd aux ≤ 2000000) && a_w (a_hd wx) (.classLink own i RX1)))
  | .invokevirtual i => len == 3 && (a_pc tb (j + 1) == pc + len && (match methods[a_hd aux]?, wx, classes[a_hd aux.tail.tail]? with
    | some mt, [w, nest, w2, w3, wi, wc], some q => ok_ln own i w nest mt.1 && (decide (q.1 = mt.1.cls) && (a_w w2 (.instanceMethod mt.1) && (a_w w3 (.selects mt.1.cls mt.1 mt.1) && ok_cl mt wi wc (a_hd aux.tail - 1))))
    | _, _, _ => false))
  | .invokestatic i => len == 3 && (a_pc tb (j + 1) == pc + len && (match aux, wx with
    | [c, n], [w, nest, w2, wi, wc] => (match methods[c]? with
      | some mt => ok_ln own i w nest mt.1 && (a_w w2 (.static mt.1) && ok_cl mt wi wc n)
      | none => false)
    | [_, _, t], [w, w2, w3, w4] => (match t with
      | 0 => a_w w (.methodLink own i Lib.Math.max.name) && (a_w w2 (.static Lib.Math.max.name) && (a_w w3 (.initialized "java/lang/Math") && a_w w4 (.code Lib.Math.max.name Lib.Math.max.code 2 (some .int))))
      | _ => a_w w (.methodLink own i Lib.Math.min.name) && (a_w w2 (.static Lib.Math.min.name) && (a_w w3 (.initialized "java/lang/Math") && a_w w4 (.code Lib.Math.min.name Lib.Math.min.code 2 (some .int)))))
    | [_], [w, w2, w3, w4] => a_w w (.methodLink own i arraycopyName) && (a_w w2 (.native arraycopyName) && (a_w w3 (.static arraycopyName) && a_w w4 (.initialized "java/lang/System")))
    | _, _ => false))
  | .invokespecial i => len == 3 && (a_pc tb (j + 1) == pc + len && (match aux, wx with
    | [c, n], [w, nest, w2, wi, wc] => (match methods[c]? with
      | some mt => ok_ln own i w nest mt.1 && (a_w w2 (.instanceMethod mt.1) && (decide (mt.1.name = "<init>") && (decide (mt.2.2.2.1 = none) && ok_cl mt wi wc (n - 1))))
      | none => false)
    | [_], [w, w2, w3] => a_w w (.methodLink own i objectInit) && (a_w w2 (.instanceMethod objectInit) && a_w w3 (.code objectInit ⟨#[0xb1]⟩ 1 none))
    | _, _ => false))
  | .ireturn => len == 1
  | .return_ => len == 1
  | _ => len == 1 && a_pc tb (j + 1) == pc + len
def ok_r (mt : AMt) (j : Nat) (e : AEn) : Bool := decide (decode mt.2.1 e.1 = .ok (e.2.1, e.2.2.1)) && ok_i mt.1.cls mt.1.name mt.2.2.2.2 j e.1 e.2.1 e.2.2.1 e.2.2.2.1 e.2.2.2.2
def ok_rs (mt : AMt) : Nat → List AEn → Bool
  | _, [] => true
  | j, e :: r => ok_r mt j e && ok_rs mt (j + 1) r
/-- what a method's returns give: a boolean, an int, nothing -/
def ok_rt (ret : Option FieldType) (e : AEn) : Bool := match e.2.1 with
  | .ireturn => match ret with
    | some .boolean => a_hd e.2.2.2.1 == 1
    | some .int => true
    | _ => false
  | .return_ => decide (ret = none)
  | _ => true
def ok_m (mt : AMt) : Bool := plainName mt.1.cls && (decide (mt.1.cls ≠ "java/lang/invoke/MethodHandle") && (decide (mt.1.cls ≠ "java/lang/invoke/VarHandle") && (decide (mt.2.2.1 ≤ 40) && (a_pc mt.2.2.2.2 0 == 0 && mt.2.2.2.2.all (ok_rt mt.2.2.2.1)))))
theorem ok_0 : ok_rs mt_0 0 tb_0 = true := by decide +kernel
theorem om_0 : ok_m mt_0 = true := by decide +kernel
theorem ok_1 : ok_rs mt_1 0 tb_1 = true := by decide +kernel
theorem om_1 : ok_m mt_1 = true := by decide +kernel
theorem ok_2 : ok_rs mt_2 0 tb_2 = true := by decide +kernel
theorem om_2 : ok_m mt_2 = true := by decide +kernel
theorem ok_3 : ok_rs mt_3 0 tb_3 = true := by decide +kernel
theorem om_3 : ok_m mt_3 = true := by decide +kernel
theorem ok_4 : ok_rs mt_4 0 tb_4 = true := by decide +kernel
theorem om_4 : ok_m mt_4 = true := by decide +kernel
theorem ok_5 : ok_rs mt_5 0 tb_5 = true := by decide +kernel
theorem om_5 : ok_m mt_5 = true := by decide +kernel
theorem ok_6 : ok_rs mt_6 0 tb_6 = true := by decide +kernel
theorem om_6 : ok_m mt_6 = true := by decide +kernel
theorem ok_7_0 : ok_rs mt_7 0 ((tb_7.drop 0).take 50) = true := by decide +kernel
theorem ok_7_50 : ok_rs mt_7 50 ((tb_7.drop 50).take 23) = true := by decide +kernel
theorem om_7 : ok_m mt_7 = true := by decide +kernel
theorem ok_8 : ok_rs mt_8 0 tb_8 = true := by decide +kernel
theorem om_8 : ok_m mt_8 = true := by decide +kernel
theorem ok_9 : ok_rs mt_9 0 tb_9 = true := by decide +kernel
theorem om_9 : ok_m mt_9 = true := by decide +kernel
theorem ok_10 : ok_rs mt_10 0 tb_10 = true := by decide +kernel
theorem om_10 : ok_m mt_10 = true := by decide +kernel
theorem ok_11 : ok_rs mt_11 0 tb_11 = true := by decide +kernel
theorem om_11 : ok_m mt_11 = true := by decide +kernel
theorem ok_12 : ok_rs mt_12 0 tb_12 = true := by decide +kernel
theorem om_12 : ok_m mt_12 = true := by decide +kernel
theorem ok_13 : ok_rs mt_13 0 tb_13 = true := by decide +kernel
theorem om_13 : ok_m mt_13 = true := by decide +kernel
theorem ok_14 : ok_rs mt_14 0 tb_14 = true := by decide +kernel
theorem om_14 : ok_m mt_14 = true := by decide +kernel
theorem ok_15 : ok_rs mt_15 0 tb_15 = true := by decide +kernel
theorem om_15 : ok_m mt_15 = true := by decide +kernel
theorem ok_16 : ok_rs mt_16 0 tb_16 = true := by decide +kernel
theorem om_16 : ok_m mt_16 = true := by decide +kernel
theorem ok_17 : ok_rs mt_17 0 tb_17 = true := by decide +kernel
theorem om_17 : ok_m mt_17 = true := by decide +kernel
theorem ok_18 : ok_rs mt_18 0 tb_18 = true := by decide +kernel
theorem om_18 : ok_m mt_18 = true := by decide +kernel
theorem ok_19 : ok_rs mt_19 0 tb_19 = true := by decide +kernel
theorem om_19 : ok_m mt_19 = true := by decide +kernel
theorem ok_20 : ok_rs mt_20 0 tb_20 = true := by decide +kernel
theorem om_20 : ok_m mt_20 = true := by decide +kernel
theorem ok_21 : ok_rs mt_21 0 tb_21 = true := by decide +kernel
theorem om_21 : ok_m mt_21 = true := by decide +kernel
theorem ok_22 : ok_rs mt_22 0 tb_22 = true := by decide +kernel
theorem om_22 : ok_m mt_22 = true := by decide +kernel
theorem ok_23 : ok_rs mt_23 0 tb_23 = true := by decide +kernel
theorem om_23 : ok_m mt_23 = true := by decide +kernel
theorem ok_24 : ok_rs mt_24 0 tb_24 = true := by decide +kernel
theorem om_24 : ok_m mt_24 = true := by decide +kernel
theorem ok_25 : ok_rs mt_25 0 tb_25 = true := by decide +kernel
theorem om_25 : ok_m mt_25 = true := by decide +kernel
theorem ok_26 : ok_rs mt_26 0 tb_26 = true := by decide +kernel
theorem om_26 : ok_m mt_26 = true := by decide +kernel
theorem ok_27 : ok_rs mt_27 0 tb_27 = true := by decide +kernel
theorem om_27 : ok_m mt_27 = true := by decide +kernel
theorem ok_28 : ok_rs mt_28 0 tb_28 = true := by decide +kernel
theorem om_28 : ok_m mt_28 = true := by decide +kernel
theorem ok_29 : ok_rs mt_29 0 tb_29 = true := by decide +kernel
theorem om_29 : ok_m mt_29 = true := by decide +kernel
theorem ok_30 : ok_rs mt_30 0 tb_30 = true := by decide +kernel
theorem om_30 : ok_m mt_30 = true := by decide +kernel
theorem ok_31_0 : ok_rs mt_31 0 ((tb_31.drop 0).take 50) = true := by decide +kernel
theorem ok_31_50 : ok_rs mt_31 50 ((tb_31.drop 50).take 33) = true := by decide +kernel
theorem om_31 : ok_m mt_31 = true := by decide +kernel
theorem ok_32 : ok_rs mt_32 0 tb_32 = true := by decide +kernel
theorem om_32 : ok_m mt_32 = true := by decide +kernel
theorem ok_33 : ok_rs mt_33 0 tb_33 = true := by decide +kernel
theorem om_33 : ok_m mt_33 = true := by decide +kernel
theorem ok_34 : ok_rs mt_34 0 tb_34 = true := by decide +kernel
theorem om_34 : ok_m mt_34 = true := by decide +kernel
theorem ok_35 : ok_rs mt_35 0 tb_35 = true := by decide +kernel
theorem om_35 : ok_m mt_35 = true := by decide +kernel
theorem ok_36 : ok_rs mt_36 0 tb_36 = true := by decide +kernel
theorem om_36 : ok_m mt_36 = true := by decide +kernel
theorem ok_37 : ok_rs mt_37 0 tb_37 = true := by decide +kernel
theorem om_37 : ok_m mt_37 = true := by decide +kernel
theorem ok_38 : ok_rs mt_38 0 tb_38 = true := by decide +kernel
theorem om_38 : ok_m mt_38 = true := by decide +kernel
theorem ok_39 : ok_rs mt_39 0 tb_39 = true := by decide +kernel
theorem om_39 : ok_m mt_39 = true := by decide +kernel
theorem ok_40 : ok_rs mt_40 0 tb_40 = true := by decide +kernel
theorem om_40 : ok_m mt_40 = true := by decide +kernel
theorem ok_41 : ok_rs mt_41 0 tb_41 = true := by decide +kernel
theorem om_41 : ok_m mt_41 = true := by decide +kernel
theorem ok_42 : ok_rs mt_42 0 tb_42 = true := by decide +kernel
theorem om_42 : ok_m mt_42 = true := by decide +kernel
theorem ok_43 : ok_rs mt_43 0 tb_43 = true := by decide +kernel
theorem om_43 : ok_m mt_43 = true := by decide +kernel
theorem ok_44 : ok_rs mt_44 0 tb_44 = true := by decide +kernel
theorem om_44 : ok_m mt_44 = true := by decide +kernel
theorem ok_45 : ok_rs mt_45 0 tb_45 = true := by decide +kernel
theorem om_45 : ok_m mt_45 = true := by decide +kernel
theorem ok_46_0 : ok_rs mt_46 0 ((tb_46.drop 0).take 50) = true := by decide +kernel
theorem ok_46_50 : ok_rs mt_46 50 ((tb_46.drop 50).take 25) = true := by decide +kernel
theorem om_46 : ok_m mt_46 = true := by decide +kernel
theorem ok_47 : ok_rs mt_47 0 tb_47 = true := by decide +kernel
theorem om_47 : ok_m mt_47 = true := by decide +kernel
theorem ok_48 : ok_rs mt_48 0 tb_48 = true := by decide +kernel
theorem om_48 : ok_m mt_48 = true := by decide +kernel
theorem ok_49 : ok_rs mt_49 0 tb_49 = true := by decide +kernel
theorem om_49 : ok_m mt_49 = true := by decide +kernel
theorem ok_50 : ok_rs mt_50 0 tb_50 = true := by decide +kernel
theorem om_50 : ok_m mt_50 = true := by decide +kernel
theorem ok_51 : ok_rs mt_51 0 tb_51 = true := by decide +kernel
theorem om_51 : ok_m mt_51 = true := by decide +kernel
theorem ok_52 : ok_rs mt_52 0 tb_52 = true := by decide +kernel
theorem om_52 : ok_m mt_52 = true := by decide +kernel
theorem ok_53 : ok_rs mt_53 0 tb_53 = true := by decide +kernel
theorem om_53 : ok_m mt_53 = true := by decide +kernel
theorem ok_54 : ok_rs mt_54 0 tb_54 = true := by decide +kernel
theorem om_54 : ok_m mt_54 = true := by decide +kernel
theorem ok_55 : ok_rs mt_55 0 tb_55 = true := by decide +kernel
theorem om_55 : ok_m mt_55 = true := by decide +kernel
theorem ok_56 : ok_rs mt_56 0 tb_56 = true := by decide +kernel
theorem om_56 : ok_m mt_56 = true := by decide +kernel
theorem ok_57_0 : ok_rs mt_57 0 ((tb_57.drop 0).take 50) = true := by decide +kernel
theorem ok_57_50 : ok_rs mt_57 50 ((tb_57.drop 50).take 15) = true := by decide +kernel
theorem om_57 : ok_m mt_57 = true := by decide +kernel
theorem ok_58 : ok_rs mt_58 0 tb_58 = true := by decide +kernel
theorem om_58 : ok_m mt_58 = true := by decide +kernel
theorem ok_59 : ok_rs mt_59 0 tb_59 = true := by decide +kernel
theorem om_59 : ok_m mt_59 = true := by decide +kernel
theorem ok_60 : ok_rs mt_60 0 tb_60 = true := by decide +kernel
theorem om_60 : ok_m mt_60 = true := by decide +kernel
theorem ok_61 : ok_rs mt_61 0 tb_61 = true := by decide +kernel
theorem om_61 : ok_m mt_61 = true := by decide +kernel
theorem ok_62 : ok_rs mt_62 0 tb_62 = true := by decide +kernel
theorem om_62 : ok_m mt_62 = true := by decide +kernel
theorem ok_63 : ok_rs mt_63 0 tb_63 = true := by decide +kernel
theorem om_63 : ok_m mt_63 = true := by decide +kernel
theorem ok_64 : ok_rs mt_64 0 tb_64 = true := by decide +kernel
theorem om_64 : ok_m mt_64 = true := by decide +kernel
theorem ok_65 : ok_rs mt_65 0 tb_65 = true := by decide +kernel
theorem om_65 : ok_m mt_65 = true := by decide +kernel
theorem ok_66 : ok_rs mt_66 0 tb_66 = true := by decide +kernel
theorem om_66 : ok_m mt_66 = true := by decide +kernel
theorem ok_67_0 : ok_rs mt_67 0 ((tb_67.drop 0).take 50) = true := by decide +kernel
theorem ok_67_50 : ok_rs mt_67 50 ((tb_67.drop 50).take 28) = true := by decide +kernel
theorem om_67 : ok_m mt_67 = true := by decide +kernel
theorem ok_68 : ok_rs mt_68 0 tb_68 = true := by decide +kernel
theorem om_68 : ok_m mt_68 = true := by decide +kernel
theorem ok_69 : ok_rs mt_69 0 tb_69 = true := by decide +kernel
theorem om_69 : ok_m mt_69 = true := by decide +kernel
theorem ok_70_0 : ok_rs mt_70 0 ((tb_70.drop 0).take 50) = true := by decide +kernel
theorem ok_70_50 : ok_rs mt_70 50 ((tb_70.drop 50).take 21) = true := by decide +kernel
theorem om_70 : ok_m mt_70 = true := by decide +kernel
theorem ok_71_0 : ok_rs mt_71 0 ((tb_71.drop 0).take 50) = true := by decide +kernel
theorem ok_71_50 : ok_rs mt_71 50 ((tb_71.drop 50).take 16) = true := by decide +kernel
theorem om_71 : ok_m mt_71 = true := by decide +kernel
theorem ok_72 : ok_rs mt_72 0 tb_72 = true := by decide +kernel
theorem om_72 : ok_m mt_72 = true := by decide +kernel
theorem ok_73 : ok_rs mt_73 0 tb_73 = true := by decide +kernel
theorem om_73 : ok_m mt_73 = true := by decide +kernel
theorem ok_74 : ok_rs mt_74 0 tb_74 = true := by decide +kernel
theorem om_74 : ok_m mt_74 = true := by decide +kernel
theorem ok_75 : ok_rs mt_75 0 tb_75 = true := by decide +kernel
theorem om_75 : ok_m mt_75 = true := by decide +kernel
theorem ok_76 : ok_rs mt_76 0 tb_76 = true := by decide +kernel
theorem om_76 : ok_m mt_76 = true := by decide +kernel
theorem ok_77 : ok_rs mt_77 0 tb_77 = true := by decide +kernel
theorem om_77 : ok_m mt_77 = true := by decide +kernel
theorem ok_78 : ok_rs mt_78 0 tb_78 = true := by decide +kernel
theorem om_78 : ok_m mt_78 = true := by decide +kernel
theorem ok_79 : ok_rs mt_79 0 tb_79 = true := by decide +kernel
theorem om_79 : ok_m mt_79 = true := by decide +kernel
theorem ok_80 : ok_rs mt_80 0 tb_80 = true := by decide +kernel
theorem om_80 : ok_m mt_80 = true := by decide +kernel
theorem ok_81 : ok_rs mt_81 0 tb_81 = true := by decide +kernel
theorem om_81 : ok_m mt_81 = true := by decide +kernel
theorem ok_82 : ok_rs mt_82 0 tb_82 = true := by decide +kernel
theorem om_82 : ok_m mt_82 = true := by decide +kernel
theorem ok_83 : ok_rs mt_83 0 tb_83 = true := by decide +kernel
theorem om_83 : ok_m mt_83 = true := by decide +kernel
theorem ok_84 : ok_rs mt_84 0 tb_84 = true := by decide +kernel
theorem om_84 : ok_m mt_84 = true := by decide +kernel
theorem ok_85 : ok_rs mt_85 0 tb_85 = true := by decide +kernel
theorem om_85 : ok_m mt_85 = true := by decide +kernel
theorem ok_86 : ok_rs mt_86 0 tb_86 = true := by decide +kernel
theorem om_86 : ok_m mt_86 = true := by decide +kernel
theorem ok_87 : ok_rs mt_87 0 tb_87 = true := by decide +kernel
theorem om_87 : ok_m mt_87 = true := by decide +kernel
theorem ok_88_0 : ok_rs mt_88 0 ((tb_88.drop 0).take 50) = true := by decide +kernel
theorem ok_88_50 : ok_rs mt_88 50 ((tb_88.drop 50).take 16) = true := by decide +kernel
theorem om_88 : ok_m mt_88 = true := by decide +kernel
theorem ok_89 : ok_rs mt_89 0 tb_89 = true := by decide +kernel
theorem om_89 : ok_m mt_89 = true := by decide +kernel
theorem ok_90 : ok_rs mt_90 0 tb_90 = true := by decide +kernel
theorem om_90 : ok_m mt_90 = true := by decide +kernel
theorem ok_91 : ok_rs mt_91 0 tb_91 = true := by decide +kernel
theorem om_91 : ok_m mt_91 = true := by decide +kernel
theorem ok_92_0 : ok_rs mt_92 0 ((tb_92.drop 0).take 50) = true := by decide +kernel
theorem ok_92_50 : ok_rs mt_92 50 ((tb_92.drop 50).take 12) = true := by decide +kernel
theorem om_92 : ok_m mt_92 = true := by decide +kernel
theorem ok_93 : ok_rs mt_93 0 tb_93 = true := by decide +kernel
theorem om_93 : ok_m mt_93 = true := by decide +kernel
theorem ok_94 : ok_rs mt_94 0 tb_94 = true := by decide +kernel
theorem om_94 : ok_m mt_94 = true := by decide +kernel
theorem ok_95 : ok_rs mt_95 0 tb_95 = true := by decide +kernel
theorem om_95 : ok_m mt_95 = true := by decide +kernel
theorem ok_96_0 : ok_rs mt_96 0 ((tb_96.drop 0).take 50) = true := by decide +kernel
theorem ok_96_50 : ok_rs mt_96 50 ((tb_96.drop 50).take 49) = true := by decide +kernel
theorem om_96 : ok_m mt_96 = true := by decide +kernel
theorem ok_97 : ok_rs mt_97 0 tb_97 = true := by decide +kernel
theorem om_97 : ok_m mt_97 = true := by decide +kernel
theorem ok_98 : ok_rs mt_98 0 tb_98 = true := by decide +kernel
theorem om_98 : ok_m mt_98 = true := by decide +kernel
theorem ok_99 : ok_rs mt_99 0 tb_99 = true := by decide +kernel
theorem om_99 : ok_m mt_99 = true := by decide +kernel
theorem ok_100_0 : ok_rs mt_100 0 ((tb_100.drop 0).take 50) = true := by decide +kernel
theorem ok_100_50 : ok_rs mt_100 50 ((tb_100.drop 50).take 16) = true := by decide +kernel
theorem om_100 : ok_m mt_100 = true := by decide +kernel
theorem ok_101 : ok_rs mt_101 0 tb_101 = true := by decide +kernel
theorem om_101 : ok_m mt_101 = true := by decide +kernel
theorem ok_102_0 : ok_rs mt_102 0 ((tb_102.drop 0).take 50) = true := by decide +kernel
theorem ok_102_50 : ok_rs mt_102 50 ((tb_102.drop 50).take 27) = true := by decide +kernel
theorem om_102 : ok_m mt_102 = true := by decide +kernel
theorem ok_103_0 : ok_rs mt_103 0 ((tb_103.drop 0).take 50) = true := by decide +kernel
theorem ok_103_50 : ok_rs mt_103 50 ((tb_103.drop 50).take 38) = true := by decide +kernel
theorem om_103 : ok_m mt_103 = true := by decide +kernel
theorem ok_104_0 : ok_rs mt_104 0 ((tb_104.drop 0).take 50) = true := by decide +kernel
theorem ok_104_50 : ok_rs mt_104 50 ((tb_104.drop 50).take 42) = true := by decide +kernel
theorem om_104 : ok_m mt_104 = true := by decide +kernel
theorem ok_105 : ok_rs mt_105 0 tb_105 = true := by decide +kernel
theorem om_105 : ok_m mt_105 = true := by decide +kernel
theorem ok_106_0 : ok_rs mt_106 0 ((tb_106.drop 0).take 50) = true := by decide +kernel
theorem ok_106_50 : ok_rs mt_106 50 ((tb_106.drop 50).take 50) = true := by decide +kernel
theorem om_106 : ok_m mt_106 = true := by decide +kernel
theorem ok_107_0 : ok_rs mt_107 0 ((tb_107.drop 0).take 50) = true := by decide +kernel
theorem ok_107_50 : ok_rs mt_107 50 ((tb_107.drop 50).take 42) = true := by decide +kernel
theorem om_107 : ok_m mt_107 = true := by decide +kernel
theorem ok_108 : ok_rs mt_108 0 tb_108 = true := by decide +kernel
theorem om_108 : ok_m mt_108 = true := by decide +kernel
theorem ok_109 : ok_rs mt_109 0 tb_109 = true := by decide +kernel
theorem om_109 : ok_m mt_109 = true := by decide +kernel
theorem ok_110_0 : ok_rs mt_110 0 ((tb_110.drop 0).take 50) = true := by decide +kernel
theorem ok_110_50 : ok_rs mt_110 50 ((tb_110.drop 50).take 16) = true := by decide +kernel
theorem om_110 : ok_m mt_110 = true := by decide +kernel
theorem ok_111 : ok_rs mt_111 0 tb_111 = true := by decide +kernel
theorem om_111 : ok_m mt_111 = true := by decide +kernel
theorem ok_112 : ok_rs mt_112 0 tb_112 = true := by decide +kernel
theorem om_112 : ok_m mt_112 = true := by decide +kernel
theorem ok_113 : ok_rs mt_113 0 tb_113 = true := by decide +kernel
theorem om_113 : ok_m mt_113 = true := by decide +kernel
theorem ok_114 : ok_rs mt_114 0 tb_114 = true := by decide +kernel
theorem om_114 : ok_m mt_114 = true := by decide +kernel
theorem ok_115_0 : ok_rs mt_115 0 ((tb_115.drop 0).take 50) = true := by decide +kernel
theorem ok_115_50 : ok_rs mt_115 50 ((tb_115.drop 50).take 42) = true := by decide +kernel
theorem om_115 : ok_m mt_115 = true := by decide +kernel
theorem ok_116_0 : ok_rs mt_116 0 ((tb_116.drop 0).take 50) = true := by decide +kernel
theorem ok_116_50 : ok_rs mt_116 50 ((tb_116.drop 50).take 50) = true := by decide +kernel
theorem ok_116_100 : ok_rs mt_116 100 ((tb_116.drop 100).take 12) = true := by decide +kernel
theorem om_116 : ok_m mt_116 = true := by decide +kernel
theorem ok_117 : ok_rs mt_117 0 tb_117 = true := by decide +kernel
theorem om_117 : ok_m mt_117 = true := by decide +kernel
theorem ok_118 : ok_rs mt_118 0 tb_118 = true := by decide +kernel
theorem om_118 : ok_m mt_118 = true := by decide +kernel
theorem ok_119_0 : ok_rs mt_119 0 ((tb_119.drop 0).take 50) = true := by decide +kernel
theorem ok_119_50 : ok_rs mt_119 50 ((tb_119.drop 50).take 11) = true := by decide +kernel
theorem om_119 : ok_m mt_119 = true := by decide +kernel
theorem ok_120 : ok_rs mt_120 0 tb_120 = true := by decide +kernel
theorem om_120 : ok_m mt_120 = true := by decide +kernel
theorem ok_121_0 : ok_rs mt_121 0 ((tb_121.drop 0).take 50) = true := by decide +kernel
theorem ok_121_50 : ok_rs mt_121 50 ((tb_121.drop 50).take 22) = true := by decide +kernel
theorem om_121 : ok_m mt_121 = true := by decide +kernel
theorem ok_122_0 : ok_rs mt_122 0 ((tb_122.drop 0).take 50) = true := by decide +kernel
theorem ok_122_50 : ok_rs mt_122 50 ((tb_122.drop 50).take 50) = true := by decide +kernel
theorem ok_122_100 : ok_rs mt_122 100 ((tb_122.drop 100).take 8) = true := by decide +kernel
theorem om_122 : ok_m mt_122 = true := by decide +kernel
theorem ok_123 : ok_rs mt_123 0 tb_123 = true := by decide +kernel
theorem om_123 : ok_m mt_123 = true := by decide +kernel
theorem ok_124 : ok_rs mt_124 0 tb_124 = true := by decide +kernel
theorem om_124 : ok_m mt_124 = true := by decide +kernel
theorem ok_125 : ok_rs mt_125 0 tb_125 = true := by decide +kernel
theorem om_125 : ok_m mt_125 = true := by decide +kernel
theorem ok_126 : ok_rs mt_126 0 tb_126 = true := by decide +kernel
theorem om_126 : ok_m mt_126 = true := by decide +kernel
theorem ok_127 : ok_rs mt_127 0 tb_127 = true := by decide +kernel
theorem om_127 : ok_m mt_127 = true := by decide +kernel
theorem ok_128_0 : ok_rs mt_128 0 ((tb_128.drop 0).take 50) = true := by decide +kernel
theorem ok_128_50 : ok_rs mt_128 50 ((tb_128.drop 50).take 50) = true := by decide +kernel
theorem ok_128_100 : ok_rs mt_128 100 ((tb_128.drop 100).take 50) = true := by decide +kernel
theorem ok_128_150 : ok_rs mt_128 150 ((tb_128.drop 150).take 50) = true := by decide +kernel
theorem ok_128_200 : ok_rs mt_128 200 ((tb_128.drop 200).take 50) = true := by decide +kernel
theorem ok_128_250 : ok_rs mt_128 250 ((tb_128.drop 250).take 50) = true := by decide +kernel
theorem ok_128_300 : ok_rs mt_128 300 ((tb_128.drop 300).take 50) = true := by decide +kernel
theorem ok_128_350 : ok_rs mt_128 350 ((tb_128.drop 350).take 50) = true := by decide +kernel
theorem ok_128_400 : ok_rs mt_128 400 ((tb_128.drop 400).take 4) = true := by decide +kernel
theorem om_128 : ok_m mt_128 = true := by decide +kernel
theorem ok_rs_at {mt : AMt} : ∀ {l : List AEn} {j0 : Nat}, ok_rs mt j0 l = true → ∀ {i : Nat} {e : AEn}, l[i]? = some e → ok_r mt (j0 + i) e = true
  | [], _, _, _, _, h => by simp at h
  | x :: l, j0, hk, i, e, h => by
    simp only [ok_rs, Bool.and_eq_true] at hk
    cases i with
    | zero => simp at h; subst h; exact hk.1
    | succ i =>
      have := ok_rs_at (l := l) (j0 := j0 + 1) hk.2 (i := i) (e := e) (by simpa using h)
      rw [show j0 + (i + 1) = j0 + 1 + i by omega]
      exact this
theorem ok_rs_app {mt : AMt} : ∀ {a b : List AEn} {j0 : Nat}, ok_rs mt j0 a = true → ok_rs mt (j0 + a.length) b = true → ok_rs mt j0 (a ++ b) = true
  | [], b, j0, _, h => by simpa using h
  | x :: a, b, j0, h1, h2 => by
    simp only [ok_rs, Bool.and_eq_true, List.cons_append] at h1 ⊢
    exact ⟨h1.1, ok_rs_app (a := a) h1.2 (by rw [show j0 + 1 + a.length = j0 + (x :: a).length by simp; omega]; exact h2)⟩
set_option maxRecDepth 100000 in
theorem ok_7 : ok_rs mt_7 0 tb_7 = true := by
  have h : ok_rs mt_7 0 (((tb_7.drop 0).take 50) ++ (((tb_7.drop 50).take 23))) = true := ok_rs_app (a := ((tb_7.drop 0).take 50)) ok_7_0 (ok_7_50)
  exact h
set_option maxRecDepth 100000 in
theorem ok_31 : ok_rs mt_31 0 tb_31 = true := by
  have h : ok_rs mt_31 0 (((tb_31.drop 0).take 50) ++ (((tb_31.drop 50).take 33))) = true := ok_rs_app (a := ((tb_31.drop 0).take 50)) ok_31_0 (ok_31_50)
  exact h
set_option maxRecDepth 100000 in
theorem ok_46 : ok_rs mt_46 0 tb_46 = true := by
  have h : ok_rs mt_46 0 (((tb_46.drop 0).take 50) ++ (((tb_46.drop 50).take 25))) = true := ok_rs_app (a := ((tb_46.drop 0).take 50)) ok_46_0 (ok_46_50)
  exact h
set_option maxRecDepth 100000 in
theorem ok_57 : ok_rs mt_57 0 tb_57 = true := by
  have h : ok_rs mt_57 0 (((tb_57.drop 0).take 50) ++ (((tb_57.drop 50).take 15))) = true := ok_rs_app (a := ((tb_57.drop 0).take 50)) ok_57_0 (ok_57_50)
  exact h
set_option maxRecDepth 100000 in
theorem ok_67 : ok_rs mt_67 0 tb_67 = true := by
  have h : ok_rs mt_67 0 (((tb_67.drop 0).take 50) ++ (((tb_67.drop 50).take 28))) = true := ok_rs_app (a := ((tb_67.drop 0).take 50)) ok_67_0 (ok_67_50)
  exact h
set_option maxRecDepth 100000 in
theorem ok_70 : ok_rs mt_70 0 tb_70 = true := by
  have h : ok_rs mt_70 0 (((tb_70.drop 0).take 50) ++ (((tb_70.drop 50).take 21))) = true := ok_rs_app (a := ((tb_70.drop 0).take 50)) ok_70_0 (ok_70_50)
  exact h
set_option maxRecDepth 100000 in
theorem ok_71 : ok_rs mt_71 0 tb_71 = true := by
  have h : ok_rs mt_71 0 (((tb_71.drop 0).take 50) ++ (((tb_71.drop 50).take 16))) = true := ok_rs_app (a := ((tb_71.drop 0).take 50)) ok_71_0 (ok_71_50)
  exact h
set_option maxRecDepth 100000 in
theorem ok_88 : ok_rs mt_88 0 tb_88 = true := by
  have h : ok_rs mt_88 0 (((tb_88.drop 0).take 50) ++ (((tb_88.drop 50).take 16))) = true := ok_rs_app (a := ((tb_88.drop 0).take 50)) ok_88_0 (ok_88_50)
  exact h
set_option maxRecDepth 100000 in
theorem ok_92 : ok_rs mt_92 0 tb_92 = true := by
  have h : ok_rs mt_92 0 (((tb_92.drop 0).take 50) ++ (((tb_92.drop 50).take 12))) = true := ok_rs_app (a := ((tb_92.drop 0).take 50)) ok_92_0 (ok_92_50)
  exact h
set_option maxRecDepth 100000 in
theorem ok_96 : ok_rs mt_96 0 tb_96 = true := by
  have h : ok_rs mt_96 0 (((tb_96.drop 0).take 50) ++ (((tb_96.drop 50).take 49))) = true := ok_rs_app (a := ((tb_96.drop 0).take 50)) ok_96_0 (ok_96_50)
  exact h
set_option maxRecDepth 100000 in
theorem ok_100 : ok_rs mt_100 0 tb_100 = true := by
  have h : ok_rs mt_100 0 (((tb_100.drop 0).take 50) ++ (((tb_100.drop 50).take 16))) = true := ok_rs_app (a := ((tb_100.drop 0).take 50)) ok_100_0 (ok_100_50)
  exact h
set_option maxRecDepth 100000 in
theorem ok_102 : ok_rs mt_102 0 tb_102 = true := by
  have h : ok_rs mt_102 0 (((tb_102.drop 0).take 50) ++ (((tb_102.drop 50).take 27))) = true := ok_rs_app (a := ((tb_102.drop 0).take 50)) ok_102_0 (ok_102_50)
  exact h
set_option maxRecDepth 100000 in
theorem ok_103 : ok_rs mt_103 0 tb_103 = true := by
  have h : ok_rs mt_103 0 (((tb_103.drop 0).take 50) ++ (((tb_103.drop 50).take 38))) = true := ok_rs_app (a := ((tb_103.drop 0).take 50)) ok_103_0 (ok_103_50)
  exact h
set_option maxRecDepth 100000 in
theorem ok_104 : ok_rs mt_104 0 tb_104 = true := by
  have h : ok_rs mt_104 0 (((tb_104.drop 0).take 50) ++ (((tb_104.drop 50).take 42))) = true := ok_rs_app (a := ((tb_104.drop 0).take 50)) ok_104_0 (ok_104_50)
  exact h
set_option maxRecDepth 100000 in
theorem ok_106 : ok_rs mt_106 0 tb_106 = true := by
  have h : ok_rs mt_106 0 (((tb_106.drop 0).take 50) ++ (((tb_106.drop 50).take 50))) = true := ok_rs_app (a := ((tb_106.drop 0).take 50)) ok_106_0 (ok_106_50)
  exact h
set_option maxRecDepth 100000 in
theorem ok_107 : ok_rs mt_107 0 tb_107 = true := by
  have h : ok_rs mt_107 0 (((tb_107.drop 0).take 50) ++ (((tb_107.drop 50).take 42))) = true := ok_rs_app (a := ((tb_107.drop 0).take 50)) ok_107_0 (ok_107_50)
  exact h
set_option maxRecDepth 100000 in
theorem ok_110 : ok_rs mt_110 0 tb_110 = true := by
  have h : ok_rs mt_110 0 (((tb_110.drop 0).take 50) ++ (((tb_110.drop 50).take 16))) = true := ok_rs_app (a := ((tb_110.drop 0).take 50)) ok_110_0 (ok_110_50)
  exact h
set_option maxRecDepth 100000 in
theorem ok_115 : ok_rs mt_115 0 tb_115 = true := by
  have h : ok_rs mt_115 0 (((tb_115.drop 0).take 50) ++ (((tb_115.drop 50).take 42))) = true := ok_rs_app (a := ((tb_115.drop 0).take 50)) ok_115_0 (ok_115_50)
  exact h
set_option maxRecDepth 100000 in
theorem ok_116 : ok_rs mt_116 0 tb_116 = true := by
  have h : ok_rs mt_116 0 (((tb_116.drop 0).take 50) ++ (((tb_116.drop 50).take 50) ++ (((tb_116.drop 100).take 12)))) = true := ok_rs_app (a := ((tb_116.drop 0).take 50)) ok_116_0 (ok_rs_app (a := ((tb_116.drop 50).take 50)) ok_116_50 (ok_116_100))
  exact h
set_option maxRecDepth 100000 in
theorem ok_119 : ok_rs mt_119 0 tb_119 = true := by
  have h : ok_rs mt_119 0 (((tb_119.drop 0).take 50) ++ (((tb_119.drop 50).take 11))) = true := ok_rs_app (a := ((tb_119.drop 0).take 50)) ok_119_0 (ok_119_50)
  exact h
set_option maxRecDepth 100000 in
theorem ok_121 : ok_rs mt_121 0 tb_121 = true := by
  have h : ok_rs mt_121 0 (((tb_121.drop 0).take 50) ++ (((tb_121.drop 50).take 22))) = true := ok_rs_app (a := ((tb_121.drop 0).take 50)) ok_121_0 (ok_121_50)
  exact h
set_option maxRecDepth 100000 in
theorem ok_122 : ok_rs mt_122 0 tb_122 = true := by
  have h : ok_rs mt_122 0 (((tb_122.drop 0).take 50) ++ (((tb_122.drop 50).take 50) ++ (((tb_122.drop 100).take 8)))) = true := ok_rs_app (a := ((tb_122.drop 0).take 50)) ok_122_0 (ok_rs_app (a := ((tb_122.drop 50).take 50)) ok_122_50 (ok_122_100))
  exact h
set_option maxRecDepth 100000 in
theorem ok_128 : ok_rs mt_128 0 tb_128 = true := by
  have h : ok_rs mt_128 0 (((tb_128.drop 0).take 50) ++ (((tb_128.drop 50).take 50) ++ (((tb_128.drop 100).take 50) ++ (((tb_128.drop 150).take 50) ++ (((tb_128.drop 200).take 50) ++ (((tb_128.drop 250).take 50) ++ (((tb_128.drop 300).take 50) ++ (((tb_128.drop 350).take 50) ++ (((tb_128.drop 400).take 4)))))))))) = true := ok_rs_app (a := ((tb_128.drop 0).take 50)) ok_128_0 (ok_rs_app (a := ((tb_128.drop 50).take 50)) ok_128_50 (ok_rs_app (a := ((tb_128.drop 100).take 50)) ok_128_100 (ok_rs_app (a := ((tb_128.drop 150).take 50)) ok_128_150 (ok_rs_app (a := ((tb_128.drop 200).take 50)) ok_128_200 (ok_rs_app (a := ((tb_128.drop 250).take 50)) ok_128_250 (ok_rs_app (a := ((tb_128.drop 300).take 50)) ok_128_300 (ok_rs_app (a := ((tb_128.drop 350).take 50)) ok_128_350 (ok_128_400))))))))
  exact h
theorem ok_all : ∀ mt ∈ methods, ok_rs mt 0 mt.2.2.2.2 = true ∧ ok_m mt = true := by
  unfold methods
  simp only [List.forall_mem_cons]
  exact ⟨⟨ok_0, om_0⟩, ⟨ok_1, om_1⟩, ⟨ok_2, om_2⟩, ⟨ok_3, om_3⟩, ⟨ok_4, om_4⟩, ⟨ok_5, om_5⟩, ⟨ok_6, om_6⟩, ⟨ok_7, om_7⟩, ⟨ok_8, om_8⟩, ⟨ok_9, om_9⟩, ⟨ok_10, om_10⟩, ⟨ok_11, om_11⟩, ⟨ok_12, om_12⟩, ⟨ok_13, om_13⟩, ⟨ok_14, om_14⟩, ⟨ok_15, om_15⟩, ⟨ok_16, om_16⟩, ⟨ok_17, om_17⟩, ⟨ok_18, om_18⟩, ⟨ok_19, om_19⟩, ⟨ok_20, om_20⟩, ⟨ok_21, om_21⟩, ⟨ok_22, om_22⟩, ⟨ok_23, om_23⟩, ⟨ok_24, om_24⟩, ⟨ok_25, om_25⟩, ⟨ok_26, om_26⟩, ⟨ok_27, om_27⟩, ⟨ok_28, om_28⟩, ⟨ok_29, om_29⟩, ⟨ok_30, om_30⟩, ⟨ok_31, om_31⟩, ⟨ok_32, om_32⟩, ⟨ok_33, om_33⟩, ⟨ok_34, om_34⟩, ⟨ok_35, om_35⟩, ⟨ok_36, om_36⟩, ⟨ok_37, om_37⟩, ⟨ok_38, om_38⟩, ⟨ok_39, om_39⟩, ⟨ok_40, om_40⟩, ⟨ok_41, om_41⟩, ⟨ok_42, om_42⟩, ⟨ok_43, om_43⟩, ⟨ok_44, om_44⟩, ⟨ok_45, om_45⟩, ⟨ok_46, om_46⟩, ⟨ok_47, om_47⟩, ⟨ok_48, om_48⟩, ⟨ok_49, om_49⟩, ⟨ok_50, om_50⟩, ⟨ok_51, om_51⟩, ⟨ok_52, om_52⟩, ⟨ok_53, om_53⟩, ⟨ok_54, om_54⟩, ⟨ok_55, om_55⟩, ⟨ok_56, om_56⟩, ⟨ok_57, om_57⟩, ⟨ok_58, om_58⟩, ⟨ok_59, om_59⟩, ⟨ok_60, om_60⟩, ⟨ok_61, om_61⟩, ⟨ok_62, om_62⟩, ⟨ok_63, om_63⟩, ⟨ok_64, om_64⟩, ⟨ok_65, om_65⟩, ⟨ok_66, om_66⟩, ⟨ok_67, om_67⟩, ⟨ok_68, om_68⟩, ⟨ok_69, om_69⟩, ⟨ok_70, om_70⟩, ⟨ok_71, om_71⟩, ⟨ok_72, om_72⟩, ⟨ok_73, om_73⟩, ⟨ok_74, om_74⟩, ⟨ok_75, om_75⟩, ⟨ok_76, om_76⟩, ⟨ok_77, om_77⟩, ⟨ok_78, om_78⟩, ⟨ok_79, om_79⟩, ⟨ok_80, om_80⟩, ⟨ok_81, om_81⟩, ⟨ok_82, om_82⟩, ⟨ok_83, om_83⟩, ⟨ok_84, om_84⟩, ⟨ok_85, om_85⟩, ⟨ok_86, om_86⟩, ⟨ok_87, om_87⟩, ⟨ok_88, om_88⟩, ⟨ok_89, om_89⟩, ⟨ok_90, om_90⟩, ⟨ok_91, om_91⟩, ⟨ok_92, om_92⟩, ⟨ok_93, om_93⟩, ⟨ok_94, om_94⟩, ⟨ok_95, om_95⟩, ⟨ok_96, om_96⟩, ⟨ok_97, om_97⟩, ⟨ok_98, om_98⟩, ⟨ok_99, om_99⟩, ⟨ok_100, om_100⟩, ⟨ok_101, om_101⟩, ⟨ok_102, om_102⟩, ⟨ok_103, om_103⟩, ⟨ok_104, om_104⟩, ⟨ok_105, om_105⟩, ⟨ok_106, om_106⟩, ⟨ok_107, om_107⟩, ⟨ok_108, om_108⟩, ⟨ok_109, om_109⟩, ⟨ok_110, om_110⟩, ⟨ok_111, om_111⟩, ⟨ok_112, om_112⟩, ⟨ok_113, om_113⟩, ⟨ok_114, om_114⟩, ⟨ok_115, om_115⟩, ⟨ok_116, om_116⟩, ⟨ok_117, om_117⟩, ⟨ok_118, om_118⟩, ⟨ok_119, om_119⟩, ⟨ok_120, om_120⟩, ⟨ok_121, om_121⟩, ⟨ok_122, om_122⟩, ⟨ok_123, om_123⟩, ⟨ok_124, om_124⟩, ⟨ok_125, om_125⟩, ⟨ok_126, om_126⟩, ⟨ok_127, om_127⟩, ⟨ok_128, om_128⟩, fun _ h => absurd h List.not_mem_nil⟩
theorem ok_row {k j : Nat} {mt : AMt} {e : AEn} (hk : methods[k]? = some mt) (hj : mt.2.2.2.2[j]? = some e) : decode mt.2.1 e.1 = .ok (e.2.1, e.2.2.1) ∧ ok_i mt.1.cls mt.1.name mt.2.2.2.2 j e.1 e.2.1 e.2.2.1 e.2.2.2.1 e.2.2.2.2 = true := by
  have h := ok_rs_at (ok_all mt (List.mem_of_getElem? hk)).1 hj
  rw [Nat.zero_add] at h
  simp only [ok_r, Bool.and_eq_true, decide_eq_true_eq] at h
  exact h
theorem cw_0 : (u_ws RX0 TX0 3).all (fun w => decide (w ∈ GW)) = true := by decide +kernel
theorem cw_1 : (u_ws RX1 TX1 9).all (fun w => decide (w ∈ GW)) = true := by decide +kernel
theorem cw_2 : (u_ws RX2 TX2 5).all (fun w => decide (w ∈ GW)) = true := by decide +kernel
theorem cw_3 : (u_ws RX3 TX3 9).all (fun w => decide (w ∈ GW)) = true := by decide +kernel
theorem cw_4 : (u_ws RX4 TX4 18).all (fun w => decide (w ∈ GW)) = true := by decide +kernel
theorem cw_5 : (u_ws RX5 TX5 21).all (fun w => decide (w ∈ GW)) = true := by decide +kernel
theorem cw_all : ∀ (ci : Nat) (q : vw_C), classes[ci]? = some q → (∀ w ∈ u_ws q.1 q.2.1 q.2.2, w ∈ GW) ∧ ∃ ty0 : Nat → FieldType, (∀ k, k < q.2.2 → parseFieldDescriptor (q.2.1 k).2.2.1 = some (ty0 k)) ∧ ∀ a, a < q.2.2 → ∀ b, b < q.2.2 → a ≠ b → (q.2.1 a).2.1 ≠ (q.2.1 b).2.1 := by
  intro ci q h
  have al : ∀ {l : List Jvm.Cond}, l.all (fun w => decide (w ∈ GW)) = true → ∀ w ∈ l, w ∈ GW := fun h w hw => by simpa using List.all_eq_true.mp h w hw
  match ci, h with
  | 0, h => obtain rfl := Option.some.inj h; exact ⟨al cw_0, tyX0, tyX0_ok, nmX0⟩
  | 1, h => obtain rfl := Option.some.inj h; exact ⟨al cw_1, tyX1, tyX1_ok, nmX1⟩
  | 2, h => obtain rfl := Option.some.inj h; exact ⟨al cw_2, tyX2, tyX2_ok, nmX2⟩
  | 3, h => obtain rfl := Option.some.inj h; exact ⟨al cw_3, tyX3, tyX3_ok, nmX3⟩
  | 4, h => obtain rfl := Option.some.inj h; exact ⟨al cw_4, tyX4, tyX4_ok, nmX4⟩
  | 5, h => obtain rfl := Option.some.inj h; exact ⟨al cw_5, tyX5, tyX5_ok, nmX5⟩
  | n + 6, h => simp [classes] at h
end
section
-- REPRESENTATION: how the abstract machine's state lies in the heap and in a frame
def cv (ad : Nat → Nat) (v : Value) : Value := match v with
  | .ref i => .ref (ad i)
  | w => w
def a_fv (ad : Nat → Nat) (f : Nat → Int32) (k : Nat) (o : Option (Option Nat)) : Value := match o with
  | none => .int (f k)
  | some r => va_rf (r.map ad)
def ce (cA : ClassId × ClassId × ClassId) (ad : Nat → Nat) (c : ADc) (f : Nat → Int32) : va_E := match c with
  | .inl q => .inr (q.1, q.2.mapIdx (a_fv ad f))
  | .inr (.inl q) => .inl (if q.1 = 0 then cA.1 else cA.2.1, q.2, .inl f)
  | .inr (.inr rs) => .inl (cA.2.2, rs.length, .inr (.inr (.inr (.inr (fun i => (rs.getD i none).map ad)))))
def wso (cA : ClassId × ClassId × ClassId) (ad : Nat → Nat) (D : ADd) (M : AMm) : va_W := D.mapIdx (fun i c => (ad i, ce cA ad c (M i)))
/-- a value's reference is a cell's number, or an array's that nobody writes -/
def vok (n : Nat) (v : Value) : Prop := match v with
  | .ref i => (i : Nat) < n ∨ (1000000 ≤ (i : Nat) ∧ (i : Nat) < 1000004)
  | _ => True
def cok (n : Nat) (c : ADc) : Prop := match c with
  | .inl q => ∀ a : Nat, some (some a) ∈ q.2 → vok n (.ref a)
  | .inr (.inl _) => True
  | .inr (.inr rs) => ∀ a : Nat, some a ∈ rs → vok n (.ref a)
def dok (D : ADd) : Prop := ∀ (i : Nat) (c : ADc), D[i]? = some c → cok D.length c
def a_sz (c : ADc) : Nat := match c with
  | .inl q => q.2.length
  | .inr (.inl q) => q.2
  | .inr (.inr rs) => rs.length
def a_szs (D : ADd) : Nat := (D.map a_sz).sum
theorem cv_cat (ad : Nat → Nat) (v : Value) : (cv ad v).category = v.category := by cases v <;> rfl
theorem cv_rf (ad : Nat → Nat) (r : Option Nat) : cv ad (a_rf r) = va_rf (r.map ad) := by cases r <;> rfl
theorem vok_up {n n' : Nat} (h : n ≤ n') {v : Value} (hv : vok n v) : vok n' v := by
  cases v <;> first | trivial | exact hv.elim (fun q => Or.inl (Nat.lt_of_lt_of_le q h)) Or.inr
theorem cok_up {n n' : Nat} (h : n ≤ n') {c : ADc} (hc : cok n c) : cok n' c := by
  rcases c with q | q | rs
  · exact fun a ha => vok_up h (hc a ha)
  · trivial
  · exact fun a ha => vok_up h (hc a ha)
/-- two namings that agree where it counts -/
def agr (n : Nat) (ad ad' : Nat → Nat) : Prop := (∀ i, i < n → ad' i = ad i) ∧ ∀ i, 1000000 ≤ i → i < 1000004 → ad' i = ad i
theorem agr_rf {n : Nat} {ad : Nat → Nat} : agr n ad ad := ⟨fun _ _ => rfl, fun _ _ _ => rfl⟩
theorem agr_tr {n n' : Nat} {a b c : Nat → Nat} (h : n ≤ n') (h1 : agr n a b) (h2 : agr n' b c) : agr n a c := ⟨fun i hi => (h2.1 i (by omega)).trans (h1.1 i hi), fun i h3 h4 => (h2.2 i h3 h4).trans (h1.2 i h3 h4)⟩
theorem cv_agr {n : Nat} {ad ad' : Nat → Nat} (h : agr n ad ad') {v : Value} (hv : vok n v) : cv ad' v = cv ad v := by
  cases v <;> try rfl
  rename_i i
  show Value.ref (ad' i) = .ref (ad i)
  rcases hv with q | q
  · rw [h.1 i q]
  · rw [h.2 i q.1 q.2]
theorem map_agr {n : Nat} {ad ad' : Nat → Nat} (h : agr n ad ad') {st : List Value} (hs : ∀ v ∈ st, vok n v) : st.map (cv ad') = st.map (cv ad) := List.map_congr_left fun v hv => cv_agr h (hs v hv)
theorem wso_at {cA : ClassId × ClassId × ClassId} {ad : Nat → Nat} {D : ADd} {M : AMm} {i : Nat} {c : ADc} (h : D[i]? = some c) : (wso cA ad D M)[i]? = some (ad i, ce cA ad c (M i)) := by
  unfold wso; rw [List.getElem?_mapIdx, h]; rfl
theorem ce_agr {cA : ClassId × ClassId × ClassId} {n : Nat} {ad ad' : Nat → Nat} (h : agr n ad ad') {c : ADc} (hc : cok n c) (f : Nat → Int32) : ce cA ad' c f = ce cA ad c f := by
  have rm : ∀ r : Option Nat, (∀ a, r = some a → vok n (.ref a)) → r.map ad' = r.map ad := fun r hr => by
    cases r with
    | none => rfl
    | some a =>
      show some _ = some _
      rcases hr a rfl with z | z
      · rw [h.1 a z]
      · rw [h.2 a z.1 z.2]
  rcases c with q | q | rs
  · show Sum.inr _ = Sum.inr _
    congr 2
    apply List.ext_getElem?
    intro i
    rw [List.getElem?_mapIdx, List.getElem?_mapIdx]
    cases hq : q.2[i]? with
    | none => rfl
    | some o =>
      show some _ = some _
      cases o with
      | none => rfl
      | some r => show some (va_rf _) = some (va_rf _); rw [rm r (fun a ha => hc a (by rw [← ha]; exact List.mem_of_getElem? hq))]
  · rfl
  · show Sum.inl _ = Sum.inl _
    congr 7
    funext i
    refine rm _ (fun a ha => hc a ?_)
    rw [List.getD_eq_getElem?_getD] at ha
    cases hr : rs[i]? with
    | none => rw [hr] at ha; cases ha
    | some o => rw [hr] at ha; have : o = some a := ha; subst this; exact List.mem_of_getElem? hr
theorem wso_agr {cA : ClassId × ClassId × ClassId} {ad ad' : Nat → Nat} {D : ADd} (M : AMm) (h : agr D.length ad ad') (hd : dok D) : wso cA ad' D M = wso cA ad D M := by
  apply List.ext_getElem?
  intro i
  cases hi : D[i]? with
  | none => unfold wso; rw [List.getElem?_mapIdx, List.getElem?_mapIdx, hi]; rfl
  | some c =>
    rw [wso_at hi, wso_at hi, ce_agr h (hd i c hi), h.1 i (List.getElem?_eq_some_iff.mp hi).1]
theorem wso_len {cA : ClassId × ClassId × ClassId} {ad : Nat → Nat} {D : ADd} {M : AMm} : (wso cA ad D M).length = D.length := by unfold wso; simp
/-- one cell is another, the rest as it was -/
theorem wso_one {cA : ClassId × ClassId × ClassId} {ad : Nat → Nat} {D D' : ADd} {M M' : AMm} {a : Nat} {c c' : ADc} (h : D[a]? = some c) (hD : D' = D.set a c') (hM : ∀ i, i ≠ a → M' i = M i) : (wso cA ad D M).set a (ad a, ce cA ad c' (M' a)) = wso cA ad D' M' := by
  subst hD
  have hl := (List.getElem?_eq_some_iff.mp h).1
  apply List.ext_getElem?
  intro i
  rw [List.getElem?_set]
  by_cases hi : a = i
  · subst hi
    rw [if_pos rfl, if_pos (by rw [wso_len]; exact hl), wso_at (c := c') (by rw [List.getElem?_set_self hl])]
  · rw [if_neg hi]
    unfold wso
    rw [List.getElem?_mapIdx, List.getElem?_mapIdx, List.getElem?_set_ne hi]
    cases hq : D[i]? with
    | none => rfl
    | some x => show some _ = some _; rw [hM i (fun q => hi q.symm)]
theorem ms_row {M : AMm} {a k : Nat} {v : Int32} : ms M a k v a = upd (M a) k v := by funext b; simp [ms, upd]
theorem ms_off {M : AMm} {a k i : Nat} {v : Int32} (h : i ≠ a) : ms M a k v i = M i := by funext b; simp [ms, h]
theorem mr_row {M : AMm} {a : Nat} {f : Nat → Int32} : mr M a f a = f := by funext b; simp [mr]
theorem mr_off {M : AMm} {a i : Nat} {f : Nat → Int32} (h : i ≠ a) : mr M a f i = M i := by funext b; simp [mr, h]
theorem set_self {α : Type} {l : List α} {a : Nat} {c : α} (h : l[a]? = some c) : l.set a c = l := by
  apply List.ext_getElem?
  intro i
  rw [List.getElem?_set]
  by_cases hi : a = i
  · subst hi; rw [if_pos rfl, if_pos (List.getElem?_eq_some_iff.mp h).1, h]
  · rw [if_neg hi]
theorem fv_set {ad : Nat → Nat} {f : Nat → Int32} {fs : List (Option (Option Nat))} {sl : Nat} {x : Int32} (h : fs[sl]? = some none) : (fs.mapIdx (a_fv ad f)).set sl (.int x) = fs.mapIdx (a_fv ad (upd f sl x)) := by
  have hl := (List.getElem?_eq_some_iff.mp h).1
  apply List.ext_getElem?
  intro i
  rw [List.getElem?_set]
  by_cases hi : sl = i
  · subst hi
    rw [if_pos rfl, if_pos (by simpa using hl), List.getElem?_mapIdx, h]
    simp [a_fv, upd]
  · rw [if_neg hi, List.getElem?_mapIdx, List.getElem?_mapIdx]
    cases fs[i]? with
    | none => rfl
    | some o => cases o <;> simp [a_fv, upd] <;> exact fun q => absurd q.symm hi
theorem fv_setr {ad : Nat → Nat} {f : Nat → Int32} {fs : List (Option (Option Nat))} {sl q : Nat} (h : sl < fs.length) : (fs.mapIdx (a_fv ad f)).set sl (.ref (ad q)) = (fs.set sl (some (some q))).mapIdx (a_fv ad f) := by
  apply List.ext_getElem?
  intro i
  rw [List.getElem?_set, List.getElem?_mapIdx, List.getElem?_mapIdx, List.getElem?_set]
  by_cases hi : sl = i
  · subst hi
    rw [if_pos rfl, if_pos (by simpa using h), if_pos rfl, if_pos h]
    rfl
  · rw [if_neg hi, if_neg hi]
-- locals
def LH (ad : Nat → Nat) (ls : Array Slot) (n : Nat) (L : ALo) : Prop := ls.size = n ∧ lv_wf ls ∧ (∀ (i : Nat) (v : Value), L[i]? = some (some v) → ls[i]? = some (.val (cv ad v))) ∧ L.length = n
def LV (n : Nat) (L : ALo) : Prop := ∀ (i : Nat) (v : Value), L[i]? = some (some v) → vok n v
def asc (ad : Nat → Nat) (L : ALo) : List (Nat × Value) := L.zipIdx.filterMap (fun q => q.1.map (fun v => (q.2, cv ad v)))
theorem asc_mem {ad : Nat → Nat} {L : ALo} {i : Nat} {w : Value} : (i, w) ∈ asc ad L ↔ ∃ v, L[i]? = some (some v) ∧ w = cv ad v := by
  unfold asc
  rw [List.mem_filterMap]
  constructor
  · rintro ⟨⟨o, k⟩, h1, h2⟩
    rw [List.mem_zipIdx_iff_getElem?] at h1
    cases o with
    | none => cases h2
    | some v =>
      simp only [Option.map_some, Option.some.injEq, Prod.mk.injEq] at h2
      obtain ⟨rfl, rfl⟩ := h2
      exact ⟨v, h1, rfl⟩
  · rintro ⟨v, h1, rfl⟩
    exact ⟨(some v, i), List.mem_zipIdx_iff_getElem?.mpr h1, rfl⟩
theorem LH.has {ad : Nat → Nat} {ls : Array Slot} {n : Nat} {L : ALo} (h : LH ad ls n L) : lv_has ls n (asc ad L) := ⟨h.1, h.2.1, fun q hq => by
  obtain ⟨i, w⟩ := q
  obtain ⟨v, h1, rfl⟩ := asc_mem.mp hq
  exact h.2.2.1 i v h1⟩
theorem a_st_set {L L' : ALo} {i : Nat} {v : Value} (h : a_st L i v = some L') : L' = L.set i (some v) ∧ i < L.length ∧ ∀ (j : Nat) (w : Value), j + 1 = i → L[j]? = some (some w) → ¬ w.category = 2 := by
  unfold a_st at h
  cases i with
  | zero =>
    simp only at h
    split at h
    · rename_i hl
      exact ⟨(Option.some.inj h).symm, hl, fun j w hj => by omega⟩
    · cases h
  | succ i =>
    simp only at h
    split at h
    · rename_i hl
      split at h
      · cases h
      · cases h
      · rename_i h1 h2
        refine ⟨(Option.some.inj h).symm, hl, fun j w hj hw hc => ?_⟩
        have hji : j = i := by omega
        subst hji
        cases w <;> first | (simp [Value.category] at hc; done) | exact h1 _ hw | exact h2 _ hw
    · cases h
theorem LH.set {ad : Nat → Nat} {ls' : Array Slot} {n i : Nat} {L L' : ALo} {v : Value} (hn : L.length = n) (hs : a_st L i v = some L') (h : lv_has ls' n ((i, cv ad v) :: (asc ad L).filter (fun q => !(q.1 == i) && !(q.1 + 1 == i && q.2.category == 2)))) : LH ad ls' n L' := by
  obtain ⟨rfl, hi, hc⟩ := a_st_set hs
  refine ⟨h.1, h.2.1, fun j w hw => ?_, by rw [List.length_set]; exact hn⟩
  rw [List.getElem?_set] at hw
  by_cases hj : i = j
  · subst hj
    rw [if_pos rfl, if_pos hi] at hw
    obtain rfl := Option.some.inj (Option.some.inj hw)
    exact h.2.2 (i, cv ad v) List.mem_cons_self
  · rw [if_neg hj] at hw
    refine h.2.2 (j, cv ad w) (List.mem_cons_of_mem _ (List.mem_filter.mpr ⟨asc_mem.mpr ⟨w, hw, rfl⟩, ?_⟩))
    simp only [Bool.and_eq_true, Bool.not_eq_true', beq_eq_false_iff_ne, Bool.and_eq_false_iff]
    refine ⟨fun q => hj q.symm, ?_⟩
    by_cases hj2 : j + 1 = i
    · exact Or.inr (by rw [cv_cat]; simpa using hc j w hj2 hw)
    · exact Or.inl hj2
theorem LV.set {n i : Nat} {L L' : ALo} {v : Value} (h : LV n L) (hv : vok n v) (hs : a_st L i v = some L') : LV n L' := by
  obtain ⟨rfl, hi, -⟩ := a_st_set hs
  intro j w hw
  rw [List.getElem?_set] at hw
  by_cases hj : i = j
  · subst hj
    rw [if_pos rfl, if_pos hi] at hw
    obtain rfl := Option.some.inj (Option.some.inj hw)
    exact hv
  · rw [if_neg hj] at hw; exact h j w hw
theorem LH.agr {ad ad' : Nat → Nat} {ls : Array Slot} {n N : Nat} {L : ALo} (h : LH ad ls n L) (ha : agr N ad ad') (hv : LV N L) : LH ad' ls n L := ⟨h.1, h.2.1, fun i v hi => by rw [cv_agr ha (hv i v hi)]; exact h.2.2.1 i v hi, h.2.2.2⟩
theorem a_ld_at {L : ALo} {i : Nat} {v : Value} (h : a_ld L i = some v) : L[i]? = some (some v) := by
  unfold a_ld at h
  split at h
  · rename_i w hw; rw [hw]; rw [h]
  · cases h
theorem a_sl_args (ad : Nat → Nat) : ∀ (as : List Value) (o i : Nat) (v : Value), (a_sl as)[i]? = some (some v) → (o + i, cv ad v) ∈ lv_args o (as.map (cv ad))
  | [], _, _, _, h => by simp [a_sl] at h
  | w :: r, o, i, v, h => by
    have one : ∀ w : Value, ¬ w.category = 2 → (some w :: a_sl r)[i]? = some (some v) → (o + i, cv ad v) ∈ lv_args o ((w :: r).map (cv ad)) := by
      intro w hw h
      show _ ∈ (o, cv ad w) :: lv_args (if (cv ad w).category = 2 then o + 2 else o + 1) (r.map (cv ad))
      rw [cv_cat, if_neg hw]
      cases i with
      | zero => simp at h; subst h; exact List.mem_cons_self
      | succ i =>
        refine List.mem_cons_of_mem _ ?_
        have := a_sl_args ad r (o + 1) i v (by simpa using h)
        rw [show o + (i + 1) = o + 1 + i by omega]
        exact this
    have two : ∀ w : Value, w.category = 2 → (some w :: none :: a_sl r)[i]? = some (some v) → (o + i, cv ad v) ∈ lv_args o ((w :: r).map (cv ad)) := by
      intro w hw h
      show _ ∈ (o, cv ad w) :: lv_args (if (cv ad w).category = 2 then o + 2 else o + 1) (r.map (cv ad))
      rw [cv_cat, if_pos hw]
      match i, h with
      | 0, h => simp at h; subst h; exact List.mem_cons_self
      | 1, h => simp at h
      | i + 2, h =>
        refine List.mem_cons_of_mem _ ?_
        have := a_sl_args ad r (o + 2) i v (by simpa using h)
        rw [show o + (i + 2) = o + 2 + i by omega]
        exact this
    cases w with
    | int x => exact one _ (by simp [Value.category]) h
    | long x => exact two _ (by simp [Value.category]) h
    | float x => exact one _ (by simp [Value.category]) h
    | double x => exact two _ (by simp [Value.category]) h
    | null => exact one _ (by simp [Value.category]) h
    | ref x => exact one _ (by simp [Value.category]) h
    | retAddr x => exact one _ (by simp [Value.category]) h
theorem a_sl_len (ad : Nat → Nat) : ∀ as : List Value, (lg_sl (as.map (cv ad))).length = (a_sl as).length
  | [] => rfl
  | w :: r => by
    have ih := a_sl_len ad r
    unfold lg_sl at ih ⊢
    rw [List.map_cons, List.flatMap_cons, List.length_append, ih, cv_cat]
    cases w <;> simp [a_sl, Value.category] <;> omega
theorem LH_entry (ad : Nat → Nat) (as : List Value) {n : Nat} (h : (a_sl as).length ≤ n) : LH ad ((lg_sl (as.map (cv ad)) ++ List.replicate (n - (lg_sl (as.map (cv ad))).length) Slot.unset).toArray) n (a_sl as ++ List.replicate (n - (a_sl as).length) none) := by
  have q := lv_entry (as.map (cv ad)) (n := n) (by rw [a_sl_len]; exact h)
  refine ⟨q.1, q.2.1, fun i v hv => ?_, by rw [List.length_append, List.length_replicate]; omega⟩
  have hi : (a_sl as)[i]? = some (some v) := by
    rw [List.getElem?_append] at hv
    split at hv
    · exact hv
    · rw [List.getElem?_replicate] at hv
      split at hv <;> cases hv
  have := a_sl_args ad as 0 i v hi
  rw [Nat.zero_add] at this
  exact q.2.2 _ this
theorem LV_entry {n : Nat} : ∀ {as : List Value}, (∀ v ∈ as, vok n v) → ∀ (x : Nat), LV n (a_sl as ++ List.replicate x none) := by
  have key : ∀ as : List Value, ∀ (i : Nat) (v : Value), (a_sl as)[i]? = some (some v) → v ∈ as := by
    intro as
    induction as with
    | nil => intro i v h; simp [a_sl] at h
    | cons w r ih =>
      intro i v h
      have one : (some w :: a_sl r)[i]? = some (some v) → v ∈ w :: r := by
        intro h
        cases i with
        | zero => simp at h; subst h; exact List.mem_cons_self
        | succ i => exact List.mem_cons_of_mem _ (ih i v (by simpa using h))
      have two : (some w :: none :: a_sl r)[i]? = some (some v) → v ∈ w :: r := by
        intro h
        match i, h with
        | 0, h => simp at h; subst h; exact List.mem_cons_self
        | 1, h => simp at h
        | i + 2, h => exact List.mem_cons_of_mem _ (ih i v (by simpa using h))
      cases w <;> first | exact one h | exact two h
  intro as has x i v hv
  rw [List.getElem?_append] at hv
  split at hv
  · exact has v (key as i v hv)
  · rw [List.getElem?_replicate] at hv
    split at hv <;> cases hv
end
section
-- SOUNDNESS, the instructions of a frame alone
theorem a_w_in {w : Nat} {c : Jvm.Cond} (h : a_w w c = true) (hg : goodWord c = true) : c ∈ GW := List.mem_filter.mpr ⟨List.mem_of_getElem? (of_decide_eq_true h), hg⟩
theorem a_w_tbl {w : Nat} {c : Jvm.Cond} (h : a_w w c = true) : c ∈ lw_tbl := List.mem_of_getElem? (of_decide_eq_true h)
section SP
variable {p : Program} {l : Launch} {e : Env} {R : Room} {s : State} {m : MethodId} {args : Array Value} {below : List Frame} {meth : Method} {c : Code} {H : Heap} {locs : List Loc} {cells slots : Nat} {Q : State → Prop} {bs : ByteArray} {own nm : String} {tb : List AEn} {ad : Nat → Nat} {ls : Array Slot} {nL n k j pc len k' j' : Nat} {aux wx : List Nat} {L L' : ALo} {st st' : List Value} {D D' : ADd} {M M' : AMm}
theorem sp_iconst {v0 : Int} (hx : p.tables.exec = Jvm.exec) (hb : c.code = bs) (hd : decode bs pc = .ok (.iconst v0, len)) (hok : ok_i own nm tb j pc (.iconst v0) len aux wx = true) (hs : a_ex (.iconst v0) aux k j L st D M = some (.inl (k', j', L', st', D', M'))) (hL : LH ad ls nL L) (hLv : LV n L) (hSv : ∀ v ∈ st, vok n v) (hK : k' = k → D' = D → M' = M → ∀ ls' : Array Slot, LH ad ls' nL L' → LV n L' → (∀ v ∈ st', vok n v) → W p l e R s m args below meth c H locs cells slots Q (F0 m (a_pc tb j') ls' (st'.map (cv ad)))) : W p l e R s m args below meth c H locs cells slots Q (F0 m pc ls (st.map (cv ad))) := by
  simp only [ok_i, Bool.and_eq_true, beq_iff_eq, decide_eq_true_eq] at hok
  obtain ⟨rfl, hn, hv⟩ := hok
  dsimp only [a_ex] at hs
  simp only [a_nx, Option.some.injEq, Sum.inl.injEq, Prod.mk.injEq] at hs
  obtain ⟨rfl, rfl, rfl, rfl, rfl, rfl⟩ := hs
  refine lv_iconst hx hb hd hv ?_
  rw [← hn]
  exact hK rfl rfl rfl ls hL hLv (List.forall_mem_cons.mpr ⟨trivial, hSv⟩)
theorem sp_bipush {v0 : Int} (hx : p.tables.exec = Jvm.exec) (hb : c.code = bs) (hd : decode bs pc = .ok (.bipush v0, len)) (hok : ok_i own nm tb j pc (.bipush v0) len aux wx = true) (hs : a_ex (.bipush v0) aux k j L st D M = some (.inl (k', j', L', st', D', M'))) (hL : LH ad ls nL L) (hLv : LV n L) (hSv : ∀ v ∈ st, vok n v) (hK : k' = k → D' = D → M' = M → ∀ ls' : Array Slot, LH ad ls' nL L' → LV n L' → (∀ v ∈ st', vok n v) → W p l e R s m args below meth c H locs cells slots Q (F0 m (a_pc tb j') ls' (st'.map (cv ad)))) : W p l e R s m args below meth c H locs cells slots Q (F0 m pc ls (st.map (cv ad))) := by
  simp only [ok_i, Bool.and_eq_true, beq_iff_eq, decide_eq_true_eq] at hok
  obtain ⟨rfl, hn, hv⟩ := hok
  dsimp only [a_ex] at hs
  simp only [a_nx, Option.some.injEq, Sum.inl.injEq, Prod.mk.injEq] at hs
  obtain ⟨rfl, rfl, rfl, rfl, rfl, rfl⟩ := hs
  refine lv_bipush hx hb hd hv ?_
  rw [← hn]
  exact hK rfl rfl rfl ls hL hLv (List.forall_mem_cons.mpr ⟨trivial, hSv⟩)
theorem sp_sipush {v0 : Int} (hx : p.tables.exec = Jvm.exec) (hb : c.code = bs) (hd : decode bs pc = .ok (.sipush v0, len)) (hok : ok_i own nm tb j pc (.sipush v0) len aux wx = true) (hs : a_ex (.sipush v0) aux k j L st D M = some (.inl (k', j', L', st', D', M'))) (hL : LH ad ls nL L) (hLv : LV n L) (hSv : ∀ v ∈ st, vok n v) (hK : k' = k → D' = D → M' = M → ∀ ls' : Array Slot, LH ad ls' nL L' → LV n L' → (∀ v ∈ st', vok n v) → W p l e R s m args below meth c H locs cells slots Q (F0 m (a_pc tb j') ls' (st'.map (cv ad)))) : W p l e R s m args below meth c H locs cells slots Q (F0 m pc ls (st.map (cv ad))) := by
  simp only [ok_i, Bool.and_eq_true, beq_iff_eq, decide_eq_true_eq] at hok
  obtain ⟨rfl, hn, hv⟩ := hok
  dsimp only [a_ex] at hs
  simp only [a_nx, Option.some.injEq, Sum.inl.injEq, Prod.mk.injEq] at hs
  obtain ⟨rfl, rfl, rfl, rfl, rfl, rfl⟩ := hs
  refine lv_sipush hx hb hd hv ?_
  rw [← hn]
  exact hK rfl rfl rfl ls hL hLv (List.forall_mem_cons.mpr ⟨trivial, hSv⟩)
theorem sp_ldc {v0 : Nat} (hx : p.tables.exec = Jvm.exec) (hb : c.code = bs) (hd : decode bs pc = .ok (.ldc v0, len)) (hok : ok_i own nm tb j pc (.ldc v0) len aux wx = true) (hown : s.vm.findClass own = some m.cls) (hts : ∀ w ∈ GW, w.before args s = true) (hs : a_ex (.ldc v0) aux k j L st D M = some (.inl (k', j', L', st', D', M'))) (hL : LH ad ls nL L) (hLv : LV n L) (hSv : ∀ v ∈ st, vok n v) (hK : k' = k → D' = D → M' = M → ∀ ls' : Array Slot, LH ad ls' nL L' → LV n L' → (∀ v ∈ st', vok n v) → W p l e R s m args below meth c H locs cells slots Q (F0 m (a_pc tb j') ls' (st'.map (cv ad)))) : W p l e R s m args below meth c H locs cells slots Q (F0 m pc ls (st.map (cv ad))) := by
  simp only [ok_i, Bool.and_eq_true, beq_iff_eq, decide_eq_true_eq] at hok
  obtain ⟨rfl, hn, hv⟩ := hok
  dsimp only [a_ex] at hs
  simp only [a_nx, Option.some.injEq, Sum.inl.injEq, Prod.mk.injEq] at hs
  obtain ⟨rfl, rfl, rfl, rfl, rfl, rfl⟩ := hs
  refine lv_ldc hx hb hown (hts _ (a_w_in hv rfl)) hd ?_
  rw [← hn]
  exact hK rfl rfl rfl ls hL hLv (List.forall_mem_cons.mpr ⟨trivial, hSv⟩)
theorem sp_ldc_w {v0 : Nat} (hx : p.tables.exec = Jvm.exec) (hb : c.code = bs) (hd : decode bs pc = .ok (.ldc_w v0, len)) (hok : ok_i own nm tb j pc (.ldc_w v0) len aux wx = true) (hown : s.vm.findClass own = some m.cls) (hts : ∀ w ∈ GW, w.before args s = true) (hs : a_ex (.ldc_w v0) aux k j L st D M = some (.inl (k', j', L', st', D', M'))) (hL : LH ad ls nL L) (hLv : LV n L) (hSv : ∀ v ∈ st, vok n v) (hK : k' = k → D' = D → M' = M → ∀ ls' : Array Slot, LH ad ls' nL L' → LV n L' → (∀ v ∈ st', vok n v) → W p l e R s m args below meth c H locs cells slots Q (F0 m (a_pc tb j') ls' (st'.map (cv ad)))) : W p l e R s m args below meth c H locs cells slots Q (F0 m pc ls (st.map (cv ad))) := by
  simp only [ok_i, Bool.and_eq_true, beq_iff_eq, decide_eq_true_eq] at hok
  obtain ⟨rfl, hn, hv⟩ := hok
  dsimp only [a_ex] at hs
  simp only [a_nx, Option.some.injEq, Sum.inl.injEq, Prod.mk.injEq] at hs
  obtain ⟨rfl, rfl, rfl, rfl, rfl, rfl⟩ := hs
  refine lv_ldcw hx hb hown (hts _ (a_w_in hv rfl)) hd ?_
  rw [← hn]
  exact hK rfl rfl rfl ls hL hLv (List.forall_mem_cons.mpr ⟨trivial, hSv⟩)
theorem sp_lconst {v0 : Fin 2} (hx : p.tables.exec = Jvm.exec) (hb : c.code = bs) (hd : decode bs pc = .ok (.lconst v0, len)) (hok : ok_i own nm tb j pc (.lconst v0) len aux wx = true) (hs : a_ex (.lconst v0) aux k j L st D M = some (.inl (k', j', L', st', D', M'))) (hL : LH ad ls nL L) (hLv : LV n L) (hSv : ∀ v ∈ st, vok n v) (hK : k' = k → D' = D → M' = M → ∀ ls' : Array Slot, LH ad ls' nL L' → LV n L' → (∀ v ∈ st', vok n v) → W p l e R s m args below meth c H locs cells slots Q (F0 m (a_pc tb j') ls' (st'.map (cv ad)))) : W p l e R s m args below meth c H locs cells slots Q (F0 m pc ls (st.map (cv ad))) := by
  simp only [ok_i, Bool.and_eq_true, beq_iff_eq, decide_eq_true_eq] at hok
  obtain ⟨rfl, hn, hv⟩ := hok
  dsimp only [a_ex] at hs
  simp only [a_nx, Option.some.injEq, Sum.inl.injEq, Prod.mk.injEq] at hs
  obtain ⟨rfl, rfl, rfl, rfl, rfl, rfl⟩ := hs
  refine lv_lconst hx hb hd (by rw [hv]) ?_
  rw [← hn]
  exact hK rfl rfl rfl ls hL hLv (List.forall_mem_cons.mpr ⟨trivial, hSv⟩)
theorem sp_ldc2_w {v0 : Nat} (hx : p.tables.exec = Jvm.exec) (hb : c.code = bs) (hd : decode bs pc = .ok (.ldc2_w v0, len)) (hok : ok_i own nm tb j pc (.ldc2_w v0) len aux wx = true) (hown : s.vm.findClass own = some m.cls) (hts : ∀ w ∈ GW, w.before args s = true) (hs : a_ex (.ldc2_w v0) aux k j L st D M = some (.inl (k', j', L', st', D', M'))) (hL : LH ad ls nL L) (hLv : LV n L) (hSv : ∀ v ∈ st, vok n v) (hK : k' = k → D' = D → M' = M → ∀ ls' : Array Slot, LH ad ls' nL L' → LV n L' → (∀ v ∈ st', vok n v) → W p l e R s m args below meth c H locs cells slots Q (F0 m (a_pc tb j') ls' (st'.map (cv ad)))) : W p l e R s m args below meth c H locs cells slots Q (F0 m pc ls (st.map (cv ad))) := by
  simp only [ok_i, Bool.and_eq_true, beq_iff_eq, decide_eq_true_eq] at hok
  obtain ⟨rfl, hn, hv⟩ := hok
  dsimp only [a_ex] at hs
  simp only [a_nx, Option.some.injEq, Sum.inl.injEq, Prod.mk.injEq] at hs
  obtain ⟨rfl, rfl, rfl, rfl, rfl, rfl⟩ := hs
  refine lv_ldc2 hx hb hown (hts _ (a_w_in hv rfl)) hd ?_
  rw [← hn]
  exact hK rfl rfl rfl ls hL hLv (List.forall_mem_cons.mpr ⟨trivial, hSv⟩)
theorem sp_iload {v0 : Nat} (hx : p.tables.exec = Jvm.exec) (hb : c.code = bs) (hd : decode bs pc = .ok (.iload v0, len)) (hok : ok_i own nm tb j pc (.iload v0) len aux wx = true) (hs : a_ex (.iload v0) aux k j L st D M = some (.inl (k', j', L', st', D', M'))) (hL : LH ad ls nL L) (hLv : LV n L) (hSv : ∀ v ∈ st, vok n v) (hK : k' = k → D' = D → M' = M → ∀ ls' : Array Slot, LH ad ls' nL L' → LV n L' → (∀ v ∈ st', vok n v) → W p l e R s m args below meth c H locs cells slots Q (F0 m (a_pc tb j') ls' (st'.map (cv ad)))) : W p l e R s m args below meth c H locs cells slots Q (F0 m pc ls (st.map (cv ad))) := by
  simp only [ok_i, Bool.and_eq_true, beq_iff_eq, decide_eq_true_eq] at hok
  obtain ⟨rfl, hn, hv⟩ := hok
  dsimp only [a_ex] at hs
  split at hs
  · rename_i x hl
    simp only [a_nx, Option.some.injEq, Sum.inl.injEq, Prod.mk.injEq] at hs
    obtain ⟨rfl, rfl, rfl, rfl, rfl, rfl⟩ := hs
    have hl2 := a_ld_at hl
    refine lv_iload hx hb hd (by rw [hv]; exact hL.2.2.1 _ _ hl2) ?_
    rw [← hn]
    exact hK rfl rfl rfl ls hL hLv (List.forall_mem_cons.mpr ⟨hLv _ _ hl2, hSv⟩)
  · cases hs
theorem sp_iload_n {v0 : Fin 4} (hx : p.tables.exec = Jvm.exec) (hb : c.code = bs) (hd : decode bs pc = .ok (.iload_n v0, len)) (hok : ok_i own nm tb j pc (.iload_n v0) len aux wx = true) (hs : a_ex (.iload_n v0) aux k j L st D M = some (.inl (k', j', L', st', D', M'))) (hL : LH ad ls nL L) (hLv : LV n L) (hSv : ∀ v ∈ st, vok n v) (hK : k' = k → D' = D → M' = M → ∀ ls' : Array Slot, LH ad ls' nL L' → LV n L' → (∀ v ∈ st', vok n v) → W p l e R s m args below meth c H locs cells slots Q (F0 m (a_pc tb j') ls' (st'.map (cv ad)))) : W p l e R s m args below meth c H locs cells slots Q (F0 m pc ls (st.map (cv ad))) := by
  simp only [ok_i, Bool.and_eq_true, beq_iff_eq, decide_eq_true_eq] at hok
  obtain ⟨rfl, hn, hv⟩ := hok
  dsimp only [a_ex] at hs
  split at hs
  · rename_i x hl
    simp only [a_nx, Option.some.injEq, Sum.inl.injEq, Prod.mk.injEq] at hs
    obtain ⟨rfl, rfl, rfl, rfl, rfl, rfl⟩ := hs
    have hl2 := a_ld_at hl
    refine lv_iload_n hx hb hd hv (hL.2.2.1 _ _ hl2) ?_
    rw [← hn]
    exact hK rfl rfl rfl ls hL hLv (List.forall_mem_cons.mpr ⟨hLv _ _ hl2, hSv⟩)
  · cases hs
theorem sp_aload_n {v0 : Fin 4} (hx : p.tables.exec = Jvm.exec) (hb : c.code = bs) (hd : decode bs pc = .ok (.aload_n v0, len)) (hok : ok_i own nm tb j pc (.aload_n v0) len aux wx = true) (hs : a_ex (.aload_n v0) aux k j L st D M = some (.inl (k', j', L', st', D', M'))) (hL : LH ad ls nL L) (hLv : LV n L) (hSv : ∀ v ∈ st, vok n v) (hK : k' = k → D' = D → M' = M → ∀ ls' : Array Slot, LH ad ls' nL L' → LV n L' → (∀ v ∈ st', vok n v) → W p l e R s m args below meth c H locs cells slots Q (F0 m (a_pc tb j') ls' (st'.map (cv ad)))) : W p l e R s m args below meth c H locs cells slots Q (F0 m pc ls (st.map (cv ad))) := by
  simp only [ok_i, Bool.and_eq_true, beq_iff_eq, decide_eq_true_eq] at hok
  obtain ⟨rfl, hn, hv⟩ := hok
  dsimp only [a_ex] at hs
  split at hs
  · rename_i x hl
    simp only [a_nx, Option.some.injEq, Sum.inl.injEq, Prod.mk.injEq] at hs
    obtain ⟨rfl, rfl, rfl, rfl, rfl, rfl⟩ := hs
    have hl2 := a_ld_at hl
    refine lv_aload_n hx hb hd hv (hL.2.2.1 _ _ hl2) ?_
    rw [← hn]
    exact hK rfl rfl rfl ls hL hLv (List.forall_mem_cons.mpr ⟨hLv _ _ hl2, hSv⟩)
  · cases hs
theorem sp_lload {v0 : Nat} (hx : p.tables.exec = Jvm.exec) (hb : c.code = bs) (hd : decode bs pc = .ok (.lload v0, len)) (hok : ok_i own nm tb j pc (.lload v0) len aux wx = true) (hs : a_ex (.lload v0) aux k j L st D M = some (.inl (k', j', L', st', D', M'))) (hL : LH ad ls nL L) (hLv : LV n L) (hSv : ∀ v ∈ st, vok n v) (hK : k' = k → D' = D → M' = M → ∀ ls' : Array Slot, LH ad ls' nL L' → LV n L' → (∀ v ∈ st', vok n v) → W p l e R s m args below meth c H locs cells slots Q (F0 m (a_pc tb j') ls' (st'.map (cv ad)))) : W p l e R s m args below meth c H locs cells slots Q (F0 m pc ls (st.map (cv ad))) := by
  simp only [ok_i, Bool.and_eq_true, beq_iff_eq, decide_eq_true_eq] at hok
  obtain ⟨rfl, hn, hv⟩ := hok
  dsimp only [a_ex] at hs
  split at hs
  · rename_i x hl
    simp only [a_nx, Option.some.injEq, Sum.inl.injEq, Prod.mk.injEq] at hs
    obtain ⟨rfl, rfl, rfl, rfl, rfl, rfl⟩ := hs
    have hl2 := a_ld_at hl
    refine lv_lload hx hb hd (by rw [hv]; exact hL.2.2.1 _ _ hl2) ?_
    rw [← hn]
    exact hK rfl rfl rfl ls hL hLv (List.forall_mem_cons.mpr ⟨hLv _ _ hl2, hSv⟩)
  · cases hs
theorem sp_lload_n {v0 : Fin 4} (hx : p.tables.exec = Jvm.exec) (hb : c.code = bs) (hd : decode bs pc = .ok (.lload_n v0, len)) (hok : ok_i own nm tb j pc (.lload_n v0) len aux wx = true) (hs : a_ex (.lload_n v0) aux k j L st D M = some (.inl (k', j', L', st', D', M'))) (hL : LH ad ls nL L) (hLv : LV n L) (hSv : ∀ v ∈ st, vok n v) (hK : k' = k → D' = D → M' = M → ∀ ls' : Array Slot, LH ad ls' nL L' → LV n L' → (∀ v ∈ st', vok n v) → W p l e R s m args below meth c H locs cells slots Q (F0 m (a_pc tb j') ls' (st'.map (cv ad)))) : W p l e R s m args below meth c H locs cells slots Q (F0 m pc ls (st.map (cv ad))) := by
  simp only [ok_i, Bool.and_eq_true, beq_iff_eq, decide_eq_true_eq] at hok
  obtain ⟨rfl, hn, hv⟩ := hok
  dsimp only [a_ex] at hs
  split at hs
  · rename_i x hl
    simp only [a_nx, Option.some.injEq, Sum.inl.injEq, Prod.mk.injEq] at hs
    obtain ⟨rfl, rfl, rfl, rfl, rfl, rfl⟩ := hs
    have hl2 := a_ld_at hl
    refine lv_lload_n hx hb hd hv (hL.2.2.1 _ _ hl2) ?_
    rw [← hn]
    exact hK rfl rfl rfl ls hL hLv (List.forall_mem_cons.mpr ⟨hLv _ _ hl2, hSv⟩)
  · cases hs
theorem sp_istore {v0 : Nat} (hx : p.tables.exec = Jvm.exec) (hb : c.code = bs) (hd : decode bs pc = .ok (.istore v0, len)) (hok : ok_i own nm tb j pc (.istore v0) len aux wx = true) (hs : a_ex (.istore v0) aux k j L st D M = some (.inl (k', j', L', st', D', M'))) (hL : LH ad ls nL L) (hLv : LV n L) (hSv : ∀ v ∈ st, vok n v) (hK : k' = k → D' = D → M' = M → ∀ ls' : Array Slot, LH ad ls' nL L' → LV n L' → (∀ v ∈ st', vok n v) → W p l e R s m args below meth c H locs cells slots Q (F0 m (a_pc tb j') ls' (st'.map (cv ad)))) : W p l e R s m args below meth c H locs cells slots Q (F0 m pc ls (st.map (cv ad))) := by
  simp only [ok_i, Bool.and_eq_true, beq_iff_eq, decide_eq_true_eq] at hok
  obtain ⟨rfl, hn, hv⟩ := hok
  dsimp only [a_ex, a_sto] at hs
  split at hs
  · rename_i x r
    split at hs
    · rename_i L2 hl
      simp only [a_nx, Option.some.injEq, Sum.inl.injEq, Prod.mk.injEq] at hs
      obtain ⟨rfl, rfl, rfl, rfl, rfl, rfl⟩ := hs
      have hSv2 := List.forall_mem_cons.mp hSv
      have hi := (a_st_set hl).2.1
      subst hv
      refine lv_istore hx hb hd hL.has (by rw [← hL.2.2.2]; exact hi) rfl (fun ls' hl' => ?_)
      rw [← hn]
      exact hK rfl rfl rfl ls' (LH.set hL.2.2.2 hl hl') (hLv.set hSv2.1 hl) hSv2.2
    · cases hs
  · cases hs
theorem sp_istore_n {v0 : Fin 4} (hx : p.tables.exec = Jvm.exec) (hb : c.code = bs) (hd : decode bs pc = .ok (.istore_n v0, len)) (hok : ok_i own nm tb j pc (.istore_n v0) len aux wx = true) (hs : a_ex (.istore_n v0) aux k j L st D M = some (.inl (k', j', L', st', D', M'))) (hL : LH ad ls nL L) (hLv : LV n L) (hSv : ∀ v ∈ st, vok n v) (hK : k' = k → D' = D → M' = M → ∀ ls' : Array Slot, LH ad ls' nL L' → LV n L' → (∀ v ∈ st', vok n v) → W p l e R s m args below meth c H locs cells slots Q (F0 m (a_pc tb j') ls' (st'.map (cv ad)))) : W p l e R s m args below meth c H locs cells slots Q (F0 m pc ls (st.map (cv ad))) := by
  simp only [ok_i, Bool.and_eq_true, beq_iff_eq, decide_eq_true_eq] at hok
  obtain ⟨rfl, hn, hv⟩ := hok
  dsimp only [a_ex, a_sto] at hs
  split at hs
  · rename_i x r
    split at hs
    · rename_i L2 hl
      simp only [a_nx, Option.some.injEq, Sum.inl.injEq, Prod.mk.injEq] at hs
      obtain ⟨rfl, rfl, rfl, rfl, rfl, rfl⟩ := hs
      have hSv2 := List.forall_mem_cons.mp hSv
      have hi := (a_st_set hl).2.1
      refine lv_istore_n hx hb hd hv hL.has (by rw [← hL.2.2.2]; exact hi) rfl (fun ls' hl' => ?_)
      rw [← hn]
      exact hK rfl rfl rfl ls' (LH.set hL.2.2.2 hl hl') (hLv.set hSv2.1 hl) hSv2.2
    · cases hs
  · cases hs
theorem sp_astore_n {v0 : Fin 4} (hx : p.tables.exec = Jvm.exec) (hb : c.code = bs) (hd : decode bs pc = .ok (.astore_n v0, len)) (hok : ok_i own nm tb j pc (.astore_n v0) len aux wx = true) (hs : a_ex (.astore_n v0) aux k j L st D M = some (.inl (k', j', L', st', D', M'))) (hL : LH ad ls nL L) (hLv : LV n L) (hSv : ∀ v ∈ st, vok n v) (hK : k' = k → D' = D → M' = M → ∀ ls' : Array Slot, LH ad ls' nL L' → LV n L' → (∀ v ∈ st', vok n v) → W p l e R s m args below meth c H locs cells slots Q (F0 m (a_pc tb j') ls' (st'.map (cv ad)))) : W p l e R s m args below meth c H locs cells slots Q (F0 m pc ls (st.map (cv ad))) := by
  simp only [ok_i, Bool.and_eq_true, beq_iff_eq, decide_eq_true_eq] at hok
  obtain ⟨rfl, hn, hv⟩ := hok
  dsimp only [a_ex, a_sto] at hs
  split at hs
  · rename_i x r
    split at hs
    · rename_i L2 hl
      simp only [a_nx, Option.some.injEq, Sum.inl.injEq, Prod.mk.injEq] at hs
      obtain ⟨rfl, rfl, rfl, rfl, rfl, rfl⟩ := hs
      have hSv2 := List.forall_mem_cons.mp hSv
      have hi := (a_st_set hl).2.1
      refine lv_astore_n hx hb hd hv hL.has (by rw [← hL.2.2.2]; exact hi) rfl (fun ls' hl' => ?_)
      rw [← hn]
      exact hK rfl rfl rfl ls' (LH.set hL.2.2.2 hl hl') (hLv.set hSv2.1 hl) hSv2.2
    · cases hs
  · cases hs
theorem sp_iinc {v0 : Nat} {v1 : Int} (hx : p.tables.exec = Jvm.exec) (hb : c.code = bs) (hd : decode bs pc = .ok (.iinc v0 v1, len)) (hok : ok_i own nm tb j pc (.iinc v0 v1) len aux wx = true) (hs : a_ex (.iinc v0 v1) aux k j L st D M = some (.inl (k', j', L', st', D', M'))) (hL : LH ad ls nL L) (hLv : LV n L) (hSv : ∀ v ∈ st, vok n v) (hK : k' = k → D' = D → M' = M → ∀ ls' : Array Slot, LH ad ls' nL L' → LV n L' → (∀ v ∈ st', vok n v) → W p l e R s m args below meth c H locs cells slots Q (F0 m (a_pc tb j') ls' (st'.map (cv ad)))) : W p l e R s m args below meth c H locs cells slots Q (F0 m pc ls (st.map (cv ad))) := by
  simp only [ok_i, Bool.and_eq_true, beq_iff_eq, decide_eq_true_eq] at hok
  obtain ⟨rfl, hn, rfl, hv⟩ := hok
  dsimp only [a_ex, a_sto] at hs
  split at hs
  · rename_i x hx1
    split at hs
    · rename_i L2 hl
      simp only [a_nx, Option.some.injEq, Sum.inl.injEq, Prod.mk.injEq] at hs
      obtain ⟨rfl, rfl, rfl, rfl, rfl, rfl⟩ := hs
      have hi := (a_st_set hl).2.1
      obtain ⟨q, hq⟩ := List.getElem?_of_mem (asc_mem.mpr ⟨_, a_ld_at hx1, rfl⟩ : (a_hd aux, cv ad (.int x)) ∈ asc ad L)
      refine lv_iinc hx hb hd hL.has hq (by rw [hv]) (by rw [← hL.2.2.2]; exact hi) rfl (fun ls' hl' => ?_)
      rw [← hn]
      exact hK rfl rfl rfl ls' (LH.set hL.2.2.2 hl hl') (hLv.set (v := .int _) trivial hl) hSv
    · cases hs
  · cases hs
theorem sp_iadd (hx : p.tables.exec = Jvm.exec) (hb : c.code = bs) (hd : decode bs pc = .ok (.iadd, len)) (hok : ok_i own nm tb j pc (.iadd) len aux wx = true) (hs : a_ex (.iadd) aux k j L st D M = some (.inl (k', j', L', st', D', M'))) (hL : LH ad ls nL L) (hLv : LV n L) (hSv : ∀ v ∈ st, vok n v) (hK : k' = k → D' = D → M' = M → ∀ ls' : Array Slot, LH ad ls' nL L' → LV n L' → (∀ v ∈ st', vok n v) → W p l e R s m args below meth c H locs cells slots Q (F0 m (a_pc tb j') ls' (st'.map (cv ad)))) : W p l e R s m args below meth c H locs cells slots Q (F0 m pc ls (st.map (cv ad))) := by
  simp only [ok_i, Bool.and_eq_true, beq_iff_eq, decide_eq_true_eq] at hok
  obtain ⟨rfl, hn⟩ := hok
  dsimp only [a_ex, a_b2] at hs
  split at hs
  · rename_i y x r
    simp only [a_nx, Option.some.injEq, Sum.inl.injEq, Prod.mk.injEq] at hs
    obtain ⟨rfl, rfl, rfl, rfl, rfl, rfl⟩ := hs
    have hSv2 := (List.forall_mem_cons.mp (List.forall_mem_cons.mp hSv).2).2
    refine lv_iadd hx hb hd ?_
    rw [← hn]
    exact hK rfl rfl rfl ls hL hLv (List.forall_mem_cons.mpr ⟨trivial, hSv2⟩)
  · cases hs
theorem sp_isub (hx : p.tables.exec = Jvm.exec) (hb : c.code = bs) (hd : decode bs pc = .ok (.isub, len)) (hok : ok_i own nm tb j pc (.isub) len aux wx = true) (hs : a_ex (.isub) aux k j L st D M = some (.inl (k', j', L', st', D', M'))) (hL : LH ad ls nL L) (hLv : LV n L) (hSv : ∀ v ∈ st, vok n v) (hK : k' = k → D' = D → M' = M → ∀ ls' : Array Slot, LH ad ls' nL L' → LV n L' → (∀ v ∈ st', vok n v) → W p l e R s m args below meth c H locs cells slots Q (F0 m (a_pc tb j') ls' (st'.map (cv ad)))) : W p l e R s m args below meth c H locs cells slots Q (F0 m pc ls (st.map (cv ad))) := by
  simp only [ok_i, Bool.and_eq_true, beq_iff_eq, decide_eq_true_eq] at hok
  obtain ⟨rfl, hn⟩ := hok
  dsimp only [a_ex, a_b2] at hs
  split at hs
  · rename_i y x r
    simp only [a_nx, Option.some.injEq, Sum.inl.injEq, Prod.mk.injEq] at hs
    obtain ⟨rfl, rfl, rfl, rfl, rfl, rfl⟩ := hs
    have hSv2 := (List.forall_mem_cons.mp (List.forall_mem_cons.mp hSv).2).2
    refine lv_isub hx hb hd ?_
    rw [← hn]
    exact hK rfl rfl rfl ls hL hLv (List.forall_mem_cons.mpr ⟨trivial, hSv2⟩)
  · cases hs
theorem sp_imul (hx : p.tables.exec = Jvm.exec) (hb : c.code = bs) (hd : decode bs pc = .ok (.imul, len)) (hok : ok_i own nm tb j pc (.imul) len aux wx = true) (hs : a_ex (.imul) aux k j L st D M = some (.inl (k', j', L', st', D', M'))) (hL : LH ad ls nL L) (hLv : LV n L) (hSv : ∀ v ∈ st, vok n v) (hK : k' = k → D' = D → M' = M → ∀ ls' : Array Slot, LH ad ls' nL L' → LV n L' → (∀ v ∈ st', vok n v) → W p l e R s m args below meth c H locs cells slots Q (F0 m (a_pc tb j') ls' (st'.map (cv ad)))) : W p l e R s m args below meth c H locs cells slots Q (F0 m pc ls (st.map (cv ad))) := by
  simp only [ok_i, Bool.and_eq_true, beq_iff_eq, decide_eq_true_eq] at hok
  obtain ⟨rfl, hn⟩ := hok
  dsimp only [a_ex, a_b2] at hs
  split at hs
  · rename_i y x r
    simp only [a_nx, Option.some.injEq, Sum.inl.injEq, Prod.mk.injEq] at hs
    obtain ⟨rfl, rfl, rfl, rfl, rfl, rfl⟩ := hs
    have hSv2 := (List.forall_mem_cons.mp (List.forall_mem_cons.mp hSv).2).2
    refine lv_imul hx hb hd ?_
    rw [← hn]
    exact hK rfl rfl rfl ls hL hLv (List.forall_mem_cons.mpr ⟨trivial, hSv2⟩)
  · cases hs
theorem sp_iand (hx : p.tables.exec = Jvm.exec) (hb : c.code = bs) (hd : decode bs pc = .ok (.iand, len)) (hok : ok_i own nm tb j pc (.iand) len aux wx = true) (hs : a_ex (.iand) aux k j L st D M = some (.inl (k', j', L', st', D', M'))) (hL : LH ad ls nL L) (hLv : LV n L) (hSv : ∀ v ∈ st, vok n v) (hK : k' = k → D' = D → M' = M → ∀ ls' : Array Slot, LH ad ls' nL L' → LV n L' → (∀ v ∈ st', vok n v) → W p l e R s m args below meth c H locs cells slots Q (F0 m (a_pc tb j') ls' (st'.map (cv ad)))) : W p l e R s m args below meth c H locs cells slots Q (F0 m pc ls (st.map (cv ad))) := by
  simp only [ok_i, Bool.and_eq_true, beq_iff_eq, decide_eq_true_eq] at hok
  obtain ⟨rfl, hn⟩ := hok
  dsimp only [a_ex, a_b2] at hs
  split at hs
  · rename_i y x r
    simp only [a_nx, Option.some.injEq, Sum.inl.injEq, Prod.mk.injEq] at hs
    obtain ⟨rfl, rfl, rfl, rfl, rfl, rfl⟩ := hs
    have hSv2 := (List.forall_mem_cons.mp (List.forall_mem_cons.mp hSv).2).2
    refine lv_iand hx hb hd ?_
    rw [← hn]
    exact hK rfl rfl rfl ls hL hLv (List.forall_mem_cons.mpr ⟨trivial, hSv2⟩)
  · cases hs
theorem sp_ior (hx : p.tables.exec = Jvm.exec) (hb : c.code = bs) (hd : decode bs pc = .ok (.ior, len)) (hok : ok_i own nm tb j pc (.ior) len aux wx = true) (hs : a_ex (.ior) aux k j L st D M = some (.inl (k', j', L', st', D', M'))) (hL : LH ad ls nL L) (hLv : LV n L) (hSv : ∀ v ∈ st, vok n v) (hK : k' = k → D' = D → M' = M → ∀ ls' : Array Slot, LH ad ls' nL L' → LV n L' → (∀ v ∈ st', vok n v) → W p l e R s m args below meth c H locs cells slots Q (F0 m (a_pc tb j') ls' (st'.map (cv ad)))) : W p l e R s m args below meth c H locs cells slots Q (F0 m pc ls (st.map (cv ad))) := by
  simp only [ok_i, Bool.and_eq_true, beq_iff_eq, decide_eq_true_eq] at hok
  obtain ⟨rfl, hn⟩ := hok
  dsimp only [a_ex, a_b2] at hs
  split at hs
  · rename_i y x r
    simp only [a_nx, Option.some.injEq, Sum.inl.injEq, Prod.mk.injEq] at hs
    obtain ⟨rfl, rfl, rfl, rfl, rfl, rfl⟩ := hs
    have hSv2 := (List.forall_mem_cons.mp (List.forall_mem_cons.mp hSv).2).2
    refine lv_ior hx hb hd ?_
    rw [← hn]
    exact hK rfl rfl rfl ls hL hLv (List.forall_mem_cons.mpr ⟨trivial, hSv2⟩)
  · cases hs
theorem sp_ixor (hx : p.tables.exec = Jvm.exec) (hb : c.code = bs) (hd : decode bs pc = .ok (.ixor, len)) (hok : ok_i own nm tb j pc (.ixor) len aux wx = true) (hs : a_ex (.ixor) aux k j L st D M = some (.inl (k', j', L', st', D', M'))) (hL : LH ad ls nL L) (hLv : LV n L) (hSv : ∀ v ∈ st, vok n v) (hK : k' = k → D' = D → M' = M → ∀ ls' : Array Slot, LH ad ls' nL L' → LV n L' → (∀ v ∈ st', vok n v) → W p l e R s m args below meth c H locs cells slots Q (F0 m (a_pc tb j') ls' (st'.map (cv ad)))) : W p l e R s m args below meth c H locs cells slots Q (F0 m pc ls (st.map (cv ad))) := by
  simp only [ok_i, Bool.and_eq_true, beq_iff_eq, decide_eq_true_eq] at hok
  obtain ⟨rfl, hn⟩ := hok
  dsimp only [a_ex, a_b2] at hs
  split at hs
  · rename_i y x r
    simp only [a_nx, Option.some.injEq, Sum.inl.injEq, Prod.mk.injEq] at hs
    obtain ⟨rfl, rfl, rfl, rfl, rfl, rfl⟩ := hs
    have hSv2 := (List.forall_mem_cons.mp (List.forall_mem_cons.mp hSv).2).2
    refine lv_ixor hx hb hd ?_
    rw [← hn]
    exact hK rfl rfl rfl ls hL hLv (List.forall_mem_cons.mpr ⟨trivial, hSv2⟩)
  · cases hs
theorem sp_ishl (hx : p.tables.exec = Jvm.exec) (hb : c.code = bs) (hd : decode bs pc = .ok (.ishl, len)) (hok : ok_i own nm tb j pc (.ishl) len aux wx = true) (hs : a_ex (.ishl) aux k j L st D M = some (.inl (k', j', L', st', D', M'))) (hL : LH ad ls nL L) (hLv : LV n L) (hSv : ∀ v ∈ st, vok n v) (hK : k' = k → D' = D → M' = M → ∀ ls' : Array Slot, LH ad ls' nL L' → LV n L' → (∀ v ∈ st', vok n v) → W p l e R s m args below meth c H locs cells slots Q (F0 m (a_pc tb j') ls' (st'.map (cv ad)))) : W p l e R s m args below meth c H locs cells slots Q (F0 m pc ls (st.map (cv ad))) := by
  simp only [ok_i, Bool.and_eq_true, beq_iff_eq, decide_eq_true_eq] at hok
  obtain ⟨rfl, hn⟩ := hok
  dsimp only [a_ex, a_b2] at hs
  split at hs
  · rename_i y x r
    simp only [a_nx, Option.some.injEq, Sum.inl.injEq, Prod.mk.injEq] at hs
    obtain ⟨rfl, rfl, rfl, rfl, rfl, rfl⟩ := hs
    have hSv2 := (List.forall_mem_cons.mp (List.forall_mem_cons.mp hSv).2).2
    refine lv_ishl hx hb hd ?_
    rw [← hn]
    exact hK rfl rfl rfl ls hL hLv (List.forall_mem_cons.mpr ⟨trivial, hSv2⟩)
  · cases hs
theorem sp_ishr (hx : p.tables.exec = Jvm.exec) (hb : c.code = bs) (hd : decode bs pc = .ok (.ishr, len)) (hok : ok_i own nm tb j pc (.ishr) len aux wx = true) (hs : a_ex (.ishr) aux k j L st D M = some (.inl (k', j', L', st', D', M'))) (hL : LH ad ls nL L) (hLv : LV n L) (hSv : ∀ v ∈ st, vok n v) (hK : k' = k → D' = D → M' = M → ∀ ls' : Array Slot, LH ad ls' nL L' → LV n L' → (∀ v ∈ st', vok n v) → W p l e R s m args below meth c H locs cells slots Q (F0 m (a_pc tb j') ls' (st'.map (cv ad)))) : W p l e R s m args below meth c H locs cells slots Q (F0 m pc ls (st.map (cv ad))) := by
  simp only [ok_i, Bool.and_eq_true, beq_iff_eq, decide_eq_true_eq] at hok
  obtain ⟨rfl, hn⟩ := hok
  dsimp only [a_ex, a_b2] at hs
  split at hs
  · rename_i y x r
    simp only [a_nx, Option.some.injEq, Sum.inl.injEq, Prod.mk.injEq] at hs
    obtain ⟨rfl, rfl, rfl, rfl, rfl, rfl⟩ := hs
    have hSv2 := (List.forall_mem_cons.mp (List.forall_mem_cons.mp hSv).2).2
    refine lv_ishr hx hb hd ?_
    rw [← hn]
    exact hK rfl rfl rfl ls hL hLv (List.forall_mem_cons.mpr ⟨trivial, hSv2⟩)
  · cases hs
theorem sp_iushr (hx : p.tables.exec = Jvm.exec) (hb : c.code = bs) (hd : decode bs pc = .ok (.iushr, len)) (hok : ok_i own nm tb j pc (.iushr) len aux wx = true) (hs : a_ex (.iushr) aux k j L st D M = some (.inl (k', j', L', st', D', M'))) (hL : LH ad ls nL L) (hLv : LV n L) (hSv : ∀ v ∈ st, vok n v) (hK : k' = k → D' = D → M' = M → ∀ ls' : Array Slot, LH ad ls' nL L' → LV n L' → (∀ v ∈ st', vok n v) → W p l e R s m args below meth c H locs cells slots Q (F0 m (a_pc tb j') ls' (st'.map (cv ad)))) : W p l e R s m args below meth c H locs cells slots Q (F0 m pc ls (st.map (cv ad))) := by
  simp only [ok_i, Bool.and_eq_true, beq_iff_eq, decide_eq_true_eq] at hok
  obtain ⟨rfl, hn⟩ := hok
  dsimp only [a_ex, a_b2] at hs
  split at hs
  · rename_i y x r
    simp only [a_nx, Option.some.injEq, Sum.inl.injEq, Prod.mk.injEq] at hs
    obtain ⟨rfl, rfl, rfl, rfl, rfl, rfl⟩ := hs
    have hSv2 := (List.forall_mem_cons.mp (List.forall_mem_cons.mp hSv).2).2
    refine lv_iushr hx hb hd rfl ?_
    rw [← hn]
    exact hK rfl rfl rfl ls hL hLv (List.forall_mem_cons.mpr ⟨trivial, hSv2⟩)
  · cases hs
theorem sp_idiv (hx : p.tables.exec = Jvm.exec) (hb : c.code = bs) (hd : decode bs pc = .ok (.idiv, len)) (hok : ok_i own nm tb j pc (.idiv) len aux wx = true) (hs : a_ex (.idiv) aux k j L st D M = some (.inl (k', j', L', st', D', M'))) (hL : LH ad ls nL L) (hLv : LV n L) (hSv : ∀ v ∈ st, vok n v) (hK : k' = k → D' = D → M' = M → ∀ ls' : Array Slot, LH ad ls' nL L' → LV n L' → (∀ v ∈ st', vok n v) → W p l e R s m args below meth c H locs cells slots Q (F0 m (a_pc tb j') ls' (st'.map (cv ad)))) : W p l e R s m args below meth c H locs cells slots Q (F0 m pc ls (st.map (cv ad))) := by
  simp only [ok_i, Bool.and_eq_true, beq_iff_eq, decide_eq_true_eq] at hok
  obtain ⟨rfl, hn⟩ := hok
  dsimp only [a_ex] at hs
  split at hs
  · rename_i y x r
    split at hs
    · cases hs
    · rename_i hne
      simp only [a_nx, Option.some.injEq, Sum.inl.injEq, Prod.mk.injEq] at hs
      obtain ⟨rfl, rfl, rfl, rfl, rfl, rfl⟩ := hs
      have hSv2 := (List.forall_mem_cons.mp (List.forall_mem_cons.mp hSv).2).2
      refine lv_idiv hx hb hd hne ?_
      rw [← hn]
      exact hK rfl rfl rfl ls hL hLv (List.forall_mem_cons.mpr ⟨trivial, hSv2⟩)
  · cases hs
theorem sp_irem (hx : p.tables.exec = Jvm.exec) (hb : c.code = bs) (hd : decode bs pc = .ok (.irem, len)) (hok : ok_i own nm tb j pc (.irem) len aux wx = true) (hs : a_ex (.irem) aux k j L st D M = some (.inl (k', j', L', st', D', M'))) (hL : LH ad ls nL L) (hLv : LV n L) (hSv : ∀ v ∈ st, vok n v) (hK : k' = k → D' = D → M' = M → ∀ ls' : Array Slot, LH ad ls' nL L' → LV n L' → (∀ v ∈ st', vok n v) → W p l e R s m args below meth c H locs cells slots Q (F0 m (a_pc tb j') ls' (st'.map (cv ad)))) : W p l e R s m args below meth c H locs cells slots Q (F0 m pc ls (st.map (cv ad))) := by
  simp only [ok_i, Bool.and_eq_true, beq_iff_eq, decide_eq_true_eq] at hok
  obtain ⟨rfl, hn⟩ := hok
  dsimp only [a_ex] at hs
  split at hs
  · rename_i y x r
    split at hs
    · cases hs
    · rename_i hne
      simp only [a_nx, Option.some.injEq, Sum.inl.injEq, Prod.mk.injEq] at hs
      obtain ⟨rfl, rfl, rfl, rfl, rfl, rfl⟩ := hs
      have hSv2 := (List.forall_mem_cons.mp (List.forall_mem_cons.mp hSv).2).2
      refine lv_irem hx hb hd hne ?_
      rw [← hn]
      exact hK rfl rfl rfl ls hL hLv (List.forall_mem_cons.mpr ⟨trivial, hSv2⟩)
  · cases hs
theorem sp_lrem (hx : p.tables.exec = Jvm.exec) (hb : c.code = bs) (hd : decode bs pc = .ok (.lrem, len)) (hok : ok_i own nm tb j pc (.lrem) len aux wx = true) (hs : a_ex (.lrem) aux k j L st D M = some (.inl (k', j', L', st', D', M'))) (hL : LH ad ls nL L) (hLv : LV n L) (hSv : ∀ v ∈ st, vok n v) (hK : k' = k → D' = D → M' = M → ∀ ls' : Array Slot, LH ad ls' nL L' → LV n L' → (∀ v ∈ st', vok n v) → W p l e R s m args below meth c H locs cells slots Q (F0 m (a_pc tb j') ls' (st'.map (cv ad)))) : W p l e R s m args below meth c H locs cells slots Q (F0 m pc ls (st.map (cv ad))) := by
  simp only [ok_i, Bool.and_eq_true, beq_iff_eq, decide_eq_true_eq] at hok
  obtain ⟨rfl, hn⟩ := hok
  dsimp only [a_ex] at hs
  split at hs
  · rename_i y x r
    split at hs
    · cases hs
    · rename_i hne
      simp only [a_nx, Option.some.injEq, Sum.inl.injEq, Prod.mk.injEq] at hs
      obtain ⟨rfl, rfl, rfl, rfl, rfl, rfl⟩ := hs
      have hSv2 := (List.forall_mem_cons.mp (List.forall_mem_cons.mp hSv).2).2
      refine lv_lrem hx hb hd hne ?_
      rw [← hn]
      exact hK rfl rfl rfl ls hL hLv (List.forall_mem_cons.mpr ⟨trivial, hSv2⟩)
  · cases hs
theorem sp_ladd (hx : p.tables.exec = Jvm.exec) (hb : c.code = bs) (hd : decode bs pc = .ok (.ladd, len)) (hok : ok_i own nm tb j pc (.ladd) len aux wx = true) (hs : a_ex (.ladd) aux k j L st D M = some (.inl (k', j', L', st', D', M'))) (hL : LH ad ls nL L) (hLv : LV n L) (hSv : ∀ v ∈ st, vok n v) (hK : k' = k → D' = D → M' = M → ∀ ls' : Array Slot, LH ad ls' nL L' → LV n L' → (∀ v ∈ st', vok n v) → W p l e R s m args below meth c H locs cells slots Q (F0 m (a_pc tb j') ls' (st'.map (cv ad)))) : W p l e R s m args below meth c H locs cells slots Q (F0 m pc ls (st.map (cv ad))) := by
  simp only [ok_i, Bool.and_eq_true, beq_iff_eq, decide_eq_true_eq] at hok
  obtain ⟨rfl, hn⟩ := hok
  dsimp only [a_ex, a_l2] at hs
  split at hs
  · rename_i y x r
    simp only [a_nx, Option.some.injEq, Sum.inl.injEq, Prod.mk.injEq] at hs
    obtain ⟨rfl, rfl, rfl, rfl, rfl, rfl⟩ := hs
    have hSv2 := (List.forall_mem_cons.mp (List.forall_mem_cons.mp hSv).2).2
    refine lv_ladd hx hb hd ?_
    rw [← hn]
    exact hK rfl rfl rfl ls hL hLv (List.forall_mem_cons.mpr ⟨trivial, hSv2⟩)
  · cases hs
theorem sp_lmul (hx : p.tables.exec = Jvm.exec) (hb : c.code = bs) (hd : decode bs pc = .ok (.lmul, len)) (hok : ok_i own nm tb j pc (.lmul) len aux wx = true) (hs : a_ex (.lmul) aux k j L st D M = some (.inl (k', j', L', st', D', M'))) (hL : LH ad ls nL L) (hLv : LV n L) (hSv : ∀ v ∈ st, vok n v) (hK : k' = k → D' = D → M' = M → ∀ ls' : Array Slot, LH ad ls' nL L' → LV n L' → (∀ v ∈ st', vok n v) → W p l e R s m args below meth c H locs cells slots Q (F0 m (a_pc tb j') ls' (st'.map (cv ad)))) : W p l e R s m args below meth c H locs cells slots Q (F0 m pc ls (st.map (cv ad))) := by
  simp only [ok_i, Bool.and_eq_true, beq_iff_eq, decide_eq_true_eq] at hok
  obtain ⟨rfl, hn⟩ := hok
  dsimp only [a_ex, a_l2] at hs
  split at hs
  · rename_i y x r
    simp only [a_nx, Option.some.injEq, Sum.inl.injEq, Prod.mk.injEq] at hs
    obtain ⟨rfl, rfl, rfl, rfl, rfl, rfl⟩ := hs
    have hSv2 := (List.forall_mem_cons.mp (List.forall_mem_cons.mp hSv).2).2
    refine lv_lmul hx hb hd ?_
    rw [← hn]
    exact hK rfl rfl rfl ls hL hLv (List.forall_mem_cons.mpr ⟨trivial, hSv2⟩)
  · cases hs
theorem sp_lcmp (hx : p.tables.exec = Jvm.exec) (hb : c.code = bs) (hd : decode bs pc = .ok (.lcmp, len)) (hok : ok_i own nm tb j pc (.lcmp) len aux wx = true) (hs : a_ex (.lcmp) aux k j L st D M = some (.inl (k', j', L', st', D', M'))) (hL : LH ad ls nL L) (hLv : LV n L) (hSv : ∀ v ∈ st, vok n v) (hK : k' = k → D' = D → M' = M → ∀ ls' : Array Slot, LH ad ls' nL L' → LV n L' → (∀ v ∈ st', vok n v) → W p l e R s m args below meth c H locs cells slots Q (F0 m (a_pc tb j') ls' (st'.map (cv ad)))) : W p l e R s m args below meth c H locs cells slots Q (F0 m pc ls (st.map (cv ad))) := by
  simp only [ok_i, Bool.and_eq_true, beq_iff_eq, decide_eq_true_eq] at hok
  obtain ⟨rfl, hn⟩ := hok
  dsimp only [a_ex] at hs
  split at hs
  · rename_i y x r
    simp only [a_nx, Option.some.injEq, Sum.inl.injEq, Prod.mk.injEq] at hs
    obtain ⟨rfl, rfl, rfl, rfl, rfl, rfl⟩ := hs
    have hSv2 := (List.forall_mem_cons.mp (List.forall_mem_cons.mp hSv).2).2
    refine W.lcmp hx hb hd ?_
    rw [← hn]
    exact hK rfl rfl rfl ls hL hLv (List.forall_mem_cons.mpr ⟨trivial, hSv2⟩)
  · cases hs
theorem sp_ineg (hx : p.tables.exec = Jvm.exec) (hb : c.code = bs) (hd : decode bs pc = .ok (.ineg, len)) (hok : ok_i own nm tb j pc (.ineg) len aux wx = true) (hs : a_ex (.ineg) aux k j L st D M = some (.inl (k', j', L', st', D', M'))) (hL : LH ad ls nL L) (hLv : LV n L) (hSv : ∀ v ∈ st, vok n v) (hK : k' = k → D' = D → M' = M → ∀ ls' : Array Slot, LH ad ls' nL L' → LV n L' → (∀ v ∈ st', vok n v) → W p l e R s m args below meth c H locs cells slots Q (F0 m (a_pc tb j') ls' (st'.map (cv ad)))) : W p l e R s m args below meth c H locs cells slots Q (F0 m pc ls (st.map (cv ad))) := by
  simp only [ok_i, Bool.and_eq_true, beq_iff_eq, decide_eq_true_eq] at hok
  obtain ⟨rfl, hn⟩ := hok
  dsimp only [a_ex] at hs
  split at hs
  · rename_i x r
    simp only [a_nx, Option.some.injEq, Sum.inl.injEq, Prod.mk.injEq] at hs
    obtain ⟨rfl, rfl, rfl, rfl, rfl, rfl⟩ := hs
    have hSv2 := (List.forall_mem_cons.mp hSv).2
    refine lv_ineg hx hb hd ?_
    rw [← hn]
    exact hK rfl rfl rfl ls hL hLv (List.forall_mem_cons.mpr ⟨trivial, hSv2⟩)
  · cases hs
theorem sp_i2l (hx : p.tables.exec = Jvm.exec) (hb : c.code = bs) (hd : decode bs pc = .ok (.i2l, len)) (hok : ok_i own nm tb j pc (.i2l) len aux wx = true) (hs : a_ex (.i2l) aux k j L st D M = some (.inl (k', j', L', st', D', M'))) (hL : LH ad ls nL L) (hLv : LV n L) (hSv : ∀ v ∈ st, vok n v) (hK : k' = k → D' = D → M' = M → ∀ ls' : Array Slot, LH ad ls' nL L' → LV n L' → (∀ v ∈ st', vok n v) → W p l e R s m args below meth c H locs cells slots Q (F0 m (a_pc tb j') ls' (st'.map (cv ad)))) : W p l e R s m args below meth c H locs cells slots Q (F0 m pc ls (st.map (cv ad))) := by
  simp only [ok_i, Bool.and_eq_true, beq_iff_eq, decide_eq_true_eq] at hok
  obtain ⟨rfl, hn⟩ := hok
  dsimp only [a_ex] at hs
  split at hs
  · rename_i x r
    simp only [a_nx, Option.some.injEq, Sum.inl.injEq, Prod.mk.injEq] at hs
    obtain ⟨rfl, rfl, rfl, rfl, rfl, rfl⟩ := hs
    have hSv2 := (List.forall_mem_cons.mp hSv).2
    refine lv_i2l hx hb hd rfl ?_
    rw [← hn]
    exact hK rfl rfl rfl ls hL hLv (List.forall_mem_cons.mpr ⟨trivial, hSv2⟩)
  · cases hs
theorem sp_l2i (hx : p.tables.exec = Jvm.exec) (hb : c.code = bs) (hd : decode bs pc = .ok (.l2i, len)) (hok : ok_i own nm tb j pc (.l2i) len aux wx = true) (hs : a_ex (.l2i) aux k j L st D M = some (.inl (k', j', L', st', D', M'))) (hL : LH ad ls nL L) (hLv : LV n L) (hSv : ∀ v ∈ st, vok n v) (hK : k' = k → D' = D → M' = M → ∀ ls' : Array Slot, LH ad ls' nL L' → LV n L' → (∀ v ∈ st', vok n v) → W p l e R s m args below meth c H locs cells slots Q (F0 m (a_pc tb j') ls' (st'.map (cv ad)))) : W p l e R s m args below meth c H locs cells slots Q (F0 m pc ls (st.map (cv ad))) := by
  simp only [ok_i, Bool.and_eq_true, beq_iff_eq, decide_eq_true_eq] at hok
  obtain ⟨rfl, hn⟩ := hok
  dsimp only [a_ex] at hs
  split at hs
  · rename_i x r
    simp only [a_nx, Option.some.injEq, Sum.inl.injEq, Prod.mk.injEq] at hs
    obtain ⟨rfl, rfl, rfl, rfl, rfl, rfl⟩ := hs
    have hSv2 := (List.forall_mem_cons.mp hSv).2
    refine lv_l2i hx hb hd rfl ?_
    rw [← hn]
    exact hK rfl rfl rfl ls hL hLv (List.forall_mem_cons.mpr ⟨trivial, hSv2⟩)
  · cases hs
theorem sp_pop (hx : p.tables.exec = Jvm.exec) (hb : c.code = bs) (hd : decode bs pc = .ok (.pop, len)) (hok : ok_i own nm tb j pc (.pop) len aux wx = true) (hs : a_ex (.pop) aux k j L st D M = some (.inl (k', j', L', st', D', M'))) (hL : LH ad ls nL L) (hLv : LV n L) (hSv : ∀ v ∈ st, vok n v) (hK : k' = k → D' = D → M' = M → ∀ ls' : Array Slot, LH ad ls' nL L' → LV n L' → (∀ v ∈ st', vok n v) → W p l e R s m args below meth c H locs cells slots Q (F0 m (a_pc tb j') ls' (st'.map (cv ad)))) : W p l e R s m args below meth c H locs cells slots Q (F0 m pc ls (st.map (cv ad))) := by
  simp only [ok_i, Bool.and_eq_true, beq_iff_eq, decide_eq_true_eq] at hok
  obtain ⟨rfl, hn⟩ := hok
  dsimp only [a_ex] at hs
  split at hs
  · rename_i x r
    simp only [a_nx, Option.some.injEq, Sum.inl.injEq, Prod.mk.injEq] at hs
    obtain ⟨rfl, rfl, rfl, rfl, rfl, rfl⟩ := hs
    have hSv2 := (List.forall_mem_cons.mp hSv).2
    refine lv_pop hx hb hd rfl ?_
    rw [← hn]
    exact hK rfl rfl rfl ls hL hLv hSv2
  · cases hs
theorem sp_dup (hx : p.tables.exec = Jvm.exec) (hb : c.code = bs) (hd : decode bs pc = .ok (.dup, len)) (hok : ok_i own nm tb j pc (.dup) len aux wx = true) (hs : a_ex (.dup) aux k j L st D M = some (.inl (k', j', L', st', D', M'))) (hL : LH ad ls nL L) (hLv : LV n L) (hSv : ∀ v ∈ st, vok n v) (hK : k' = k → D' = D → M' = M → ∀ ls' : Array Slot, LH ad ls' nL L' → LV n L' → (∀ v ∈ st', vok n v) → W p l e R s m args below meth c H locs cells slots Q (F0 m (a_pc tb j') ls' (st'.map (cv ad)))) : W p l e R s m args below meth c H locs cells slots Q (F0 m pc ls (st.map (cv ad))) := by
  simp only [ok_i, Bool.and_eq_true, beq_iff_eq, decide_eq_true_eq] at hok
  obtain ⟨rfl, hn⟩ := hok
  dsimp only [a_ex] at hs
  split at hs
  · rename_i x r
    simp only [a_nx, Option.some.injEq, Sum.inl.injEq, Prod.mk.injEq] at hs
    obtain ⟨rfl, rfl, rfl, rfl, rfl, rfl⟩ := hs
    refine lv_dup hx hb hd rfl ?_
    rw [← hn]
    exact hK rfl rfl rfl ls hL hLv (List.forall_mem_cons.mpr ⟨trivial, hSv⟩)
  · rename_i x r
    simp only [a_nx, Option.some.injEq, Sum.inl.injEq, Prod.mk.injEq] at hs
    obtain ⟨rfl, rfl, rfl, rfl, rfl, rfl⟩ := hs
    refine lv_dup hx hb hd rfl ?_
    rw [← hn]
    exact hK rfl rfl rfl ls hL hLv (List.forall_mem_cons.mpr ⟨(List.forall_mem_cons.mp hSv).1, hSv⟩)
  · cases hs
theorem sp_dup2 (hx : p.tables.exec = Jvm.exec) (hb : c.code = bs) (hd : decode bs pc = .ok (.dup2, len)) (hok : ok_i own nm tb j pc (.dup2) len aux wx = true) (hs : a_ex (.dup2) aux k j L st D M = some (.inl (k', j', L', st', D', M'))) (hL : LH ad ls nL L) (hLv : LV n L) (hSv : ∀ v ∈ st, vok n v) (hK : k' = k → D' = D → M' = M → ∀ ls' : Array Slot, LH ad ls' nL L' → LV n L' → (∀ v ∈ st', vok n v) → W p l e R s m args below meth c H locs cells slots Q (F0 m (a_pc tb j') ls' (st'.map (cv ad)))) : W p l e R s m args below meth c H locs cells slots Q (F0 m pc ls (st.map (cv ad))) := by
  simp only [ok_i, Bool.and_eq_true, beq_iff_eq, decide_eq_true_eq] at hok
  obtain ⟨rfl, hn⟩ := hok
  dsimp only [a_ex] at hs
  split at hs
  · rename_i x y r
    simp only [a_nx, Option.some.injEq, Sum.inl.injEq, Prod.mk.injEq] at hs
    obtain ⟨rfl, rfl, rfl, rfl, rfl, rfl⟩ := hs
    have h2 := List.forall_mem_cons.mp (List.forall_mem_cons.mp hSv).2
    refine lv_dup2_11 hx hb hd rfl rfl ?_
    rw [← hn]
    exact hK rfl rfl rfl ls hL hLv (List.forall_mem_cons.mpr ⟨trivial, List.forall_mem_cons.mpr ⟨h2.1, hSv⟩⟩)
  · cases hs
theorem sp_goto {v0 : Int} (hx : p.tables.exec = Jvm.exec) (hb : c.code = bs) (hd : decode bs pc = .ok (.goto v0, len)) (hok : ok_i own nm tb j pc (.goto v0) len aux wx = true) (hs : a_ex (.goto v0) aux k j L st D M = some (.inl (k', j', L', st', D', M'))) (hL : LH ad ls nL L) (hLv : LV n L) (hSv : ∀ v ∈ st, vok n v) (hK : k' = k → D' = D → M' = M → ∀ ls' : Array Slot, LH ad ls' nL L' → LV n L' → (∀ v ∈ st', vok n v) → W p l e R s m args below meth c H locs cells slots Q (F0 m (a_pc tb j') ls' (st'.map (cv ad)))) : W p l e R s m args below meth c H locs cells slots Q (F0 m pc ls (st.map (cv ad))) := by
  simp only [ok_i, Bool.and_eq_true, beq_iff_eq, decide_eq_true_eq] at hok
  obtain ⟨rfl, hn⟩ := hok
  dsimp only [a_ex] at hs
  simp only [a_nx, Option.some.injEq, Sum.inl.injEq, Prod.mk.injEq] at hs
  obtain ⟨rfl, rfl, rfl, rfl, rfl, rfl⟩ := hs
  refine lv_goto hx hb hd hn ?_
  exact hK rfl rfl rfl ls hL hLv hSv
theorem sp_ifCond {v0 : Jvm.ClassFile.Cond} {v1 : Int} (hx : p.tables.exec = Jvm.exec) (hb : c.code = bs) (hd : decode bs pc = .ok (.ifCond v0 v1, len)) (hok : ok_i own nm tb j pc (.ifCond v0 v1) len aux wx = true) (hs : a_ex (.ifCond v0 v1) aux k j L st D M = some (.inl (k', j', L', st', D', M'))) (hL : LH ad ls nL L) (hLv : LV n L) (hSv : ∀ v ∈ st, vok n v) (hK : k' = k → D' = D → M' = M → ∀ ls' : Array Slot, LH ad ls' nL L' → LV n L' → (∀ v ∈ st', vok n v) → W p l e R s m args below meth c H locs cells slots Q (F0 m (a_pc tb j') ls' (st'.map (cv ad)))) : W p l e R s m args below meth c H locs cells slots Q (F0 m pc ls (st.map (cv ad))) := by
  simp only [ok_i, Bool.and_eq_true, beq_iff_eq, decide_eq_true_eq] at hok
  obtain ⟨rfl, hn, ht⟩ := hok
  dsimp only [a_ex] at hs
  split at hs
  · rename_i x r
    have hSv2 := (List.forall_mem_cons.mp hSv).2
    simp only [Option.some.injEq] at hs
    have goT : (k', j', L', st', D', M') = (k, a_hd aux, L, r, D, M) → W p l e R s m args below meth c H locs cells slots Q (F0 m (a_pc tb (a_hd aux)) ls (r.map (cv ad))) := by
      intro hq
      simp only [Prod.mk.injEq] at hq
      obtain ⟨rfl, rfl, rfl, rfl, rfl, rfl⟩ := hq
      exact hK rfl rfl rfl ls hL hLv hSv2
    have goF : (k', j', L', st', D', M') = (k, j + 1, L, r, D, M) → W p l e R s m args below meth c H locs cells slots Q (F0 m (pc + 3) ls (r.map (cv ad))) := by
      intro hq
      simp only [Prod.mk.injEq] at hq
      obtain ⟨rfl, rfl, rfl, rfl, rfl, rfl⟩ := hq
      rw [← hn]
      exact hK rfl rfl rfl ls hL hLv hSv2
    cases v0 with
    | eq => dsimp only [a_if] at hs; exact lv_if_eq hx hb hd ht (fun hc => goT (Sum.inl.inj ((if_pos hc).symm.trans hs)).symm) (fun hc => goF (Sum.inl.inj ((if_neg hc).symm.trans hs)).symm)
    | ne => dsimp only [a_if] at hs; exact lv_if_ne hx hb hd ht (fun hc => goT (Sum.inl.inj ((if_neg hc).symm.trans hs)).symm) (fun hc => goF (Sum.inl.inj ((if_pos hc).symm.trans hs)).symm)
    | lt => dsimp only [a_if] at hs; exact lv_if_lt hx hb hd ht (fun hc => goT (Sum.inl.inj ((if_pos hc).symm.trans hs)).symm) (fun hc => goF (Sum.inl.inj ((if_neg hc).symm.trans hs)).symm)
    | ge => dsimp only [a_if] at hs; exact lv_if_ge hx hb hd ht (fun hc => goT (Sum.inl.inj ((if_pos hc).symm.trans hs)).symm) (fun hc => goF (Sum.inl.inj ((if_neg hc).symm.trans hs)).symm)
    | gt => dsimp only [a_if] at hs; exact lv_if_gt hx hb hd ht (fun hc => goT (Sum.inl.inj ((if_pos hc).symm.trans hs)).symm) (fun hc => goF (Sum.inl.inj ((if_neg hc).symm.trans hs)).symm)
    | le => dsimp only [a_if] at hs; exact lv_if_le hx hb hd ht (fun hc => goT (Sum.inl.inj ((if_pos hc).symm.trans hs)).symm) (fun hc => goF (Sum.inl.inj ((if_neg hc).symm.trans hs)).symm)
  · cases hs
theorem sp_if_icmp {v0 : Jvm.ClassFile.Cond} {v1 : Int} (hx : p.tables.exec = Jvm.exec) (hb : c.code = bs) (hd : decode bs pc = .ok (.if_icmp v0 v1, len)) (hok : ok_i own nm tb j pc (.if_icmp v0 v1) len aux wx = true) (hs : a_ex (.if_icmp v0 v1) aux k j L st D M = some (.inl (k', j', L', st', D', M'))) (hL : LH ad ls nL L) (hLv : LV n L) (hSv : ∀ v ∈ st, vok n v) (hK : k' = k → D' = D → M' = M → ∀ ls' : Array Slot, LH ad ls' nL L' → LV n L' → (∀ v ∈ st', vok n v) → W p l e R s m args below meth c H locs cells slots Q (F0 m (a_pc tb j') ls' (st'.map (cv ad)))) : W p l e R s m args below meth c H locs cells slots Q (F0 m pc ls (st.map (cv ad))) := by
  simp only [ok_i, Bool.and_eq_true, beq_iff_eq, decide_eq_true_eq] at hok
  obtain ⟨rfl, hn, ht⟩ := hok
  dsimp only [a_ex] at hs
  split at hs
  · rename_i y x r
    have hSv2 := (List.forall_mem_cons.mp (List.forall_mem_cons.mp hSv).2).2
    simp only [Option.some.injEq] at hs
    have goT : (k', j', L', st', D', M') = (k, a_hd aux, L, r, D, M) → W p l e R s m args below meth c H locs cells slots Q (F0 m (a_pc tb (a_hd aux)) ls (r.map (cv ad))) := by
      intro hq
      simp only [Prod.mk.injEq] at hq
      obtain ⟨rfl, rfl, rfl, rfl, rfl, rfl⟩ := hq
      exact hK rfl rfl rfl ls hL hLv hSv2
    have goF : (k', j', L', st', D', M') = (k, j + 1, L, r, D, M) → W p l e R s m args below meth c H locs cells slots Q (F0 m (pc + 3) ls (r.map (cv ad))) := by
      intro hq
      simp only [Prod.mk.injEq] at hq
      obtain ⟨rfl, rfl, rfl, rfl, rfl, rfl⟩ := hq
      rw [← hn]
      exact hK rfl rfl rfl ls hL hLv hSv2
    cases v0 with
    | eq => dsimp only [a_if] at hs; exact lv_icmp_eq hx hb hd ht (fun hc => goT (Sum.inl.inj ((if_pos hc).symm.trans hs)).symm) (fun hc => goF (Sum.inl.inj ((if_neg hc).symm.trans hs)).symm)
    | ne => dsimp only [a_if] at hs; exact lv_icmp_ne hx hb hd ht (fun hc => goT (Sum.inl.inj ((if_neg hc).symm.trans hs)).symm) (fun hc => goF (Sum.inl.inj ((if_pos hc).symm.trans hs)).symm)
    | lt => dsimp only [a_if] at hs; exact lv_icmp_lt hx hb hd ht (fun hc => goT (Sum.inl.inj ((if_pos hc).symm.trans hs)).symm) (fun hc => goF (Sum.inl.inj ((if_neg hc).symm.trans hs)).symm)
    | ge => dsimp only [a_if] at hs; exact lv_icmp_ge hx hb hd ht (fun hc => goT (Sum.inl.inj ((if_pos hc).symm.trans hs)).symm) (fun hc => goF (Sum.inl.inj ((if_neg hc).symm.trans hs)).symm)
    | gt => dsimp only [a_if] at hs; exact lv_icmp_gt hx hb hd ht (fun hc => goT (Sum.inl.inj ((if_pos hc).symm.trans hs)).symm) (fun hc => goF (Sum.inl.inj ((if_neg hc).symm.trans hs)).symm)
    | le => dsimp only [a_if] at hs; exact lv_icmp_le hx hb hd ht (fun hc => goT (Sum.inl.inj ((if_pos hc).symm.trans hs)).symm) (fun hc => goF (Sum.inl.inj ((if_neg hc).symm.trans hs)).symm)
  · cases hs
theorem sp_ifnonnull {v0 : Int} (hx : p.tables.exec = Jvm.exec) (hb : c.code = bs) (hd : decode bs pc = .ok (.ifnonnull v0, len)) (hok : ok_i own nm tb j pc (.ifnonnull v0) len aux wx = true) (hs : a_ex (.ifnonnull v0) aux k j L st D M = some (.inl (k', j', L', st', D', M'))) (hL : LH ad ls nL L) (hLv : LV n L) (hSv : ∀ v ∈ st, vok n v) (hK : k' = k → D' = D → M' = M → ∀ ls' : Array Slot, LH ad ls' nL L' → LV n L' → (∀ v ∈ st', vok n v) → W p l e R s m args below meth c H locs cells slots Q (F0 m (a_pc tb j') ls' (st'.map (cv ad)))) : W p l e R s m args below meth c H locs cells slots Q (F0 m pc ls (st.map (cv ad))) := by
  simp only [ok_i, Bool.and_eq_true, beq_iff_eq, decide_eq_true_eq] at hok
  obtain ⟨rfl, hn, ht⟩ := hok
  dsimp only [a_ex] at hs
  split at hs
  · rename_i x r
    simp only [a_nx, Option.some.injEq, Sum.inl.injEq, Prod.mk.injEq] at hs
    obtain ⟨rfl, rfl, rfl, rfl, rfl, rfl⟩ := hs
    exact lv_ifnonnull hx hb hd ht (hK rfl rfl rfl ls hL hLv (List.forall_mem_cons.mp hSv).2)
  · rename_i r
    simp only [a_nx, Option.some.injEq, Sum.inl.injEq, Prod.mk.injEq] at hs
    obtain ⟨rfl, rfl, rfl, rfl, rfl, rfl⟩ := hs
    refine lv_ifnonnullN hx hb hd ?_
    rw [← hn]
    exact hK rfl rfl rfl ls hL hLv (List.forall_mem_cons.mp hSv).2
  · cases hs
theorem sp_tableswitch {v0 v1 v2 : Int} {v3 : Array Int} (hx : p.tables.exec = Jvm.exec) (hb : c.code = bs) (hd : decode bs pc = .ok (.tableswitch v0 v1 v2 v3, len)) (hok : ok_i own nm tb j pc (.tableswitch v0 v1 v2 v3) len aux wx = true) (hs : a_ex (.tableswitch v0 v1 v2 v3) aux k j L st D M = some (.inl (k', j', L', st', D', M'))) (hL : LH ad ls nL L) (hLv : LV n L) (hSv : ∀ v ∈ st, vok n v) (hK : k' = k → D' = D → M' = M → ∀ ls' : Array Slot, LH ad ls' nL L' → LV n L' → (∀ v ∈ st', vok n v) → W p l e R s m args below meth c H locs cells slots Q (F0 m (a_pc tb j') ls' (st'.map (cv ad)))) : W p l e R s m args below meth c H locs cells slots Q (F0 m pc ls (st.map (cv ad))) := by
  simp only [ok_i, Bool.and_eq_true, decide_eq_true_eq] at hok
  obtain ⟨rfl, rfl, hdf, h2, hall⟩ := hok
  dsimp only [a_ex] at hs
  split at hs
  · rename_i x r
    simp only [a_nx, Option.some.injEq, Sum.inl.injEq, Prod.mk.injEq] at hs
    obtain ⟨rfl, rfl, rfl, rfl, rfl, rfl⟩ := hs
    have hSv2 := (List.forall_mem_cons.mp hSv).2
    have hgo := hK rfl rfl rfl ls hL hLv hSv2
    by_cases hx1 : x.toInt < 0 ∨ (aux.length : Int) - 2 < x.toInt
    · have e1 : a_tsw x aux = a_hd aux := by unfold a_tsw; rw [if_pos hx1]
      rw [e1] at hgo
      exact lv_tableOut hx hb hd hx1 hdf hgo
    · have e1 : a_tsw x aux = aux.getD (x.toInt.toNat + 1) 0 := by unfold a_tsw; rw [if_neg hx1]
      rw [e1] at hgo
      have hlt : x.toInt.toNat < aux.length - 1 := by omega
      have h3 := List.all_eq_true.mp hall x.toInt.toNat (List.mem_range.mpr hlt)
      cases ho : v3[x.toInt.toNat]? with
      | none => simp only [ho] at h3; cases h3
      | some off =>
        simp only [ho, decide_eq_true_eq] at h3
        exact lv_tableIn hx hb hd (fun q => hx1 (Or.inl q)) (fun q => hx1 (Or.inr q)) (by rw [Int.sub_zero]; exact ho) h3 hgo
  · cases hs
end SP
end
section
-- SOUNDNESS, the instructions that touch the heap
def a_tys (cA : ClassId × ClassId × ClassId) : List (ClassId × FieldType) := [(cA.1, .int), (cA.2.1, .boolean), (cA.2.2, .object RX1)]
def a_roN (ro : Nat → Nat → Int32) (r : Nat) : Nat := if r = 0 then (ro 4 0).toNatClampNeg else 4
/-- what holds of the tables, of the constants and of the script at a method's entry -/
def EV (dC : Nat → ClassId) (dI : Nat → Nat → Nat) (cA : ClassId × ClassId × ClassId) (adr : Nat → Nat) (ro : Nat → Nat → Int32) (A : Nat → Prop) (U : State) : Prop :=
  va_K (dC, dI) classes (a_tys cA) U ∧ (∀ w ∈ lw_tbl, a_isN w = true → va_Nw w U) ∧ va_AO RX1 U ∧ (∀ r, 0 < r → r < 4 → va_Z "CornWay" (a_snm r) "[I" (.ref (adr r)) A U U.heap) ∧ (∀ r, r < 4 → va_T .int (adr r) (a_roN ro r) (fun j => .int (ro r j)) A U U.heap) ∧ ro 4 0 = nI (ro 4 0).toNatClampNeg
/-- the world in the heap -/
def WH (dC : Nat → ClassId) (dI : Nat → Nat → Nat) (cA : ClassId × ClassId × ClassId) (adr : Nat → Nat) (ro : Nat → Nat → Int32) (A : Nat → Prop) (H0 H : Heap) (locs : List Loc) (D : ADd) (M : AMm) (ad : Nat → Nat) : Prop :=
  va_P (dC, dI) classes (wso cA ad D M) H ∧ va_D A (wso cA ad D M) ∧ va_S A H0 H locs ∧ dok D ∧ D.length ≤ 1000 ∧ (∀ r, r < 4 → ad (1000000 + r) = adr r) ∧ ∀ r, r < 5 → M (1000000 + r) = ro r
theorem roL_N {M : AMm} {ro : Nat → Nat → Int32} (h : ∀ r, r < 5 → M (1000000 + r) = ro r) (r : Nat) : a_roL M r = a_roN ro r := by
  unfold a_roL a_roN
  rw [show M 1000004 = ro 4 from h 4 (by decide)]
theorem wso_push {cA : ClassId × ClassId × ClassId} {ad : Nat → Nat} {D : ADd} {M M' : AMm} {q : Nat} {c : ADc} (hd : dok D) (hc : cok D.length c) (hM : ∀ i, i < D.length → M' i = M i) (h3 : D.length ≤ 1000) : wso cA (va_up ad D.length q) (D ++ [c]) M' = wso cA ad D M ++ [(q, ce cA ad c (M' D.length))] := by
  have ha : agr D.length ad (va_up ad D.length q) := ⟨fun i hi => by unfold va_up; rw [if_neg (by omega)], fun i h1 h2 => by unfold va_up; rw [if_neg (by omega)]⟩
  unfold wso
  rw [List.mapIdx_append]
  congr 1
  · rw [show D.mapIdx (fun i c => (va_up ad D.length q i, ce cA (va_up ad D.length q) c (M' i))) = wso cA (va_up ad D.length q) D M' from rfl, wso_agr M' ha hd]
    apply List.ext_getElem?
    intro i
    unfold wso
    rw [List.getElem?_mapIdx, List.getElem?_mapIdx]
    cases hi : D[i]? with
    | none => rfl
    | some x => show some _ = some _; rw [hM i (List.getElem?_eq_some_iff.mp hi).1]
  · have h0 : ([c].mapIdx (fun i c => (va_up ad D.length q (i + D.length), ce cA (va_up ad D.length q) c (M' (i + D.length))))) = [(va_up ad D.length q (0 + D.length), ce cA (va_up ad D.length q) c (M' (0 + D.length)))] := rfl
    rw [h0, Nat.zero_add, ce_agr ha hc, show va_up ad D.length q D.length = q from by unfold va_up; rw [if_pos rfl]]
theorem agr_up {ad : Nat → Nat} {n q : Nat} (h : n ≤ 1000) : agr n ad (va_up ad n q) := ⟨fun i hi => by unfold va_up; rw [if_neg (by omega)], fun i h1 h2 => by unfold va_up; rw [if_neg (by omega)]⟩
theorem dok_push {D : ADd} {c : ADc} (h : dok D) (hc : cok (D.length + 1) c) : dok (D ++ [c]) := by
  intro i x hx
  rw [List.length_append, List.length_singleton]
  rw [List.getElem?_append] at hx
  split at hx
  · exact cok_up (Nat.le_succ _) (h i x hx)
  · rename_i hn
    cases hi : i - D.length with
    | zero => rw [hi] at hx; obtain rfl := Option.some.inj hx; exact hc
    | succ z => rw [hi] at hx; cases hx
theorem dok_set {D : ADd} {a : Nat} {c : ADc} (h : dok D) (hc : cok D.length c) : dok (D.set a c) := by
  intro i x hx
  rw [List.length_set]
  rw [List.getElem?_set] at hx
  split at hx
  · split at hx
    · obtain rfl := Option.some.inj hx; exact hc
    · cases hx
  · exact h i x hx
theorem szs_push {D : ADd} {c : ADc} : a_szs (D ++ [c]) = a_szs D + a_sz c := by unfold a_szs; simp
theorem szs_set {D : ADd} {a : Nat} {c c' : ADc} (h : D[a]? = some c) (hz : a_sz c' = a_sz c) : a_szs (D.set a c') = a_szs D := by
  unfold a_szs
  rw [List.map_set, hz]
  congr 1
  exact set_self (by rw [List.getElem?_map, h]; rfl)
def a_dfc (ci : Nat) (ty0 : Nat → FieldType) (N : Nat) : Bool := (a_dfs.getD ci []).length == N && (List.range N).all (fun j => match (a_dfs.getD ci [])[j]? with
  | some none => decide (defaultValue (ty0 j) = .int 0)
  | some (some none) => decide (defaultValue (ty0 j) = .null)
  | _ => false)
theorem a_dfc_ok {ci N : Nat} {ty0 : Nat → FieldType} (h : a_dfc ci ty0 N = true) : (a_dfs.getD ci []).length = N ∧ (∀ a : Nat, ¬ some (some a) ∈ a_dfs.getD ci []) ∧ ∀ (ad : Nat → Nat) (j : Nat), j < N → defaultValue (ty0 j) = vp_V ((a_dfs.getD ci []).mapIdx (a_fv ad (fun _ => 0))) j := by
  unfold a_dfc at h
  simp only [Bool.and_eq_true, beq_iff_eq] at h
  obtain ⟨h1, h2⟩ := h
  have h3 : ∀ j, j < N → _ := fun j hj => List.all_eq_true.mp h2 j (List.mem_range.mpr hj)
  refine ⟨h1, fun a ha => ?_, fun ad j hj => ?_⟩
  · obtain ⟨j, hj⟩ := List.getElem?_of_mem ha
    have h4 := h3 j (by rw [← h1]; exact (List.getElem?_eq_some_iff.mp hj).1)
    rw [hj] at h4
    cases h4
  · have h4 := h3 j hj
    unfold vp_V
    rw [List.getD_eq_getElem?_getD, List.getElem?_mapIdx]
    split at h4
    · rename_i hq; rw [hq]; exact of_decide_eq_true h4
    · rename_i hq; rw [hq]; exact of_decide_eq_true h4
    · cases h4
theorem dfc_0 : a_dfc 0 tyX0 3 = true := by decide +kernel
theorem dfc_1 : a_dfc 1 tyX1 9 = true := by decide +kernel
theorem dfc_2 : a_dfc 2 tyX2 5 = true := by decide +kernel
theorem dfc_3 : a_dfc 3 tyX3 9 = true := by decide +kernel
theorem dfc_4 : a_dfc 4 tyX4 18 = true := by decide +kernel
theorem dfc_5 : a_dfc 5 tyX5 21 = true := by decide +kernel
theorem dfs_ok : ∀ (ci : Nat) (q : vw_C), classes[ci]? = some q → ∃ ty0 : Nat → FieldType, (∀ k, k < q.2.2 → parseFieldDescriptor (q.2.1 k).2.2.1 = some (ty0 k)) ∧ (a_dfs.getD ci []).length = q.2.2 ∧ (∀ a : Nat, ¬ some (some a) ∈ a_dfs.getD ci []) ∧ ∀ (ad : Nat → Nat) (j : Nat), j < q.2.2 → defaultValue (ty0 j) = vp_V ((a_dfs.getD ci []).mapIdx (a_fv ad (fun _ => 0))) j := by
  intro ci q h
  match ci, h with
  | 0, h => obtain rfl := Option.some.inj h; exact ⟨tyX0, tyX0_ok, a_dfc_ok dfc_0⟩
  | 1, h => obtain rfl := Option.some.inj h; exact ⟨tyX1, tyX1_ok, a_dfc_ok dfc_1⟩
  | 2, h => obtain rfl := Option.some.inj h; exact ⟨tyX2, tyX2_ok, a_dfc_ok dfc_2⟩
  | 3, h => obtain rfl := Option.some.inj h; exact ⟨tyX3, tyX3_ok, a_dfc_ok dfc_3⟩
  | 4, h => obtain rfl := Option.some.inj h; exact ⟨tyX4, tyX4_ok, a_dfc_ok dfc_4⟩
  | 5, h => obtain rfl := Option.some.inj h; exact ⟨tyX5, tyX5_ok, a_dfc_ok dfc_5⟩
  | n + 6, h => simp [classes] at h
section SH
variable {p : Program} {l : Launch} {e : Env} {R : Room} {s : State} {m : MethodId} {args : Array Value} {below : List Frame} {meth : Method} {c : Code} {H : Heap} {locs : List Loc} {cells slots : Nat} {Q : State → Prop} {bs : ByteArray} {own nm : String} {tb : List AEn} {ad : Nat → Nat} {ls : Array Slot} {nL k j pc len k' j' : Nat} {aux wx : List Nat} {L L' : ALo} {st st' : List Value} {D D' : ADd} {M M' : AMm}
variable {dC : Nat → ClassId} {dI : Nat → Nat → Nat} {cA : ClassId × ClassId × ClassId} {adr : Nat → Nat} {ro : Nat → Nat → Int32} {A : Nat → Prop}
/-- what goes on from the next state -/
def KON (p : Program) (l : Launch) (e : Env) (R : Room) (s : State) (m : MethodId) (args : Array Value) (below : List Frame) (meth : Method) (c : Code) (Q : State → Prop) (dC : Nat → ClassId) (dI : Nat → Nat → Nat) (cA : ClassId × ClassId × ClassId) (adr : Nat → Nat) (ro : Nat → Nat → Int32) (A : Nat → Prop) (tb : List AEn) (nL cells slots : Nat) (D : ADd) (ad : Nat → Nat) (j' : Nat) (L' : ALo) (st' : List Value) (D' : ADd) (M' : AMm) : Prop :=
  ∀ (ls' : Array Slot) (H' : Heap) (locs' : List Loc) (ad' : Nat → Nat), WH dC dI cA adr ro A s.heap H' locs' D' M' ad' → LH ad' ls' nL L' → LV D'.length L' → (∀ v ∈ st', vok D'.length v) → agr D.length ad ad' → W p l e R s m args below meth c H' locs' (cells + (D'.length - D.length)) (slots + (a_szs D' - a_szs D)) Q (F0 m (a_pc tb j') ls' (st'.map (cv ad')))
theorem KON.same (h : KON p l e R s m args below meth c Q dC dI cA adr ro A tb nL cells slots D ad j' L' st' D' M') (hl : D'.length = D.length) (hz : a_szs D' = a_szs D) {ls' : Array Slot} {H' : Heap} {locs' : List Loc} (hW : WH dC dI cA adr ro A s.heap H' locs' D' M' ad) (hL : LH ad ls' nL L') (hV : LV D'.length L') (hS : ∀ v ∈ st', vok D'.length v) : W p l e R s m args below meth c H' locs' cells slots Q (F0 m (a_pc tb j') ls' (st'.map (cv ad))) := by
  have q := h ls' H' locs' ad hW hL hV hS agr_rf
  rw [hl, hz, Nat.sub_self, Nat.sub_self, Nat.add_zero, Nat.add_zero] at q
  exact q
theorem sh_iaload (hx : p.tables.exec = Jvm.exec) (hb : c.code = bs) (hml : c.maxLocals = nL) (hown : s.vm.findClass own = some m.cls) (hts : ∀ w ∈ GW, w.before args s = true) (hnm : nm = "<init>" → meth.name = "<init>") (hA : ∀ q, s.heap.size ≤ q → A q) (hE : EV dC dI cA adr ro A s) (hR1 : 1 ≤ R.frames ∧ 64 ≤ R.locals) (hR : cells + (D'.length - D.length) ≤ R.cells ∧ slots + (a_szs D' - a_szs D) ≤ R.slots) (hd : decode bs pc = .ok (.iaload, len)) (hok : ok_i own nm tb j pc (.iaload) len aux wx = true) (hs : a_ex (.iaload) aux k j L st D M = some (.inl (k', j', L', st', D', M'))) (hW : WH dC dI cA adr ro A s.heap H locs D M ad) (hL : LH ad ls nL L) (hLv : LV D.length L) (hSv : ∀ v ∈ st, vok D.length v) (hK : KON p l e R s m args below meth c Q dC dI cA adr ro A tb nL cells slots D ad j' L' st' D' M') : W p l e R s m args below meth c H locs cells slots Q (F0 m pc ls (st.map (cv ad))) := by
  have hW0 := hW
  obtain ⟨hP, hD, hS, hdk, hd3, had, hro⟩ := hW
  simp only [ok_i, Bool.and_eq_true, beq_iff_eq] at hok
  obtain ⟨rfl, hn⟩ := hok
  dsimp only [a_ex, a_ald] at hs
  split at hs
  · rename_i i a r
    have h2 := List.forall_mem_cons.mp (List.forall_mem_cons.mp hSv).2
    split at hs
    · rename_i kd n hDa
      split at hs
      · rename_i hkd
        subst hkd
        split at hs
        · cases hs
        · rename_i hin
          simp only [a_nx, Option.some.injEq, Sum.inl.injEq, Prod.mk.injEq] at hs
          obtain ⟨rfl, rfl, rfl, rfl, rfl, rfl⟩ := hs
          refine va_iald (t0 := 0) hx hb hE.1 hP a (wso_at hDa) rfl hin hd ?_
          rw [← hn]
          exact hK.same rfl rfl hW0 hL hLv (List.forall_mem_cons.mpr ⟨trivial, h2.2⟩)
      · cases hs
    · cases hs
    · rename_i hDa
      split at hs
      · rename_i hra
        split at hs
        · cases hs
        · rename_i hin
          simp only [a_nx, Option.some.injEq, Sum.inl.injEq, Prod.mk.injEq] at hs
          obtain ⟨rfl, rfl, rfl, rfl, rfl, rfl⟩ := hs
          obtain ⟨-, hr1, hr2⟩ := hra
          obtain ⟨r0, hr3⟩ := Nat.exists_eq_add_of_le (show 1000000 ≤ (a : Nat) from hr1)
          have hr4 : (a : Nat) < 1000004 := hr2
          subst hr3
          have hr0 : r0 < 4 := by omega
          have hT := hE.2.2.2.2.1 r0 hr0
          rw [show 1000000 + r0 - 1000000 = r0 by omega, roL_N hro] at hin
          rw [← had r0 hr0] at hT
          refine va_ti hx hb hT hS hin (v := .int (M (1000000 + r0) i.toNatClampNeg)) (by rw [hro r0 (by omega)]) hd ?_
          rw [← hn]
          exact hK.same rfl rfl hW0 hL hLv (List.forall_mem_cons.mpr ⟨trivial, h2.2⟩)
      · cases hs
  · cases hs
theorem sh_baload (hx : p.tables.exec = Jvm.exec) (hb : c.code = bs) (hml : c.maxLocals = nL) (hown : s.vm.findClass own = some m.cls) (hts : ∀ w ∈ GW, w.before args s = true) (hnm : nm = "<init>" → meth.name = "<init>") (hA : ∀ q, s.heap.size ≤ q → A q) (hE : EV dC dI cA adr ro A s) (hR1 : 1 ≤ R.frames ∧ 64 ≤ R.locals) (hR : cells + (D'.length - D.length) ≤ R.cells ∧ slots + (a_szs D' - a_szs D) ≤ R.slots) (hd : decode bs pc = .ok (.baload, len)) (hok : ok_i own nm tb j pc (.baload) len aux wx = true) (hs : a_ex (.baload) aux k j L st D M = some (.inl (k', j', L', st', D', M'))) (hW : WH dC dI cA adr ro A s.heap H locs D M ad) (hL : LH ad ls nL L) (hLv : LV D.length L) (hSv : ∀ v ∈ st, vok D.length v) (hK : KON p l e R s m args below meth c Q dC dI cA adr ro A tb nL cells slots D ad j' L' st' D' M') : W p l e R s m args below meth c H locs cells slots Q (F0 m pc ls (st.map (cv ad))) := by
  have hW0 := hW
  obtain ⟨hP, hD, hS, hdk, hd3, had, hro⟩ := hW
  simp only [ok_i, Bool.and_eq_true, beq_iff_eq] at hok
  obtain ⟨rfl, hn⟩ := hok
  dsimp only [a_ex, a_ald] at hs
  split at hs
  · rename_i i a r
    have h2 := List.forall_mem_cons.mp (List.forall_mem_cons.mp hSv).2
    split at hs
    · rename_i kd n hDa
      split at hs
      · rename_i hkd
        subst hkd
        split at hs
        · cases hs
        · rename_i hin
          simp only [a_nx, Option.some.injEq, Sum.inl.injEq, Prod.mk.injEq] at hs
          obtain ⟨rfl, rfl, rfl, rfl, rfl, rfl⟩ := hs
          refine va_zald (t0 := 1) hx hb hE.1 hP a (wso_at hDa) rfl hin hd ?_
          rw [← hn]
          exact hK.same rfl rfl hW0 hL hLv (List.forall_mem_cons.mpr ⟨trivial, h2.2⟩)
      · cases hs
    · cases hs
    · rename_i hDa
      split at hs
      · rename_i hra
        split at hs
        · cases hs
        · rename_i hin
          simp only [a_nx, Option.some.injEq, Sum.inl.injEq, Prod.mk.injEq] at hs
          obtain ⟨rfl, rfl, rfl, rfl, rfl, rfl⟩ := hs
          exact absurd hra.1 (by decide)
      · cases hs
  · cases hs
theorem sh_iastore (hx : p.tables.exec = Jvm.exec) (hb : c.code = bs) (hml : c.maxLocals = nL) (hown : s.vm.findClass own = some m.cls) (hts : ∀ w ∈ GW, w.before args s = true) (hnm : nm = "<init>" → meth.name = "<init>") (hA : ∀ q, s.heap.size ≤ q → A q) (hE : EV dC dI cA adr ro A s) (hR1 : 1 ≤ R.frames ∧ 64 ≤ R.locals) (hR : cells + (D'.length - D.length) ≤ R.cells ∧ slots + (a_szs D' - a_szs D) ≤ R.slots) (hd : decode bs pc = .ok (.iastore, len)) (hok : ok_i own nm tb j pc (.iastore) len aux wx = true) (hs : a_ex (.iastore) aux k j L st D M = some (.inl (k', j', L', st', D', M'))) (hW : WH dC dI cA adr ro A s.heap H locs D M ad) (hL : LH ad ls nL L) (hLv : LV D.length L) (hSv : ∀ v ∈ st, vok D.length v) (hK : KON p l e R s m args below meth c Q dC dI cA adr ro A tb nL cells slots D ad j' L' st' D' M') : W p l e R s m args below meth c H locs cells slots Q (F0 m pc ls (st.map (cv ad))) := by
  have hW0 := hW
  obtain ⟨hP, hD, hS, hdk, hd3, had, hro⟩ := hW
  simp only [ok_i, Bool.and_eq_true, beq_iff_eq] at hok
  obtain ⟨rfl, hn⟩ := hok
  dsimp only [a_ex, a_ast] at hs
  split at hs
  · rename_i v i a r
    have h2 := List.forall_mem_cons.mp (List.forall_mem_cons.mp (List.forall_mem_cons.mp hSv).2).2
    split at hs
    · rename_i kd n hDa
      split at hs
      · rename_i hkd
        subst hkd
        split at hs
        · cases hs
        · rename_i hin
          simp only [a_nx, Option.some.injEq, Sum.inl.injEq, Prod.mk.injEq] at hs
          obtain ⟨rfl, rfl, rfl, rfl, rfl, rfl⟩ := hs
          refine va_iast (t0 := 0) hx hb hE.1 hP hD hS a (wso_at hDa) rfl hin hd (fun H1 locs1 hP1 hD1 hS1 => ?_)
          have e1 : (wso cA ad D M).set a (ad a, ce cA ad (.inr (.inl (0, n))) (ms M a i.toNatClampNeg v a)) = wso cA ad D (ms M a i.toNatClampNeg v) := wso_one hDa (set_self hDa).symm (fun i hi => ms_off hi)
          rw [ms_row] at e1
          have e2 : (wso cA ad D M).set a (ad a, .inl (if (0 : Nat) = 0 then cA.1 else cA.2.1, n, .inl (upd (M a) i.toNatClampNeg v))) = wso cA ad D (ms M a i.toNatClampNeg v) := e1
          rw [← hn]
          have hal := (List.getElem?_eq_some_iff.mp hDa).1
          exact hK.same rfl rfl ⟨by rw [← e2]; exact hP1, by rw [← e2]; exact hD1, hS1, hdk, hd3, had, fun r hr => by rw [ms_off (by omega)]; exact hro r hr⟩ hL hLv h2.2
      · cases hs
    · cases hs
  · cases hs
theorem sh_bastore (hx : p.tables.exec = Jvm.exec) (hb : c.code = bs) (hml : c.maxLocals = nL) (hown : s.vm.findClass own = some m.cls) (hts : ∀ w ∈ GW, w.before args s = true) (hnm : nm = "<init>" → meth.name = "<init>") (hA : ∀ q, s.heap.size ≤ q → A q) (hE : EV dC dI cA adr ro A s) (hR1 : 1 ≤ R.frames ∧ 64 ≤ R.locals) (hR : cells + (D'.length - D.length) ≤ R.cells ∧ slots + (a_szs D' - a_szs D) ≤ R.slots) (hd : decode bs pc = .ok (.bastore, len)) (hok : ok_i own nm tb j pc (.bastore) len aux wx = true) (hs : a_ex (.bastore) aux k j L st D M = some (.inl (k', j', L', st', D', M'))) (hW : WH dC dI cA adr ro A s.heap H locs D M ad) (hL : LH ad ls nL L) (hLv : LV D.length L) (hSv : ∀ v ∈ st, vok D.length v) (hK : KON p l e R s m args below meth c Q dC dI cA adr ro A tb nL cells slots D ad j' L' st' D' M') : W p l e R s m args below meth c H locs cells slots Q (F0 m pc ls (st.map (cv ad))) := by
  have hW0 := hW
  obtain ⟨hP, hD, hS, hdk, hd3, had, hro⟩ := hW
  simp only [ok_i, Bool.and_eq_true, beq_iff_eq] at hok
  obtain ⟨rfl, hn⟩ := hok
  dsimp only [a_ex, a_ast] at hs
  split at hs
  · rename_i v i a r
    have h2 := List.forall_mem_cons.mp (List.forall_mem_cons.mp (List.forall_mem_cons.mp hSv).2).2
    split at hs
    case isFalse => cases hs
    rename_i hv01
    split at hs
    · rename_i kd n hDa
      split at hs
      · rename_i hkd
        subst hkd
        split at hs
        · cases hs
        · rename_i hin
          simp only [a_nx, Option.some.injEq, Sum.inl.injEq, Prod.mk.injEq] at hs
          obtain ⟨rfl, rfl, rfl, rfl, rfl, rfl⟩ := hs
          refine va_zast (t0 := 1) hx hb hE.1 hP hD hS a (wso_at hDa) rfl hin hd (fun H1 locs1 hP1 hD1 hS1 => ?_)
          rw [show vp_nar .boolean v = v from by rcases hv01 with rfl | rfl <;> rfl] at hP1 hD1
          have e1 : (wso cA ad D M).set a (ad a, ce cA ad (.inr (.inl (1, n))) (ms M a i.toNatClampNeg v a)) = wso cA ad D (ms M a i.toNatClampNeg v) := wso_one hDa (set_self hDa).symm (fun i hi => ms_off hi)
          rw [ms_row] at e1
          have e2 : (wso cA ad D M).set a (ad a, .inl (if (1 : Nat) = 0 then cA.1 else cA.2.1, n, .inl (upd (M a) i.toNatClampNeg v))) = wso cA ad D (ms M a i.toNatClampNeg v) := e1
          rw [← hn]
          have hal := (List.getElem?_eq_some_iff.mp hDa).1
          exact hK.same rfl rfl ⟨by rw [← e2]; exact hP1, by rw [← e2]; exact hD1, hS1, hdk, hd3, had, fun r hr => by rw [ms_off (by omega)]; exact hro r hr⟩ hL hLv h2.2
      · cases hs
    · cases hs
  · cases hs
theorem sh_aaload (hx : p.tables.exec = Jvm.exec) (hb : c.code = bs) (hml : c.maxLocals = nL) (hown : s.vm.findClass own = some m.cls) (hts : ∀ w ∈ GW, w.before args s = true) (hnm : nm = "<init>" → meth.name = "<init>") (hA : ∀ q, s.heap.size ≤ q → A q) (hE : EV dC dI cA adr ro A s) (hR1 : 1 ≤ R.frames ∧ 64 ≤ R.locals) (hR : cells + (D'.length - D.length) ≤ R.cells ∧ slots + (a_szs D' - a_szs D) ≤ R.slots) (hd : decode bs pc = .ok (.aaload, len)) (hok : ok_i own nm tb j pc (.aaload) len aux wx = true) (hs : a_ex (.aaload) aux k j L st D M = some (.inl (k', j', L', st', D', M'))) (hW : WH dC dI cA adr ro A s.heap H locs D M ad) (hL : LH ad ls nL L) (hLv : LV D.length L) (hSv : ∀ v ∈ st, vok D.length v) (hK : KON p l e R s m args below meth c Q dC dI cA adr ro A tb nL cells slots D ad j' L' st' D' M') : W p l e R s m args below meth c H locs cells slots Q (F0 m pc ls (st.map (cv ad))) := by
  have hW0 := hW
  obtain ⟨hP, hD, hS, hdk, hd3, had, hro⟩ := hW
  simp only [ok_i, Bool.and_eq_true, beq_iff_eq] at hok
  obtain ⟨rfl, hn⟩ := hok
  dsimp only [a_ex] at hs
  split at hs
  · rename_i i a r
    have h2 := List.forall_mem_cons.mp (List.forall_mem_cons.mp hSv).2
    split at hs
    · rename_i rs hDa
      split at hs
      · cases hs
      · rename_i hin
        simp only [a_nx, Option.some.injEq, Sum.inl.injEq, Prod.mk.injEq] at hs
        obtain ⟨rfl, rfl, rfl, rfl, rfl, rfl⟩ := hs
        refine va_aldq (t0 := 2) hx hb hE.1 hP a (wso_at hDa) rfl hin hd ?_
        rw [← hn, ← cv_rf]
        refine hK.same rfl rfl hW0 hL hLv (List.forall_mem_cons.mpr ⟨?_, h2.2⟩)
        cases hg : rs.getD i.toNatClampNeg none with
        | none => trivial
        | some q =>
          refine hdk a _ hDa q ?_
          rw [List.getD_eq_getElem?_getD] at hg
          cases hr : rs[i.toNatClampNeg]? with
          | none => rw [hr] at hg; cases hg
          | some o => rw [hr] at hg; have : o = some q := hg; subst this; exact List.mem_of_getElem? hr
    · cases hs
  · cases hs
theorem sh_aastore (hx : p.tables.exec = Jvm.exec) (hb : c.code = bs) (hml : c.maxLocals = nL) (hown : s.vm.findClass own = some m.cls) (hts : ∀ w ∈ GW, w.before args s = true) (hnm : nm = "<init>" → meth.name = "<init>") (hA : ∀ q, s.heap.size ≤ q → A q) (hE : EV dC dI cA adr ro A s) (hR1 : 1 ≤ R.frames ∧ 64 ≤ R.locals) (hR : cells + (D'.length - D.length) ≤ R.cells ∧ slots + (a_szs D' - a_szs D) ≤ R.slots) (hd : decode bs pc = .ok (.aastore, len)) (hok : ok_i own nm tb j pc (.aastore) len aux wx = true) (hs : a_ex (.aastore) aux k j L st D M = some (.inl (k', j', L', st', D', M'))) (hW : WH dC dI cA adr ro A s.heap H locs D M ad) (hL : LH ad ls nL L) (hLv : LV D.length L) (hSv : ∀ v ∈ st, vok D.length v) (hK : KON p l e R s m args below meth c Q dC dI cA adr ro A tb nL cells slots D ad j' L' st' D' M') : W p l e R s m args below meth c H locs cells slots Q (F0 m pc ls (st.map (cv ad))) := by
  have hW0 := hW
  obtain ⟨hP, hD, hS, hdk, hd3, had, hro⟩ := hW
  simp only [ok_i, Bool.and_eq_true, beq_iff_eq] at hok
  obtain ⟨rfl, hn⟩ := hok
  dsimp only [a_ex] at hs
  split at hs
  · rename_i q i a r
    have h1 := List.forall_mem_cons.mp hSv
    have h2 := List.forall_mem_cons.mp (List.forall_mem_cons.mp h1.2).2
    split at hs
    · rename_i rs hDa
      split at hs
      · cases hs
      · rename_i hin
        split at hs
        · rename_i hF
          simp only [a_nx, Option.some.injEq, Sum.inl.injEq, Prod.mk.injEq] at hs
          obtain ⟨rfl, rfl, rfl, rfl, rfl, rfl⟩ := hs
          obtain ⟨fs, hDq⟩ : ∃ fs, D[q]? = some (.inl (1, fs)) := by
            unfold a_isF at hF
            split at hF
            · rename_i fs hq; exact ⟨fs, hq⟩
            · cases hF
          have hql := (List.getElem?_eq_some_iff.mp hDq).1
          refine va_astq (t0 := 2) (ci := 1) (r := (RX1, TX1, 9)) hx hb hE.1 hP hD hS a q (wso_at hDa) rfl (wso_at hDq) rfl hin hd (fun H1 locs1 hP1 hD1 hS1 => ?_)
          have hlt : i.toNatClampNeg < rs.length := Nat.not_le.mp fun z => hin (Or.inr z)
          have e0 : (Sum.inl (cA.2.2, rs.length, .inr (.inr (.inr (.inr (va_up (fun i => (rs.getD i none).map ad) i.toNatClampNeg (some (ad q))))))) : va_E) = ce cA ad (.inr (.inr (rs.set i.toNatClampNeg (some q)))) (M a) := by
            show _ = Sum.inl (cA.2.2, (rs.set i.toNatClampNeg (some q)).length, _)
            rw [List.length_set]
            congr 7
            funext z
            unfold va_up
            rw [List.getD_eq_getElem?_getD, List.getElem?_set]
            by_cases hz : z = i.toNatClampNeg
            · subst hz; rw [if_pos rfl, if_pos rfl, if_pos hlt]; rfl
            · rw [if_neg hz, if_neg (fun w => hz w.symm)]
              show Option.map ad (rs.getD z none) = _
              rw [List.getD_eq_getElem?_getD]
          have e1 : (wso cA ad D M).set a (ad a, Sum.inl (cA.2.2, rs.length, .inr (.inr (.inr (.inr (va_up (fun i => (rs.getD i none).map ad) i.toNatClampNeg (some (ad q)))))))) = wso cA ad (D.set a (.inr (.inr (rs.set i.toNatClampNeg (some q))))) M := by
            rw [e0]; exact wso_one hDa rfl (fun _ _ => rfl)
          rw [← hn]
          refine hK.same (by rw [List.length_set]) (szs_set hDa (by show (rs.set _ _).length = _; rw [List.length_set]; rfl)) ⟨by rw [← e1]; exact hP1, by rw [← e1]; exact hD1, hS1, dok_set hdk (fun b hb => ?_), by rw [List.length_set]; exact hd3, had, hro⟩ hL (by rw [List.length_set]; exact hLv) (by rw [List.length_set]; exact h2.2)
          rcases List.mem_or_eq_of_mem_set hb with z | z
          · exact hdk a _ hDa b z
          · obtain rfl := Option.some.inj z; exact Or.inl hql
        · cases hs
    · cases hs
  · cases hs
theorem sh_arraylength (hx : p.tables.exec = Jvm.exec) (hb : c.code = bs) (hml : c.maxLocals = nL) (hown : s.vm.findClass own = some m.cls) (hts : ∀ w ∈ GW, w.before args s = true) (hnm : nm = "<init>" → meth.name = "<init>") (hA : ∀ q, s.heap.size ≤ q → A q) (hE : EV dC dI cA adr ro A s) (hR1 : 1 ≤ R.frames ∧ 64 ≤ R.locals) (hR : cells + (D'.length - D.length) ≤ R.cells ∧ slots + (a_szs D' - a_szs D) ≤ R.slots) (hd : decode bs pc = .ok (.arraylength, len)) (hok : ok_i own nm tb j pc (.arraylength) len aux wx = true) (hs : a_ex (.arraylength) aux k j L st D M = some (.inl (k', j', L', st', D', M'))) (hW : WH dC dI cA adr ro A s.heap H locs D M ad) (hL : LH ad ls nL L) (hLv : LV D.length L) (hSv : ∀ v ∈ st, vok D.length v) (hK : KON p l e R s m args below meth c Q dC dI cA adr ro A tb nL cells slots D ad j' L' st' D' M') : W p l e R s m args below meth c H locs cells slots Q (F0 m pc ls (st.map (cv ad))) := by
  have hW0 := hW
  obtain ⟨hP, hD, hS, hdk, hd3, had, hro⟩ := hW
  simp only [ok_i, Bool.and_eq_true, beq_iff_eq] at hok
  obtain ⟨rfl, hn⟩ := hok
  dsimp only [a_ex] at hs
  split at hs
  · rename_i a r
    have h2 := List.forall_mem_cons.mp hSv
    split at hs
    · rename_i kd n hDa
      simp only [a_nx, Option.some.injEq, Sum.inl.injEq, Prod.mk.injEq] at hs
      obtain ⟨rfl, rfl, rfl, rfl, rfl, rfl⟩ := hs
      obtain ⟨t0, ty, ht0⟩ : ∃ t0 ty, (a_tys cA)[t0]? = some (if kd = 0 then cA.1 else cA.2.1, ty) := by
        by_cases hk0 : kd = 0
        · rw [if_pos hk0]; exact ⟨0, _, rfl⟩
        · rw [if_neg hk0]; exact ⟨1, _, rfl⟩
      refine va_alen (v := nI n) hx hb hE.1 hP a t0 (wso_at hDa) ht0 rfl hd ?_
      rw [← hn]
      exact hK.same rfl rfl hW0 hL hLv (List.forall_mem_cons.mpr ⟨trivial, h2.2⟩)
    · cases hs
    · rename_i hDa
      split at hs
      · rename_i ha
        subst ha
        simp only [a_nx, Option.some.injEq, Sum.inl.injEq, Prod.mk.injEq] at hs
        obtain ⟨rfl, rfl, rfl, rfl, rfl, rfl⟩ := hs
        have hT := hE.2.2.2.2.1 0 (by decide)
        rw [← had 0 (by decide)] at hT
        refine va_tlen (v := M 1000004 0) hx hb hT hS (by rw [show M 1000004 = ro 4 from hro 4 (by decide)]; exact hE.2.2.2.2.2.symm) hd ?_
        rw [← hn]
        exact hK.same rfl rfl hW0 hL hLv (List.forall_mem_cons.mpr ⟨trivial, h2.2⟩)
      · cases hs
  · cases hs
theorem a_gf_at {a ci sl : Nat} {v : Value} (h : a_gf D M a ci sl = some v) : ∃ (fs : List (Option (Option Nat))) (o : Option (Option Nat)), D[a]? = some (.inl (ci, fs)) ∧ fs[sl]? = some o ∧ cv ad v = a_fv ad (M a) sl o ∧ (dok D → vok D.length v) := by
  unfold a_gf at h
  split at h
  · rename_i c fs hDa
    split at h
    · rename_i hc
      subst hc
      split at h
      · rename_i hf
        obtain rfl := Option.some.inj h
        exact ⟨fs, _, hDa, hf, rfl, fun _ => trivial⟩
      · rename_i r hf
        obtain rfl := Option.some.inj h
        refine ⟨fs, _, hDa, hf, cv_rf ad r, fun hd => ?_⟩
        cases r with
        | none => trivial
        | some q => exact hd a _ hDa q (List.mem_of_getElem? hf)
      · cases h
    · cases h
  · cases h
theorem sh_getfield {v0 : Nat} (hx : p.tables.exec = Jvm.exec) (hb : c.code = bs) (hml : c.maxLocals = nL) (hown : s.vm.findClass own = some m.cls) (hts : ∀ w ∈ GW, w.before args s = true) (hnm : nm = "<init>" → meth.name = "<init>") (hA : ∀ q, s.heap.size ≤ q → A q) (hE : EV dC dI cA adr ro A s) (hR1 : 1 ≤ R.frames ∧ 64 ≤ R.locals) (hR : cells + (D'.length - D.length) ≤ R.cells ∧ slots + (a_szs D' - a_szs D) ≤ R.slots) (hd : decode bs pc = .ok (.getfield v0, len)) (hok : ok_i own nm tb j pc (.getfield v0) len aux wx = true) (hs : a_ex (.getfield v0) aux k j L st D M = some (.inl (k', j', L', st', D', M'))) (hW : WH dC dI cA adr ro A s.heap H locs D M ad) (hL : LH ad ls nL L) (hLv : LV D.length L) (hSv : ∀ v ∈ st, vok D.length v) (hK : KON p l e R s m args below meth c Q dC dI cA adr ro A tb nL cells slots D ad j' L' st' D' M') : W p l e R s m args below meth c H locs cells slots Q (F0 m pc ls (st.map (cv ad))) := by
  have hW0 := hW
  obtain ⟨hP, hD, hS, hdk, hd3, had, hro⟩ := hW
  simp only [ok_i, Bool.and_eq_true, beq_iff_eq] at hok
  obtain ⟨rfl, hn, hfl⟩ := hok
  dsimp only [a_ex] at hs
  split at hs
  · rename_i a r
    have h2 := List.forall_mem_cons.mp hSv
    split at hs
    · rename_i v hg
      simp only [a_nx, Option.some.injEq, Sum.inl.injEq, Prod.mk.injEq] at hs
      obtain ⟨rfl, rfl, rfl, rfl, rfl, rfl⟩ := hs
      obtain ⟨fs, o, hDa, hf, hv, hvk⟩ := a_gf_at (ad := ad) hg
      unfold ok_fl at hfl
      split at hfl
      · rename_i q hc
        simp only [Bool.and_eq_true, decide_eq_true_eq] at hfl
        obtain ⟨hlt, hcls, hw⟩ := hfl
        obtain ⟨hin, -⟩ := cw_all _ q hc
        have hfv : (fs.mapIdx (a_fv ad (M a)))[a_hd aux.tail]? = some (cv ad v) := by rw [List.getElem?_mapIdx, hf, hv]; rfl
        have go : W p l e R s m args below meth c H locs cells slots Q (F0 m (pc + 3) ls ((v :: r).map (cv ad))) := by
          rw [← hn]
          exact hK.same rfl rfl hW0 hL hLv (List.forall_mem_cons.mpr ⟨hvk hdk, h2.2⟩)
        have hsame : ∀ x, s.fieldFound? (q.2.1 (a_hd aux.tail)).1 (q.2.1 (a_hd aux.tail)).2.1 (q.2.1 (a_hd aux.tail)).2.2.1 = some x → s.fieldFound? q.1 (q.2.1 (a_hd aux.tail)).2.1 (q.2.1 (a_hd aux.tail)).2.2.1 = some x := fun x h => by rw [hcls] at h; exact h
        split at hw
        · exact va_get hx hb hts hin hown hE.1 hP a (wso_at hDa) hc _ hlt (hts _ (a_w_in hw rfl)) hsame hfv hd go
        · exact va_getN hx hb hts hin hown hE.1 hP a (wso_at hDa) hc _ hlt (va_Nw.use rfl (hE.2.1 _ (a_w_tbl hw) rfl)) hsame hfv hd go
      · cases hfl
    · cases hs
  · cases hs
/-- a field is put: what the abstract machine does, and what it asks -/
theorem a_pf_at {a ci sl ty : Nat} {v : Value} {kk : ADd → AMm → Option AOu} {x : AOu} (h : a_pf D M a ci sl ty v kk = some x) : ∃ fs : List (Option (Option Nat)), D[a]? = some (.inl (ci, fs)) ∧ sl < fs.length ∧ ((∃ z, v = .int z ∧ fs[sl]? = some none ∧ (ty = 0 ∨ (ty = 1 ∧ (z = 0 ∨ z = 1))) ∧ kk D (ms M a sl z) = some x) ∨ ∃ q, v = .ref q ∧ ty = 2 ∧ kk (D.set a (.inl (ci, fs.set sl (some (some q))))) M = some x) := by
  unfold a_pf at h
  split at h
  · rename_i c fs hDa
    split at h
    · rename_i hc
      subst hc
      split at h
      · rename_i z hf
        exact ⟨fs, hDa, (List.getElem?_eq_some_iff.mp hf).1, Or.inl ⟨z, rfl, hf, Or.inl rfl, h⟩⟩
      · rename_i z hf
        split at h
        · rename_i h01
          exact ⟨fs, hDa, (List.getElem?_eq_some_iff.mp hf).1, Or.inl ⟨z, rfl, hf, Or.inr ⟨rfl, h01⟩, h⟩⟩
        · cases h
      · rename_i y q hf
        exact ⟨fs, hDa, (List.getElem?_eq_some_iff.mp hf).1, Or.inr ⟨q, rfl, rfl, h⟩⟩
      · cases h
    · cases h
  · cases h
theorem sh_putfield {v0 : Nat} (hx : p.tables.exec = Jvm.exec) (hb : c.code = bs) (hml : c.maxLocals = nL) (hown : s.vm.findClass own = some m.cls) (hts : ∀ w ∈ GW, w.before args s = true) (hnm : nm = "<init>" → meth.name = "<init>") (hA : ∀ q, s.heap.size ≤ q → A q) (hE : EV dC dI cA adr ro A s) (hR1 : 1 ≤ R.frames ∧ 64 ≤ R.locals) (hR : cells + (D'.length - D.length) ≤ R.cells ∧ slots + (a_szs D' - a_szs D) ≤ R.slots) (hd : decode bs pc = .ok (.putfield v0, len)) (hok : ok_i own nm tb j pc (.putfield v0) len aux wx = true) (hs : a_ex (.putfield v0) aux k j L st D M = some (.inl (k', j', L', st', D', M'))) (hW : WH dC dI cA adr ro A s.heap H locs D M ad) (hL : LH ad ls nL L) (hLv : LV D.length L) (hSv : ∀ v ∈ st, vok D.length v) (hK : KON p l e R s m args below meth c Q dC dI cA adr ro A tb nL cells slots D ad j' L' st' D' M') : W p l e R s m args below meth c H locs cells slots Q (F0 m pc ls (st.map (cv ad))) := by
  have hW0 := hW
  obtain ⟨hP, hD, hS, hdk, hd3, had, hro⟩ := hW
  simp only [ok_i, Bool.and_eq_true, beq_iff_eq, Bool.or_eq_true] at hok
  obtain ⟨rfl, hn, hfl, hpt, hfi⟩ := hok
  dsimp only [a_ex] at hs
  split at hs
  · rename_i v a r
    have h1 := List.forall_mem_cons.mp hSv
    have h2 := List.forall_mem_cons.mp h1.2
    obtain ⟨fs, hDa, hsl, hcase⟩ := a_pf_at hs
    have hal := (List.getElem?_eq_some_iff.mp hDa).1
    unfold ok_fl at hfl
    unfold ok_pt at hpt
    split at hfl
    · rename_i q hc
      rw [hc] at hpt
      simp only [Bool.and_eq_true, decide_eq_true_eq] at hfl hpt
      obtain ⟨hlt, hcls, hw⟩ := hfl
      obtain ⟨hfin, hty⟩ := hpt
      obtain ⟨hin, ty0, hty0, hnm0⟩ := cw_all _ q hc
      have hsame : ∀ x, s.fieldFound? (q.2.1 (a_hd aux.tail)).1 (q.2.1 (a_hd aux.tail)).2.1 (q.2.1 (a_hd aux.tail)).2.2.1 = some x → s.fieldFound? q.1 (q.2.1 (a_hd aux.tail)).2.1 (q.2.1 (a_hd aux.tail)).2.2.1 = some x := fun x h => by rw [hcls] at h; exact h
      have main : ∀ (ty : FieldType), parseFieldDescriptor (q.2.1 (a_hd aux.tail)).2.2.1 = some ty → narrow ty (cv ad v) = cv ad v → fits ty (cv ad v) = true → (∀ (H1 : Heap) (locs1 : List Loc), va_P (dC, dI) classes ((wso cA ad D M).set a (ad a, .inr (a_hd aux, (fs.mapIdx (a_fv ad (M a))).set (a_hd aux.tail) (cv ad v)))) H1 → va_D A ((wso cA ad D M).set a (ad a, .inr (a_hd aux, (fs.mapIdx (a_fv ad (M a))).set (a_hd aux.tail) (cv ad v)))) → va_S A s.heap H1 locs1 → W p l e R s m args below meth c H1 locs1 cells slots Q (F0 m (pc + 3) ls (r.map (cv ad)))) → W p l e R s m args below meth c H locs cells slots Q (F0 m pc ls ((v :: .ref a :: r).map (cv ad))) := by
        intro ty hdty hna hfit kk
        have hl : a_hd aux.tail < (fs.mapIdx (a_fv ad (M a))).length := by simpa using hsl
        by_cases hf0 : a_hd wx.tail.tail = 0
        · rw [if_pos hf0] at hfin
          have hfin := of_decide_eq_true hfin
          split at hw
          · exact va_put hx hb hts hin ty0 hty0 hnm0 hown hE.1 hP hD hS a (wso_at hDa) hc _ hlt (hts _ (a_w_in hw rfl)) hsame hfin hdty hna hfit hl hd kk
          · exact va_putN hx hb hts hin ty0 hty0 hnm0 hown hE.1 hP hD hS a (wso_at hDa) hc _ hlt (va_Nw.use rfl (hE.2.1 _ (a_w_tbl hw) rfl)) hsame hfin hdty hna hfit hl hd kk
        · rw [if_neg hf0] at hfin
          simp only [Bool.and_eq_true, decide_eq_true_eq] at hfin
          rcases hfi with z | ⟨z1, z2⟩
          · exact absurd z hf0
          · rw [if_pos z2] at hw
            exact va_putF hx hb hts hin ty0 hty0 hnm0 hown hE.1 hP hD hS a (wso_at hDa) hc _ hlt (hts _ (a_w_in hw rfl)) hsame hfin.1 (hnm z1) (hcls.trans hfin.2) hdty hna hfit hl hd kk
      rcases hcase with ⟨z, rfl, hfn, hz, hs2⟩ | ⟨b, rfl, ht2, hs2⟩
      · simp only [a_nx, Option.some.injEq, Sum.inl.injEq, Prod.mk.injEq] at hs2
        obtain ⟨rfl, rfl, rfl, rfl, rfl, rfl⟩ := hs2
        have kk : ∀ (H1 : Heap) (locs1 : List Loc), va_P (dC, dI) classes ((wso cA ad D M).set a (ad a, .inr (a_hd aux, (fs.mapIdx (a_fv ad (M a))).set (a_hd aux.tail) (.int z)))) H1 → va_D A ((wso cA ad D M).set a (ad a, .inr (a_hd aux, (fs.mapIdx (a_fv ad (M a))).set (a_hd aux.tail) (.int z)))) → va_S A s.heap H1 locs1 → W p l e R s m args below meth c H1 locs1 cells slots Q (F0 m (pc + 3) ls (r.map (cv ad))) := by
          intro H1 locs1 hP1 hD1 hS1
          have e1 : (wso cA ad D M).set a (ad a, ce cA ad (.inl (a_hd aux, fs)) (ms M a (a_hd aux.tail) z a)) = wso cA ad D (ms M a (a_hd aux.tail) z) := wso_one hDa (set_self hDa).symm (fun i hi => ms_off hi)
          rw [ms_row] at e1
          have e2 : (wso cA ad D M).set a (ad a, .inr (a_hd aux, (fs.mapIdx (a_fv ad (M a))).set (a_hd aux.tail) (.int z))) = wso cA ad D (ms M a (a_hd aux.tail) z) := by rw [fv_set hfn]; exact e1
          rw [← hn]
          exact hK.same rfl rfl ⟨by rw [← e2]; exact hP1, by rw [← e2]; exact hD1, hS1, hdk, hd3, had, fun r hr => by rw [ms_off (by omega)]; exact hro r hr⟩ hL hLv h2.2
        rcases hz with hz | ⟨hz, h01⟩
        · rw [hz] at hty
          split at hty
          · rename_i hpd; exact main .int hpd rfl rfl kk
          · cases hty
          · cases hty
          · cases hty
          · cases hty
        · rw [hz] at hty
          split at hty
          · cases hty
          · rename_i hpd
            exact main .boolean hpd (by rcases h01 with rfl | rfl <;> rfl) (by rcases h01 with rfl | rfl <;> rfl) kk
          · cases hty
          · cases hty
          · cases hty
      · simp only [a_nx, Option.some.injEq, Sum.inl.injEq, Prod.mk.injEq] at hs2
        obtain ⟨rfl, rfl, rfl, rfl, rfl, rfl⟩ := hs2
        have kk : ∀ (H1 : Heap) (locs1 : List Loc), va_P (dC, dI) classes ((wso cA ad D M).set a (ad a, .inr (a_hd aux, (fs.mapIdx (a_fv ad (M a))).set (a_hd aux.tail) (.ref (ad b))))) H1 → va_D A ((wso cA ad D M).set a (ad a, .inr (a_hd aux, (fs.mapIdx (a_fv ad (M a))).set (a_hd aux.tail) (.ref (ad b))))) → va_S A s.heap H1 locs1 → W p l e R s m args below meth c H1 locs1 cells slots Q (F0 m (pc + 3) ls (r.map (cv ad))) := by
          intro H1 locs1 hP1 hD1 hS1
          have e2 : (wso cA ad D M).set a (ad a, .inr (a_hd aux, (fs.mapIdx (a_fv ad (M a))).set (a_hd aux.tail) (.ref (ad b)))) = wso cA ad (D.set a (.inl (a_hd aux, fs.set (a_hd aux.tail) (some (some b))))) M := by
            rw [fv_setr hsl]
            exact wso_one (c' := .inl (a_hd aux, fs.set (a_hd aux.tail) (some (some b)))) hDa rfl (fun _ _ => rfl)
          rw [← hn]
          refine hK.same (by rw [List.length_set]) (szs_set hDa (by show (fs.set _ _).length = _; rw [List.length_set]; rfl)) ⟨by rw [← e2]; exact hP1, by rw [← e2]; exact hD1, hS1, dok_set hdk (fun x hx => ?_), by rw [List.length_set]; exact hd3, had, hro⟩ hL (by rw [List.length_set]; exact hLv) (by rw [List.length_set]; exact h2.2)
          rcases List.mem_or_eq_of_mem_set hx with z | z
          · exact hdk a _ hDa x z
          · obtain rfl := Option.some.inj (Option.some.inj z)
            exact h1.1
        rw [ht2] at hty
        split at hty
        · cases hty
        · cases hty
        · rename_i hpd; exact main _ hpd rfl rfl kk
        · rename_i hpd; exact main _ hpd rfl rfl kk
        · cases hty
    · cases hfl
  · cases hs
theorem sh_getstatic {v0 : Nat} (hx : p.tables.exec = Jvm.exec) (hb : c.code = bs) (hml : c.maxLocals = nL) (hown : s.vm.findClass own = some m.cls) (hts : ∀ w ∈ GW, w.before args s = true) (hnm : nm = "<init>" → meth.name = "<init>") (hA : ∀ q, s.heap.size ≤ q → A q) (hE : EV dC dI cA adr ro A s) (hR1 : 1 ≤ R.frames ∧ 64 ≤ R.locals) (hR : cells + (D'.length - D.length) ≤ R.cells ∧ slots + (a_szs D' - a_szs D) ≤ R.slots) (hd : decode bs pc = .ok (.getstatic v0, len)) (hok : ok_i own nm tb j pc (.getstatic v0) len aux wx = true) (hs : a_ex (.getstatic v0) aux k j L st D M = some (.inl (k', j', L', st', D', M'))) (hW : WH dC dI cA adr ro A s.heap H locs D M ad) (hL : LH ad ls nL L) (hLv : LV D.length L) (hSv : ∀ v ∈ st, vok D.length v) (hK : KON p l e R s m args below meth c Q dC dI cA adr ro A tb nL cells slots D ad j' L' st' D' M') : W p l e R s m args below meth c H locs cells slots Q (F0 m pc ls (st.map (cv ad))) := by
  have hW0 := hW
  obtain ⟨hP, hD, hS, hdk, hd3, had, hro⟩ := hW
  simp only [ok_i, Bool.and_eq_true, beq_iff_eq, decide_eq_true_eq] at hok
  obtain ⟨rfl, hn, hr, hw⟩ := hok
  dsimp only [a_ex] at hs
  simp only [a_nx, Option.some.injEq, Sum.inl.injEq, Prod.mk.injEq] at hs
  obtain ⟨rfl, rfl, rfl, rfl, rfl, rfl⟩ := hs
  have hZ := hE.2.2.2.1 _ hr.1 hr.2
  rw [← had _ hr.2] at hZ
  have go : W p l e R s m args below meth c H locs cells slots Q (F0 m (pc + 3) ls ((.ref (1000000 + a_hd aux) :: st).map (cv ad))) := by
    rw [← hn]
    exact hK.same rfl rfl hW0 hL hLv (List.forall_mem_cons.mpr ⟨Or.inr ⟨Nat.le_add_right _ _, Nat.add_lt_add_left hr.2 _⟩, hSv⟩)
  split at hw
  · exact va_gets hx hb hZ hS hown (hts _ (a_w_in hw rfl)) (fun _ h => h) hd go
  · exact va_getsN hx hb hZ hS hown (va_Nw.use rfl (hE.2.1 _ (a_w_tbl hw) rfl)) (fun _ h => h) hd go
theorem sh_new {v0 : Nat} (hx : p.tables.exec = Jvm.exec) (hb : c.code = bs) (hml : c.maxLocals = nL) (hown : s.vm.findClass own = some m.cls) (hts : ∀ w ∈ GW, w.before args s = true) (hnm : nm = "<init>" → meth.name = "<init>") (hA : ∀ q, s.heap.size ≤ q → A q) (hE : EV dC dI cA adr ro A s) (hR1 : 1 ≤ R.frames ∧ 64 ≤ R.locals) (hR : cells + (D'.length - D.length) ≤ R.cells ∧ slots + (a_szs D' - a_szs D) ≤ R.slots) (hd : decode bs pc = .ok (.new v0, len)) (hok : ok_i own nm tb j pc (.new v0) len aux wx = true) (hs : a_ex (.new v0) aux k j L st D M = some (.inl (k', j', L', st', D', M'))) (hW : WH dC dI cA adr ro A s.heap H locs D M ad) (hL : LH ad ls nL L) (hLv : LV D.length L) (hSv : ∀ v ∈ st, vok D.length v) (hK : KON p l e R s m args below meth c Q dC dI cA adr ro A tb nL cells slots D ad j' L' st' D' M') : W p l e R s m args below meth c H locs cells slots Q (F0 m pc ls (st.map (cv ad))) := by
  have hW0 := hW
  obtain ⟨hP, hD, hS, hdk, hd3, had, hro⟩ := hW
  simp only [ok_i, Bool.and_eq_true, beq_iff_eq] at hok
  obtain ⟨rfl, hn, hw⟩ := hok
  dsimp only [a_ex] at hs
  split at hs
  · rename_i hlen
    simp only [a_nx, Option.some.injEq, Sum.inl.injEq, Prod.mk.injEq] at hs
    obtain ⟨rfl, rfl, rfl, rfl, rfl, rfl⟩ := hs
    split at hw
    · rename_i q hc
      simp only [Bool.and_eq_true] at hw
      obtain ⟨w1, w2, w3⟩ := hw
      obtain ⟨hin, -⟩ := cw_all _ q hc
      obtain ⟨ty0, hty0, hln, hno, hdf⟩ := dfs_ok _ q hc
      rw [List.length_append, List.length_singleton, szs_push] at hR
      have hsz : a_sz (.inl (a_hd aux, a_dfs.getD (a_hd aux) [])) = q.2.2 := hln
      rw [hsz] at hR
      refine va_new (c0 := c) (fs := (a_dfs.getD (a_hd aux) []).mapIdx (a_fv ad (fun _ => 0))) hx hb hts hin ty0 hty0 hown (hts _ (a_w_in w1 rfl)) (hts _ (a_w_in w2 rfl)) (hts _ (a_w_in w3 rfl)) hE.1 hP hD hS hA hc (hdf ad) (by omega) (by omega) hd (fun b H1 hP1 hD1 hS1 => ?_)
      have e1 : wso cA (va_up ad D.length b) (D ++ [.inl (a_hd aux, a_dfs.getD (a_hd aux) [])]) (mr M D.length (fun _ => 0)) = wso cA ad D M ++ [(b, .inr (a_hd aux, (a_dfs.getD (a_hd aux) []).mapIdx (a_fv ad (fun _ => 0))))] := by
        rw [wso_push (c := .inl (a_hd aux, a_dfs.getD (a_hd aux) [])) (M := M) hdk (fun a ha => absurd ha (hno a)) (fun i hi => mr_off (by omega)) hd3, mr_row]
        rfl
      have hlt9 : D.length < (D ++ [(.inl (a_hd aux, a_dfs.getD (a_hd aux) []) : ADc)]).length := by rw [List.length_append]; exact Nat.lt_succ_self _
      have q2 := hK ls H1 locs (va_up ad D.length b) ⟨by rw [e1]; exact hP1, by rw [e1]; exact hD1, hS1, dok_push hdk (fun a ha => absurd ha (hno a)), by rw [List.length_append, List.length_singleton]; omega, fun r hr => by rw [(agr_up hd3).2 _ (by omega) (by omega)]; exact had r hr, fun r hr => by rw [mr_off (by omega)]; exact hro r hr⟩ (hL.agr (agr_up hd3) hLv) (fun i v hv => vok_up (by rw [List.length_append]; omega) (hLv i v hv)) (List.forall_mem_cons.mpr ⟨Or.inl hlt9, fun v hv => vok_up (by rw [List.length_append]; omega) (hSv v hv)⟩) (agr_up hd3)
      rw [List.length_append, List.length_singleton, szs_push, hsz, show D.length + 1 - D.length = 1 by omega, show a_szs D + q.2.2 - a_szs D = q.2.2 by omega, hn, List.map_cons, map_agr (agr_up hd3) hSv] at q2
      have e3 : cv (va_up ad D.length b) (.ref D.length) = .ref b := by show Value.ref _ = _; unfold va_up; rw [if_pos rfl]
      rw [e3] at q2
      exact q2
    · cases hw
  · cases hs
theorem sh_newarray {v0 : ArrayType} (hx : p.tables.exec = Jvm.exec) (hb : c.code = bs) (hml : c.maxLocals = nL) (hown : s.vm.findClass own = some m.cls) (hts : ∀ w ∈ GW, w.before args s = true) (hnm : nm = "<init>" → meth.name = "<init>") (hA : ∀ q, s.heap.size ≤ q → A q) (hE : EV dC dI cA adr ro A s) (hR1 : 1 ≤ R.frames ∧ 64 ≤ R.locals) (hR : cells + (D'.length - D.length) ≤ R.cells ∧ slots + (a_szs D' - a_szs D) ≤ R.slots) (hd : decode bs pc = .ok (.newarray v0, len)) (hok : ok_i own nm tb j pc (.newarray v0) len aux wx = true) (hs : a_ex (.newarray v0) aux k j L st D M = some (.inl (k', j', L', st', D', M'))) (hW : WH dC dI cA adr ro A s.heap H locs D M ad) (hL : LH ad ls nL L) (hLv : LV D.length L) (hSv : ∀ v ∈ st, vok D.length v) (hK : KON p l e R s m args below meth c Q dC dI cA adr ro A tb nL cells slots D ad j' L' st' D' M') : W p l e R s m args below meth c H locs cells slots Q (F0 m pc ls (st.map (cv ad))) := by
  have hW0 := hW
  obtain ⟨hP, hD, hS, hdk, hd3, had, hro⟩ := hW
  simp only [ok_i, Bool.and_eq_true, beq_iff_eq, decide_eq_true_eq] at hok
  obtain ⟨rfl, hn, hle, hw⟩ := hok
  dsimp only [a_ex] at hs
  split at hs
  · rename_i n r
    have h2 := List.forall_mem_cons.mp hSv
    split at hs
    case isFalse => cases hs
    rename_i hlen
    split at hs
    case isFalse => cases hs
    rename_i hne
    subst hne
    simp only [a_nx, Option.some.injEq, Sum.inl.injEq, Prod.mk.injEq] at hs
    obtain ⟨rfl, rfl, rfl, rfl, rfl, rfl⟩ := hs
    rw [List.length_append, List.length_singleton, szs_push, show a_sz (.inr (.inl (a_hd aux, a_hd aux.tail))) = a_hd aux.tail from rfl] at hR
    split at hw
    · skip
      simp only [Bool.and_eq_true, beq_iff_eq] at hw
      obtain ⟨hk0, hw⟩ := hw
      rw [hk0] at hK
      refine va_newa (atype := .int) (a0 := (a_hd aux.tail, .inl (fun _ => 0))) hx hb (hts _ (a_w_in hw rfl)) (ty := .int) rfl hE.1 hP hD hS hA (fun _ => rfl) (nI_pos (by omega)) (nI_clamp (by omega)) (Nat.le_trans (Nat.mul_le_mul_right _ hle) (by decide)) (by omega) (by omega) hd (fun b cA' H1 hK1 hP1 hD1 hS1 => ?_)
      have hcA : cA' = cA.1 := by
        have z1 : s.vm.findClass ("[" ++ FieldType.int.toString) = some cA' := (hK1.2 3 _ rfl).2
        have z2 : s.vm.findClass ("[" ++ FieldType.int.toString) = some cA.1 := (hE.1.2 0 _ rfl).2
        exact Option.some.inj (z1.symm.trans z2)
      subst hcA
      have e1 : wso cA (va_up ad D.length b) (D ++ [.inr (.inl (0, a_hd aux.tail))]) (mr M D.length (fun _ => 0)) = wso cA ad D M ++ [(b, .inl (cA.1, a_hd aux.tail, .inl (fun _ => 0)))] := by
        rw [wso_push (c := .inr (.inl (0, a_hd aux.tail))) (M := M) hdk trivial (fun i hi => mr_off (by omega)) hd3, mr_row]
        rfl
      have hlt9 : D.length < (D ++ [(.inr (.inl (0, a_hd aux.tail)) : ADc)]).length := by rw [List.length_append]; exact Nat.lt_succ_self _
      have q2 := hK ls H1 locs (va_up ad D.length b) ⟨by rw [e1]; exact hP1, by rw [e1]; exact hD1, hS1, dok_push hdk trivial, by rw [List.length_append, List.length_singleton]; omega, fun r hr => by rw [(agr_up hd3).2 _ (by omega) (by omega)]; exact had r hr, fun r hr => by rw [mr_off (by omega)]; exact hro r hr⟩ (hL.agr (agr_up hd3) hLv) (fun i v hv => vok_up (by rw [List.length_append]; omega) (hLv i v hv)) (List.forall_mem_cons.mpr ⟨Or.inl hlt9, fun v hv => vok_up (by rw [List.length_append]; omega) (h2.2 v hv)⟩) (agr_up hd3)
      rw [List.length_append, List.length_singleton, szs_push, show a_sz (.inr (.inl (0, a_hd aux.tail))) = a_hd aux.tail from rfl, show D.length + 1 - D.length = 1 by omega, show a_szs D + a_hd aux.tail - a_szs D = a_hd aux.tail by omega, hn, List.map_cons, map_agr (agr_up hd3) h2.2] at q2
      have e3 : cv (va_up ad D.length b) (.ref D.length) = .ref b := by show Value.ref _ = _; unfold va_up; rw [if_pos rfl]
      rw [e3] at q2
      exact q2
    · skip
      simp only [Bool.and_eq_true, beq_iff_eq] at hw
      obtain ⟨hk0, hw⟩ := hw
      rw [hk0] at hK
      refine va_newa (atype := .boolean) (a0 := (a_hd aux.tail, .inl (fun _ => 0))) hx hb (hts _ (a_w_in hw rfl)) (ty := .boolean) rfl hE.1 hP hD hS hA (fun _ => rfl) (nI_pos (by omega)) (nI_clamp (by omega)) (Nat.le_trans (Nat.mul_le_mul_right _ hle) (by decide)) (by omega) (by omega) hd (fun b cA' H1 hK1 hP1 hD1 hS1 => ?_)
      have hcA : cA' = cA.2.1 := by
        have z1 : s.vm.findClass ("[" ++ FieldType.boolean.toString) = some cA' := (hK1.2 3 _ rfl).2
        have z2 : s.vm.findClass ("[" ++ FieldType.boolean.toString) = some cA.2.1 := (hE.1.2 1 _ rfl).2
        exact Option.some.inj (z1.symm.trans z2)
      subst hcA
      have e1 : wso cA (va_up ad D.length b) (D ++ [.inr (.inl (1, a_hd aux.tail))]) (mr M D.length (fun _ => 0)) = wso cA ad D M ++ [(b, .inl (cA.2.1, a_hd aux.tail, .inl (fun _ => 0)))] := by
        rw [wso_push (c := .inr (.inl (1, a_hd aux.tail))) (M := M) hdk trivial (fun i hi => mr_off (by omega)) hd3, mr_row]
        rfl
      have hlt9 : D.length < (D ++ [(.inr (.inl (1, a_hd aux.tail)) : ADc)]).length := by rw [List.length_append]; exact Nat.lt_succ_self _
      have q2 := hK ls H1 locs (va_up ad D.length b) ⟨by rw [e1]; exact hP1, by rw [e1]; exact hD1, hS1, dok_push hdk trivial, by rw [List.length_append, List.length_singleton]; omega, fun r hr => by rw [(agr_up hd3).2 _ (by omega) (by omega)]; exact had r hr, fun r hr => by rw [mr_off (by omega)]; exact hro r hr⟩ (hL.agr (agr_up hd3) hLv) (fun i v hv => vok_up (by rw [List.length_append]; omega) (hLv i v hv)) (List.forall_mem_cons.mpr ⟨Or.inl hlt9, fun v hv => vok_up (by rw [List.length_append]; omega) (h2.2 v hv)⟩) (agr_up hd3)
      rw [List.length_append, List.length_singleton, szs_push, show a_sz (.inr (.inl (1, a_hd aux.tail))) = a_hd aux.tail from rfl, show D.length + 1 - D.length = 1 by omega, show a_szs D + a_hd aux.tail - a_szs D = a_hd aux.tail by omega, hn, List.map_cons, map_agr (agr_up hd3) h2.2] at q2
      have e3 : cv (va_up ad D.length b) (.ref D.length) = .ref b := by show Value.ref _ = _; unfold va_up; rw [if_pos rfl]
      rw [e3] at q2
      exact q2
    · cases hw
  · cases hs
theorem sh_anewarray {v0 : Nat} (hx : p.tables.exec = Jvm.exec) (hb : c.code = bs) (hml : c.maxLocals = nL) (hown : s.vm.findClass own = some m.cls) (hts : ∀ w ∈ GW, w.before args s = true) (hnm : nm = "<init>" → meth.name = "<init>") (hA : ∀ q, s.heap.size ≤ q → A q) (hE : EV dC dI cA adr ro A s) (hR1 : 1 ≤ R.frames ∧ 64 ≤ R.locals) (hR : cells + (D'.length - D.length) ≤ R.cells ∧ slots + (a_szs D' - a_szs D) ≤ R.slots) (hd : decode bs pc = .ok (.anewarray v0, len)) (hok : ok_i own nm tb j pc (.anewarray v0) len aux wx = true) (hs : a_ex (.anewarray v0) aux k j L st D M = some (.inl (k', j', L', st', D', M'))) (hW : WH dC dI cA adr ro A s.heap H locs D M ad) (hL : LH ad ls nL L) (hLv : LV D.length L) (hSv : ∀ v ∈ st, vok D.length v) (hK : KON p l e R s m args below meth c Q dC dI cA adr ro A tb nL cells slots D ad j' L' st' D' M') : W p l e R s m args below meth c H locs cells slots Q (F0 m pc ls (st.map (cv ad))) := by
  have hW0 := hW
  obtain ⟨hP, hD, hS, hdk, hd3, had, hro⟩ := hW
  simp only [ok_i, Bool.and_eq_true, beq_iff_eq, decide_eq_true_eq] at hok
  obtain ⟨rfl, hn, hle, hw⟩ := hok
  dsimp only [a_ex] at hs
  split at hs
  · rename_i n r
    have h2 := List.forall_mem_cons.mp hSv
    split at hs
    case isFalse => cases hs
    rename_i hlen
    split at hs
    case isFalse => cases hs
    rename_i hne
    subst hne
    simp only [a_nx, Option.some.injEq, Sum.inl.injEq, Prod.mk.injEq] at hs
    obtain ⟨rfl, rfl, rfl, rfl, rfl, rfl⟩ := hs
    have hsz : a_sz (.inr (.inr (List.replicate (a_hd aux) none))) = a_hd aux := List.length_replicate
    rw [List.length_append, List.length_singleton, szs_push, hsz] at hR
    refine va_newq hx hb hown (hts _ (a_w_in hw rfl)) hE.2.2.1 hE.1 hP hD hS hA (nI_pos (by omega)) (nI_clamp (by omega)) (Nat.le_trans (Nat.mul_le_mul_right _ hle) (by decide)) (by omega) (by omega) hd (fun b cA' H1 hK1 hP1 hD1 hS1 => ?_)
    have hcA : cA' = cA.2.2 := by
      obtain ⟨k1, c1, -, -, -, z1⟩ := (hK1.2 3 _ rfl).2
      obtain ⟨k2, c2, -, -, -, z2⟩ := (hE.1.2 2 _ rfl).2
      exact Option.some.inj (z1.symm.trans z2)
    subst hcA
    have hno : cok D.length (.inr (.inr (List.replicate (a_hd aux) none))) := fun a ha => by have := List.eq_of_mem_replicate ha; cases this
    have e1 : wso cA (va_up ad D.length b) (D ++ [.inr (.inr (List.replicate (a_hd aux) none))]) M = wso cA ad D M ++ [(b, .inl (cA.2.2, a_hd aux, .inr (.inr (.inr (.inr (fun _ => none))))))] := by
      rw [wso_push (M := M) hdk hno (fun i hi => rfl) hd3]
      congr 2
      show (b, Sum.inl (cA.2.2, (List.replicate (a_hd aux) (none : Option Nat)).length, _)) = _
      rw [List.length_replicate]
      congr 8
      funext i
      rw [List.getD_eq_getElem?_getD, List.getElem?_replicate]
      split <;> rfl
    have hlt9 : D.length < (D ++ [(.inr (.inr (List.replicate (a_hd aux) none)) : ADc)]).length := by rw [List.length_append]; exact Nat.lt_succ_self _
    have q2 := hK ls H1 locs (va_up ad D.length b) ⟨by rw [e1]; exact hP1, by rw [e1]; exact hD1, hS1, dok_push hdk (cok_up (Nat.le_succ _) hno), by rw [List.length_append, List.length_singleton]; omega, fun r hr => by rw [(agr_up hd3).2 _ (by omega) (by omega)]; exact had r hr, hro⟩ (hL.agr (agr_up hd3) hLv) (fun i v hv => vok_up (by rw [List.length_append]; omega) (hLv i v hv)) (List.forall_mem_cons.mpr ⟨Or.inl hlt9, fun v hv => vok_up (by rw [List.length_append]; omega) (h2.2 v hv)⟩) (agr_up hd3)
    rw [List.length_append, List.length_singleton, szs_push, hsz, show D.length + 1 - D.length = 1 by omega, show a_szs D + a_hd aux - a_szs D = a_hd aux by omega, hn, List.map_cons, map_agr (agr_up hd3) h2.2] at q2
    have e3 : cv (va_up ad D.length b) (.ref D.length) = .ref b := by show Value.ref _ = _; unfold va_up; rw [if_pos rfl]
    rw [e3] at q2
    exact q2
  · cases hs
theorem a_call_no {k na : Nat} {x : ASt} : ¬ a_call k na st = some (.inl x) := by
  unfold a_call
  split
  · intro h; cases h
  · intro h; cases h
theorem a_callv_no {k na ci : Nat} {x : ASt} : ¬ a_callv D k na ci st = some (.inl x) := by
  unfold a_callv
  split
  · split
    · split
      · exact a_call_no
      · intro h; cases h
    · intro h; cases h
  · intro h; cases h
theorem a_calls_no {k na : Nat} {x : ASt} : ¬ a_calls k na st = some (.inl x) := by
  unfold a_calls
  split
  · split
    · exact a_call_no
    · intro h; cases h
  · intro h; cases h
theorem sh_invokespecial {v0 : Nat} (hx : p.tables.exec = Jvm.exec) (hb : c.code = bs) (hml : c.maxLocals = nL) (hown : s.vm.findClass own = some m.cls) (hts : ∀ w ∈ GW, w.before args s = true) (hnm : nm = "<init>" → meth.name = "<init>") (hA : ∀ q, s.heap.size ≤ q → A q) (hE : EV dC dI cA adr ro A s) (hR1 : 1 ≤ R.frames ∧ 64 ≤ R.locals) (hR : cells + (D'.length - D.length) ≤ R.cells ∧ slots + (a_szs D' - a_szs D) ≤ R.slots) (hd : decode bs pc = .ok (.invokespecial v0, len)) (hok : ok_i own nm tb j pc (.invokespecial v0) len aux wx = true) (hs : a_ex (.invokespecial v0) aux k j L st D M = some (.inl (k', j', L', st', D', M'))) (hW : WH dC dI cA adr ro A s.heap H locs D M ad) (hL : LH ad ls nL L) (hLv : LV D.length L) (hSv : ∀ v ∈ st, vok D.length v) (hK : KON p l e R s m args below meth c Q dC dI cA adr ro A tb nL cells slots D ad j' L' st' D' M') : W p l e R s m args below meth c H locs cells slots Q (F0 m pc ls (st.map (cv ad))) := by
  have hW0 := hW
  obtain ⟨hP, hD, hS, hdk, hd3, had, hro⟩ := hW
  simp only [ok_i, Bool.and_eq_true, beq_iff_eq] at hok
  obtain ⟨rfl, hn, hw⟩ := hok
  dsimp only [a_ex] at hs
  split at hs
  · exact absurd hs a_calls_no
  · rename_i hno
    split at hs
    · rename_i a r
      have h2 := List.forall_mem_cons.mp hSv
      split at hs
      case isFalse => cases hs
      rename_i hcat
      simp only [a_nx, Option.some.injEq, Sum.inl.injEq, Prod.mk.injEq] at hs
      obtain ⟨rfl, rfl, rfl, rfl, rfl, rfl⟩ := hs
      split at hw
      · exact absurd rfl (hno _ _)
      · simp only [Bool.and_eq_true] at hw
        obtain ⟨w1, w2, w3⟩ := hw
        refine W.objInit (a := ad a) (rest := r.map (cv ad)) hx hb hown (hts _ (a_w_in w1 rfl)) (hts _ (a_w_in w2 rfl)) (hts _ (a_w_in w3 rfl)) rfl (by rw [hml]; exact hL.1) rfl hd hR1.1 ?_ ?_
        · have : ((r.map (cv ad)).map fun v => v.category).sum = a_cat r := by
            unfold a_cat
            rw [List.map_map]
            congr 1
            exact List.map_congr_left fun v _ => cv_cat ad v
          show 2 * 0 + ((r.map (cv ad)).map fun v => v.category).sum + 12 ≤ R.locals
          rw [this]
          omega
        · refine W.eq (g2 := F0 m (pc + 3) ls (r.map (cv ad))) rfl ?_
          rw [← hn]
          exact hK.same rfl rfl hW0 hL hLv h2.2
      · cases hw
    · cases hs
theorem cat_map (ad : Nat → Nat) (r : List Value) : ((r.map (cv ad)).map fun v => v.category).sum = a_cat r := by
  unfold a_cat
  rw [List.map_map]
  congr 1
  exact List.map_congr_left fun v _ => cv_cat ad v
theorem sh_invokestatic {v0 : Nat} (hx : p.tables.exec = Jvm.exec) (hb : c.code = bs) (hml : c.maxLocals = nL) (hown : s.vm.findClass own = some m.cls) (hts : ∀ w ∈ GW, w.before args s = true) (hnm : nm = "<init>" → meth.name = "<init>") (hA : ∀ q, s.heap.size ≤ q → A q) (hE : EV dC dI cA adr ro A s) (hR1 : 1 ≤ R.frames ∧ 64 ≤ R.locals) (hR : cells + (D'.length - D.length) ≤ R.cells ∧ slots + (a_szs D' - a_szs D) ≤ R.slots) (hd : decode bs pc = .ok (.invokestatic v0, len)) (hok : ok_i own nm tb j pc (.invokestatic v0) len aux wx = true) (hs : a_ex (.invokestatic v0) aux k j L st D M = some (.inl (k', j', L', st', D', M'))) (hW : WH dC dI cA adr ro A s.heap H locs D M ad) (hL : LH ad ls nL L) (hLv : LV D.length L) (hSv : ∀ v ∈ st, vok D.length v) (hK : KON p l e R s m args below meth c Q dC dI cA adr ro A tb nL cells slots D ad j' L' st' D' M') : W p l e R s m args below meth c H locs cells slots Q (F0 m pc ls (st.map (cv ad))) := by
  have hW0 := hW
  obtain ⟨hP, hD, hS, hdk, hd3, had, hro⟩ := hW
  simp only [ok_i, Bool.and_eq_true, beq_iff_eq] at hok
  obtain ⟨rfl, hn, hw⟩ := hok
  dsimp only [a_ex] at hs
  split at hs
  · exact absurd hs a_call_no
  · rename_i t
    split at hs
    · rename_i y x r
      have h2 := (List.forall_mem_cons.mp (List.forall_mem_cons.mp hSv).2).2
      split at hs
      case isFalse => cases hs
      rename_i hcat
      simp only [a_nx, Option.some.injEq, Sum.inl.injEq, Prod.mk.injEq] at hs
      obtain ⟨rfl, rfl, rfl, rfl, rfl, rfl⟩ := hs
      have go : W p l e R s m args below meth c H locs cells slots Q (F0 m (pc + 3) ls (.int (a_mm t x y) :: r.map (cv ad))) := by
        rw [← hn]
        exact hK.same (st' := .int (a_mm t x y) :: r) rfl rfl hW0 hL hLv (List.forall_mem_cons.mpr ⟨trivial, h2⟩)
      split at hw
      · rename_i hz; cases hz
      · rename_i t2 w1 w2 w3 w4 hz
        obtain rfl : t = t2 := by injection hz with _ hz; injection hz with _ hz; injection hz
        split at hw
        · simp only [Bool.and_eq_true] at hw
          obtain ⟨w1, w2, w3, w4⟩ := hw
          exact va_mmax hx hb (by rw [hml]; exact hL.1.symm) hown (hts _ (a_w_in w1 rfl)) (hts _ (a_w_in w2 rfl)) (hts _ (a_w_in w3 rfl)) (hts _ (a_w_in w4 rfl)) hR1.1 (by rw [cat_map]; omega) (by omega) (by omega) hd go
        · rename_i hne
          simp only [Bool.and_eq_true] at hw
          obtain ⟨w1, w2, w3, w4⟩ := hw
          have e1 : a_mm t x y = if y < x then y else x := by
            unfold a_mm
            split
            · exact absurd rfl hne
            · rfl
          rw [e1] at go
          exact va_mmin hx hb (by rw [hml]; exact hL.1.symm) hown (hts _ (a_w_in w1 rfl)) (hts _ (a_w_in w2 rfl)) (hts _ (a_w_in w3 rfl)) (hts _ (a_w_in w4 rfl)) hR1.1 (by rw [cat_map]; omega) (by omega) (by omega) hd go
      · rename_i hz; cases hz
      · cases hw
    · cases hs
  · rename_i hno1 hno2
    split at hs
    · rename_i n dp b sp a
      split at hs
      · rename_i n0 n1 hDa hDb
        split at hs
        · cases hs
        · rename_i hin
          simp only [a_nx, Option.some.injEq, Sum.inl.injEq, Prod.mk.injEq] at hs
          obtain ⟨rfl, rfl, rfl, rfl, rfl, rfl⟩ := hs
          split at hw
          · exact absurd rfl (hno1 _ _)
          · exact absurd rfl (hno2 _ _ _)
          · simp only [Bool.and_eq_true] at hw
            obtain ⟨w1, w2, w3, w4⟩ := hw
            have i1 : ¬ n < 0 := fun z => hin (Or.inl z)
            have i2 : ¬ dp < 0 := fun z => hin (Or.inr (Or.inl z))
            have i3 : ¬ sp < 0 := fun z => hin (Or.inr (Or.inr (Or.inl z)))
            have i4 : ¬ n0 < sp.toNatClampNeg + n.toNatClampNeg := fun z => hin (Or.inr (Or.inr (Or.inr (Or.inl z))))
            have i5 : ¬ n1 < dp.toNatClampNeg + n.toNatClampNeg := fun z => hin (Or.inr (Or.inr (Or.inr (Or.inr z))))
            have hbl := (List.getElem?_eq_some_iff.mp hDb).1
            refine va_copyi (rest := []) (t0 := 0) (t1 := 0) (ty := .int) hx hb (by rw [hml]; exact hL.1.symm) hown (hts _ (a_w_in w1 rfl)) (hts _ (a_w_in w2 rfl)) (hts _ (a_w_in w3 rfl)) (hts _ (a_w_in w4 rfl)) hE.1 hP hD hS a b (wso_at hDa) (wso_at hDb) rfl rfl rfl i3 i2 i1 (by omega) (by omega) (fun _ _ => rfl) hR1.1 (Nat.le_trans (by decide) hR1.2) hd (fun H1 locs1 hP1 hD1 hS1 => ?_)
            have e1 : (wso cA ad D M).set b (ad b, ce cA ad (.inr (.inl (0, n1))) (mr M b (va_cpy (M a) (M b) sp.toNatClampNeg dp.toNatClampNeg n.toNatClampNeg) b)) = wso cA ad D (mr M b (va_cpy (M a) (M b) sp.toNatClampNeg dp.toNatClampNeg n.toNatClampNeg)) := wso_one hDb (set_self hDb).symm (fun i hi => mr_off hi)
            rw [mr_row] at e1
            have e2 : (wso cA ad D M).set b (ad b, .inl (if (0 : Nat) = 0 then cA.1 else cA.2.1, n1, .inl (va_cpy (M a) (M b) sp.toNatClampNeg dp.toNatClampNeg n.toNatClampNeg))) = wso cA ad D (mr M b (va_cpy (M a) (M b) sp.toNatClampNeg dp.toNatClampNeg n.toNatClampNeg)) := e1
            rw [← hn]
            exact hK.same (st' := []) rfl rfl ⟨by rw [← e2]; exact hP1, by rw [← e2]; exact hD1, hS1, hdk, hd3, had, fun r hr => by rw [mr_off (by omega)]; exact hro r hr⟩ hL hLv (fun v hv => absurd hv List.not_mem_nil)
          · cases hw
      · cases hs
    · cases hs
end SH
end
section
-- SOUNDNESS of a step, whichever it is
theorem a_ex_len {ins : Instr} {aux : List Nat} {k j k' j' : Nat} {L L' : ALo} {st st' : List Value} {D D' : ADd} {M M' : AMm} (h : a_ex ins aux k j L st D M = some (.inl (k', j', L', st', D', M'))) : k' = k ∧ D.length ≤ D'.length ∧ a_szs D ≤ a_szs D' := by
  have fin : ∀ {j1 : Nat} {L1 : ALo} {st1 : List Value} {D1 : ADd} {M1 : AMm}, (some (.inl (k, j1, L1, st1, D1, M1)) : Option AOu) = some (.inl (k', j', L', st', D', M')) → D.length ≤ D1.length → a_szs D ≤ a_szs D1 → k' = k ∧ D.length ≤ D'.length ∧ a_szs D ≤ a_szs D' := by
    intro j1 L1 st1 D1 M1 h h1 h2
    simp only [Option.some.injEq, Sum.inl.injEq, Prod.mk.injEq] at h
    obtain ⟨rfl, rfl, rfl, rfl, rfl, rfl⟩ := h
    exact ⟨rfl, h1, h2⟩
  cases ins with
  | putfield i =>
    dsimp only [a_ex] at h
    split at h
    · obtain ⟨fs, hDa, -, hc⟩ := a_pf_at h
      rcases hc with ⟨z, -, -, -, h⟩ | ⟨q, -, -, h⟩
      · exact fin h (Nat.le_refl _) (Nat.le_refl _)
      · exact fin h (by rw [List.length_set]; exact Nat.le_refl _) (by rw [szs_set hDa (by show (fs.set _ _).length = _; rw [List.length_set]; rfl)]; exact Nat.le_refl _)
    · cases h
  | aastore =>
    dsimp only [a_ex] at h
    split at h
    · split at h
      · rename_i rs hDa
        split at h
        · cases h
        · split at h
          · exact fin h (by rw [List.length_set]; exact Nat.le_refl _) (by rw [szs_set hDa (by show (rs.set _ _).length = _; rw [List.length_set]; rfl)]; exact Nat.le_refl _)
          · cases h
      · cases h
    · cases h
  | new i =>
    dsimp only [a_ex] at h
    split at h
    · exact fin h (by rw [List.length_append]; omega) (by rw [szs_push]; omega)
    · cases h
  | newarray t =>
    dsimp only [a_ex] at h
    split at h
    · split at h
      · split at h
        · exact fin h (by rw [List.length_append]; omega) (by rw [szs_push]; omega)
        · cases h
      · cases h
    · cases h
  | anewarray t =>
    dsimp only [a_ex] at h
    split at h
    · split at h
      · split at h
        · exact fin h (by rw [List.length_append]; omega) (by rw [szs_push]; omega)
        · cases h
      · cases h
    · cases h
  | invokevirtual i => exact absurd h a_callv_no
  | invokestatic i =>
    dsimp only [a_ex] at h
    split at h
    · exact absurd h a_call_no
    · split at h
      · split at h
        · exact fin h (Nat.le_refl _) (Nat.le_refl _)
        · cases h
      · cases h
    · split at h
      · split at h
        · split at h
          · cases h
          · exact fin h (Nat.le_refl _) (Nat.le_refl _)
        · cases h
      · cases h
  | invokespecial i =>
    dsimp only [a_ex] at h
    split at h
    · exact absurd h a_calls_no
    · split at h
      · split at h
        · exact fin h (Nat.le_refl _) (Nat.le_refl _)
        · cases h
      · cases h
  | iload i =>
    dsimp only [a_ex] at h
    split at h
    · exact fin h (Nat.le_refl _) (Nat.le_refl _)
    · cases h
  | iload_n i =>
    dsimp only [a_ex] at h
    split at h
    · exact fin h (Nat.le_refl _) (Nat.le_refl _)
    · cases h
  | aload_n i =>
    dsimp only [a_ex] at h
    split at h
    · exact fin h (Nat.le_refl _) (Nat.le_refl _)
    · cases h
  | lload i =>
    dsimp only [a_ex] at h
    split at h
    · exact fin h (Nat.le_refl _) (Nat.le_refl _)
    · cases h
  | lload_n i =>
    dsimp only [a_ex] at h
    split at h
    · exact fin h (Nat.le_refl _) (Nat.le_refl _)
    · cases h
  | ineg =>
    dsimp only [a_ex] at h
    split at h
    · exact fin h (Nat.le_refl _) (Nat.le_refl _)
    · cases h
  | i2l =>
    dsimp only [a_ex] at h
    split at h
    · exact fin h (Nat.le_refl _) (Nat.le_refl _)
    · cases h
  | l2i =>
    dsimp only [a_ex] at h
    split at h
    · exact fin h (Nat.le_refl _) (Nat.le_refl _)
    · cases h
  | lcmp =>
    dsimp only [a_ex] at h
    split at h
    · exact fin h (Nat.le_refl _) (Nat.le_refl _)
    · cases h
  | pop =>
    dsimp only [a_ex] at h
    split at h
    · exact fin h (Nat.le_refl _) (Nat.le_refl _)
    · cases h
  | dup2 =>
    dsimp only [a_ex] at h
    split at h
    · exact fin h (Nat.le_refl _) (Nat.le_refl _)
    · cases h
  | tableswitch a b c d =>
    dsimp only [a_ex] at h
    split at h
    · exact fin h (Nat.le_refl _) (Nat.le_refl _)
    · cases h
  | iadd =>
    dsimp only [a_ex, a_b2, a_l2] at h
    split at h
    · exact fin h (Nat.le_refl _) (Nat.le_refl _)
    · cases h
  | isub =>
    dsimp only [a_ex, a_b2, a_l2] at h
    split at h
    · exact fin h (Nat.le_refl _) (Nat.le_refl _)
    · cases h
  | imul =>
    dsimp only [a_ex, a_b2, a_l2] at h
    split at h
    · exact fin h (Nat.le_refl _) (Nat.le_refl _)
    · cases h
  | iand =>
    dsimp only [a_ex, a_b2, a_l2] at h
    split at h
    · exact fin h (Nat.le_refl _) (Nat.le_refl _)
    · cases h
  | ior =>
    dsimp only [a_ex, a_b2, a_l2] at h
    split at h
    · exact fin h (Nat.le_refl _) (Nat.le_refl _)
    · cases h
  | ixor =>
    dsimp only [a_ex, a_b2, a_l2] at h
    split at h
    · exact fin h (Nat.le_refl _) (Nat.le_refl _)
    · cases h
  | ishl =>
    dsimp only [a_ex, a_b2, a_l2] at h
    split at h
    · exact fin h (Nat.le_refl _) (Nat.le_refl _)
    · cases h
  | ishr =>
    dsimp only [a_ex, a_b2, a_l2] at h
    split at h
    · exact fin h (Nat.le_refl _) (Nat.le_refl _)
    · cases h
  | iushr =>
    dsimp only [a_ex, a_b2, a_l2] at h
    split at h
    · exact fin h (Nat.le_refl _) (Nat.le_refl _)
    · cases h
  | ladd =>
    dsimp only [a_ex, a_b2, a_l2] at h
    split at h
    · exact fin h (Nat.le_refl _) (Nat.le_refl _)
    · cases h
  | lmul =>
    dsimp only [a_ex, a_b2, a_l2] at h
    split at h
    · exact fin h (Nat.le_refl _) (Nat.le_refl _)
    · cases h
  | istore i =>
    dsimp only [a_ex, a_sto] at h
    split at h
    · split at h
      · exact fin h (Nat.le_refl _) (Nat.le_refl _)
      · cases h
    · cases h
  | istore_n i =>
    dsimp only [a_ex, a_sto] at h
    split at h
    · split at h
      · exact fin h (Nat.le_refl _) (Nat.le_refl _)
      · cases h
    · cases h
  | astore_n i =>
    dsimp only [a_ex, a_sto] at h
    split at h
    · split at h
      · exact fin h (Nat.le_refl _) (Nat.le_refl _)
      · cases h
    · cases h
  | iinc i n =>
    dsimp only [a_ex, a_sto] at h
    split at h
    · split at h
      · exact fin h (Nat.le_refl _) (Nat.le_refl _)
      · cases h
    · cases h
  | idiv =>
    dsimp only [a_ex] at h
    split at h
    · split at h
      · cases h
      · exact fin h (Nat.le_refl _) (Nat.le_refl _)
    · cases h
  | irem =>
    dsimp only [a_ex] at h
    split at h
    · split at h
      · cases h
      · exact fin h (Nat.le_refl _) (Nat.le_refl _)
    · cases h
  | lrem =>
    dsimp only [a_ex] at h
    split at h
    · split at h
      · cases h
      · exact fin h (Nat.le_refl _) (Nat.le_refl _)
    · cases h
  | dup =>
    dsimp only [a_ex] at h
    split at h
    · exact fin h (Nat.le_refl _) (Nat.le_refl _)
    · exact fin h (Nat.le_refl _) (Nat.le_refl _)
    · cases h
  | ifnonnull o =>
    dsimp only [a_ex] at h
    split at h
    · exact fin h (Nat.le_refl _) (Nat.le_refl _)
    · exact fin h (Nat.le_refl _) (Nat.le_refl _)
    · cases h
  | ifCond c o =>
    dsimp only [a_ex] at h
    split at h
    · cases c <;> dsimp only [a_if] at h <;> split at h <;> exact fin h (Nat.le_refl _) (Nat.le_refl _)
    · cases h
  | if_icmp c o =>
    dsimp only [a_ex] at h
    split at h
    · cases c <;> dsimp only [a_if] at h <;> split at h <;> exact fin h (Nat.le_refl _) (Nat.le_refl _)
    · cases h
  | iconst n => exact fin h (Nat.le_refl _) (Nat.le_refl _)
  | bipush n => exact fin h (Nat.le_refl _) (Nat.le_refl _)
  | sipush n => exact fin h (Nat.le_refl _) (Nat.le_refl _)
  | ldc n => exact fin h (Nat.le_refl _) (Nat.le_refl _)
  | ldc_w n => exact fin h (Nat.le_refl _) (Nat.le_refl _)
  | lconst n => exact fin h (Nat.le_refl _) (Nat.le_refl _)
  | ldc2_w n => exact fin h (Nat.le_refl _) (Nat.le_refl _)
  | goto o => exact fin h (Nat.le_refl _) (Nat.le_refl _)
  | getstatic i => exact fin h (Nat.le_refl _) (Nat.le_refl _)
  | iaload =>
    dsimp only [a_ex, a_ald] at h
    split at h
    · split at h
      · split at h
        · split at h
          · cases h
          · exact fin h (Nat.le_refl _) (Nat.le_refl _)
        · cases h
      · cases h
      · split at h
        · split at h
          · cases h
          · exact fin h (Nat.le_refl _) (Nat.le_refl _)
        · cases h
    · cases h
  | baload =>
    dsimp only [a_ex, a_ald] at h
    split at h
    · split at h
      · split at h
        · split at h
          · cases h
          · exact fin h (Nat.le_refl _) (Nat.le_refl _)
        · cases h
      · cases h
      · split at h
        · split at h
          · cases h
          · exact fin h (Nat.le_refl _) (Nat.le_refl _)
        · cases h
    · cases h
  | iastore =>
    dsimp only [a_ex, a_ast] at h
    split at h
    · split at h
      · split at h
        · split at h
          · cases h
          · exact fin h (Nat.le_refl _) (Nat.le_refl _)
        · cases h
      · cases h
    · cases h
  | bastore =>
    dsimp only [a_ex, a_ast] at h
    split at h
    · split at h
      · split at h
        · split at h
          · split at h
            · cases h
            · exact fin h (Nat.le_refl _) (Nat.le_refl _)
          · cases h
        · cases h
      · cases h
    · cases h
  | aaload =>
    dsimp only [a_ex] at h
    split at h
    · split at h
      · split at h
        · cases h
        · exact fin h (Nat.le_refl _) (Nat.le_refl _)
      · cases h
    · cases h
  | arraylength =>
    dsimp only [a_ex] at h
    split at h
    · split at h
      · exact fin h (Nat.le_refl _) (Nat.le_refl _)
      · cases h
      · split at h
        · exact fin h (Nat.le_refl _) (Nat.le_refl _)
        · cases h
    · cases h
  | getfield i =>
    dsimp only [a_ex] at h
    split at h
    · split at h
      · exact fin h (Nat.le_refl _) (Nat.le_refl _)
      · cases h
    · cases h
  | ireturn =>
    dsimp only [a_ex] at h
    split at h
    · split at h <;> cases h
    · cases h
  | return_ =>
    dsimp only [a_ex] at h
    split at h <;> cases h
  | _ => exact absurd (show (none : Option AOu) = some _ from h) (fun q => by cases q)
theorem a_ex_cls {ins : Instr} {aux : List Nat} {k j : Nat} {L : ALo} {st : List Value} {D : ADd} {M : AMm} {x : AOu} (h : a_ex ins aux k j L st D M = some x) : (∃ s' : ASt, x = .inl s') ∨ (ins = .ireturn ∧ ∃ v, st = [.int v] ∧ (a_hd aux = 0 ∨ v = 0 ∨ v = 1) ∧ x = .inr (.inl (some (.int v), D, M))) ∨ (ins = .return_ ∧ st = [] ∧ x = .inr (.inl (none, D, M))) ∨ (∃ i, ins = .invokevirtual i ∧ a_callv D (a_hd aux) (a_hd aux.tail) (a_hd aux.tail.tail) st = some x) ∨ (∃ i c n, ins = .invokestatic i ∧ aux = [c, n] ∧ a_call c n st = some x) ∨ (∃ i c n, ins = .invokespecial i ∧ aux = [c, n] ∧ a_calls c n st = some x) := by
  cases ins with
  | putfield i =>
    dsimp only [a_ex] at h
    split at h
    · obtain ⟨fs, hDa, -, hc⟩ := a_pf_at h
      rcases hc with ⟨z, -, -, -, h⟩ | ⟨q, -, -, h⟩
      · exact Or.inl ⟨_, (Option.some.inj h).symm⟩
      · exact Or.inl ⟨_, (Option.some.inj h).symm⟩
    · cases h
  | aastore =>
    dsimp only [a_ex] at h
    split at h
    · split at h
      · rename_i rs hDa
        split at h
        · cases h
        · split at h
          · exact Or.inl ⟨_, (Option.some.inj h).symm⟩
          · cases h
      · cases h
    · cases h
  | new i =>
    dsimp only [a_ex] at h
    split at h
    · exact Or.inl ⟨_, (Option.some.inj h).symm⟩
    · cases h
  | newarray t =>
    dsimp only [a_ex] at h
    split at h
    · split at h
      · split at h
        · exact Or.inl ⟨_, (Option.some.inj h).symm⟩
        · cases h
      · cases h
    · cases h
  | anewarray t =>
    dsimp only [a_ex] at h
    split at h
    · split at h
      · split at h
        · exact Or.inl ⟨_, (Option.some.inj h).symm⟩
        · cases h
      · cases h
    · cases h
  | invokevirtual i => exact Or.inr (Or.inr (Or.inr (Or.inl ⟨i, rfl, h⟩)))
  | invokestatic i =>
    dsimp only [a_ex] at h
    split at h
    · exact Or.inr (Or.inr (Or.inr (Or.inr (Or.inl ⟨i, _, _, rfl, rfl, h⟩))))
    · split at h
      · split at h
        · exact Or.inl ⟨_, (Option.some.inj h).symm⟩
        · cases h
      · cases h
    · split at h
      · split at h
        · split at h
          · cases h
          · exact Or.inl ⟨_, (Option.some.inj h).symm⟩
        · cases h
      · cases h
  | invokespecial i =>
    dsimp only [a_ex] at h
    split at h
    · exact Or.inr (Or.inr (Or.inr (Or.inr (Or.inr ⟨i, _, _, rfl, rfl, h⟩))))
    · split at h
      · split at h
        · exact Or.inl ⟨_, (Option.some.inj h).symm⟩
        · cases h
      · cases h
  | iload i =>
    dsimp only [a_ex] at h
    split at h
    · exact Or.inl ⟨_, (Option.some.inj h).symm⟩
    · cases h
  | iload_n i =>
    dsimp only [a_ex] at h
    split at h
    · exact Or.inl ⟨_, (Option.some.inj h).symm⟩
    · cases h
  | aload_n i =>
    dsimp only [a_ex] at h
    split at h
    · exact Or.inl ⟨_, (Option.some.inj h).symm⟩
    · cases h
  | lload i =>
    dsimp only [a_ex] at h
    split at h
    · exact Or.inl ⟨_, (Option.some.inj h).symm⟩
    · cases h
  | lload_n i =>
    dsimp only [a_ex] at h
    split at h
    · exact Or.inl ⟨_, (Option.some.inj h).symm⟩
    · cases h
  | ineg =>
    dsimp only [a_ex] at h
    split at h
    · exact Or.inl ⟨_, (Option.some.inj h).symm⟩
    · cases h
  | i2l =>
    dsimp only [a_ex] at h
    split at h
    · exact Or.inl ⟨_, (Option.some.inj h).symm⟩
    · cases h
  | l2i =>
    dsimp only [a_ex] at h
    split at h
    · exact Or.inl ⟨_, (Option.some.inj h).symm⟩
    · cases h
  | lcmp =>
    dsimp only [a_ex] at h
    split at h
    · exact Or.inl ⟨_, (Option.some.inj h).symm⟩
    · cases h
  | pop =>
    dsimp only [a_ex] at h
    split at h
    · exact Or.inl ⟨_, (Option.some.inj h).symm⟩
    · cases h
  | dup2 =>
    dsimp only [a_ex] at h
    split at h
    · exact Or.inl ⟨_, (Option.some.inj h).symm⟩
    · cases h
  | tableswitch a b c d =>
    dsimp only [a_ex] at h
    split at h
    · exact Or.inl ⟨_, (Option.some.inj h).symm⟩
    · cases h
  | iadd =>
    dsimp only [a_ex, a_b2, a_l2] at h
    split at h
    · exact Or.inl ⟨_, (Option.some.inj h).symm⟩
    · cases h
  | isub =>
    dsimp only [a_ex, a_b2, a_l2] at h
    split at h
    · exact Or.inl ⟨_, (Option.some.inj h).symm⟩
    · cases h
  | imul =>
    dsimp only [a_ex, a_b2, a_l2] at h
    split at h
    · exact Or.inl ⟨_, (Option.some.inj h).symm⟩
    · cases h
  | iand =>
    dsimp only [a_ex, a_b2, a_l2] at h
    split at h
    · exact Or.inl ⟨_, (Option.some.inj h).symm⟩
    · cases h
  | ior =>
    dsimp only [a_ex, a_b2, a_l2] at h
    split at h
    · exact Or.inl ⟨_, (Option.some.inj h).symm⟩
    · cases h
  | ixor =>
    dsimp only [a_ex, a_b2, a_l2] at h
    split at h
    · exact Or.inl ⟨_, (Option.some.inj h).symm⟩
    · cases h
  | ishl =>
    dsimp only [a_ex, a_b2, a_l2] at h
    split at h
    · exact Or.inl ⟨_, (Option.some.inj h).symm⟩
    · cases h
  | ishr =>
    dsimp only [a_ex, a_b2, a_l2] at h
    split at h
    · exact Or.inl ⟨_, (Option.some.inj h).symm⟩
    · cases h
  | iushr =>
    dsimp only [a_ex, a_b2, a_l2] at h
    split at h
    · exact Or.inl ⟨_, (Option.some.inj h).symm⟩
    · cases h
  | ladd =>
    dsimp only [a_ex, a_b2, a_l2] at h
    split at h
    · exact Or.inl ⟨_, (Option.some.inj h).symm⟩
    · cases h
  | lmul =>
    dsimp only [a_ex, a_b2, a_l2] at h
    split at h
    · exact Or.inl ⟨_, (Option.some.inj h).symm⟩
    · cases h
  | istore i =>
    dsimp only [a_ex, a_sto] at h
    split at h
    · split at h
      · exact Or.inl ⟨_, (Option.some.inj h).symm⟩
      · cases h
    · cases h
  | istore_n i =>
    dsimp only [a_ex, a_sto] at h
    split at h
    · split at h
      · exact Or.inl ⟨_, (Option.some.inj h).symm⟩
      · cases h
    · cases h
  | astore_n i =>
    dsimp only [a_ex, a_sto] at h
    split at h
    · split at h
      · exact Or.inl ⟨_, (Option.some.inj h).symm⟩
      · cases h
    · cases h
  | iinc i n =>
    dsimp only [a_ex, a_sto] at h
    split at h
    · split at h
      · exact Or.inl ⟨_, (Option.some.inj h).symm⟩
      · cases h
    · cases h
  | idiv =>
    dsimp only [a_ex] at h
    split at h
    · split at h
      · cases h
      · exact Or.inl ⟨_, (Option.some.inj h).symm⟩
    · cases h
  | irem =>
    dsimp only [a_ex] at h
    split at h
    · split at h
      · cases h
      · exact Or.inl ⟨_, (Option.some.inj h).symm⟩
    · cases h
  | lrem =>
    dsimp only [a_ex] at h
    split at h
    · split at h
      · cases h
      · exact Or.inl ⟨_, (Option.some.inj h).symm⟩
    · cases h
  | dup =>
    dsimp only [a_ex] at h
    split at h
    · exact Or.inl ⟨_, (Option.some.inj h).symm⟩
    · exact Or.inl ⟨_, (Option.some.inj h).symm⟩
    · cases h
  | ifnonnull o =>
    dsimp only [a_ex] at h
    split at h
    · exact Or.inl ⟨_, (Option.some.inj h).symm⟩
    · exact Or.inl ⟨_, (Option.some.inj h).symm⟩
    · cases h
  | ifCond c o =>
    dsimp only [a_ex] at h
    split at h
    · cases c <;> dsimp only [a_if] at h <;> split at h <;> exact Or.inl ⟨_, (Option.some.inj h).symm⟩
    · cases h
  | if_icmp c o =>
    dsimp only [a_ex] at h
    split at h
    · cases c <;> dsimp only [a_if] at h <;> split at h <;> exact Or.inl ⟨_, (Option.some.inj h).symm⟩
    · cases h
  | iconst n => exact Or.inl ⟨_, (Option.some.inj h).symm⟩
  | bipush n => exact Or.inl ⟨_, (Option.some.inj h).symm⟩
  | sipush n => exact Or.inl ⟨_, (Option.some.inj h).symm⟩
  | ldc n => exact Or.inl ⟨_, (Option.some.inj h).symm⟩
  | ldc_w n => exact Or.inl ⟨_, (Option.some.inj h).symm⟩
  | lconst n => exact Or.inl ⟨_, (Option.some.inj h).symm⟩
  | ldc2_w n => exact Or.inl ⟨_, (Option.some.inj h).symm⟩
  | goto o => exact Or.inl ⟨_, (Option.some.inj h).symm⟩
  | getstatic i => exact Or.inl ⟨_, (Option.some.inj h).symm⟩
  | iaload =>
    dsimp only [a_ex, a_ald] at h
    split at h
    · split at h
      · split at h
        · split at h
          · cases h
          · exact Or.inl ⟨_, (Option.some.inj h).symm⟩
        · cases h
      · cases h
      · split at h
        · split at h
          · cases h
          · exact Or.inl ⟨_, (Option.some.inj h).symm⟩
        · cases h
    · cases h
  | baload =>
    dsimp only [a_ex, a_ald] at h
    split at h
    · split at h
      · split at h
        · split at h
          · cases h
          · exact Or.inl ⟨_, (Option.some.inj h).symm⟩
        · cases h
      · cases h
      · split at h
        · split at h
          · cases h
          · exact Or.inl ⟨_, (Option.some.inj h).symm⟩
        · cases h
    · cases h
  | iastore =>
    dsimp only [a_ex, a_ast] at h
    split at h
    · split at h
      · split at h
        · split at h
          · cases h
          · exact Or.inl ⟨_, (Option.some.inj h).symm⟩
        · cases h
      · cases h
    · cases h
  | bastore =>
    dsimp only [a_ex, a_ast] at h
    split at h
    · split at h
      · split at h
        · split at h
          · split at h
            · cases h
            · exact Or.inl ⟨_, (Option.some.inj h).symm⟩
          · cases h
        · cases h
      · cases h
    · cases h
  | aaload =>
    dsimp only [a_ex] at h
    split at h
    · split at h
      · split at h
        · cases h
        · exact Or.inl ⟨_, (Option.some.inj h).symm⟩
      · cases h
    · cases h
  | arraylength =>
    dsimp only [a_ex] at h
    split at h
    · split at h
      · exact Or.inl ⟨_, (Option.some.inj h).symm⟩
      · cases h
      · split at h
        · exact Or.inl ⟨_, (Option.some.inj h).symm⟩
        · cases h
    · cases h
  | getfield i =>
    dsimp only [a_ex] at h
    split at h
    · split at h
      · exact Or.inl ⟨_, (Option.some.inj h).symm⟩
      · cases h
    · cases h
  | ireturn =>
    dsimp only [a_ex] at h
    split at h
    · split at h
      · rename_i v hv
        exact Or.inr (Or.inl ⟨rfl, v, rfl, hv, (Option.some.inj h).symm⟩)
      · cases h
    · cases h
  | return_ =>
    dsimp only [a_ex] at h
    split at h
    · exact Or.inr (Or.inr (Or.inl ⟨rfl, rfl, (Option.some.inj h).symm⟩))
    · cases h
  | _ => exact absurd (show (none : Option AOu) = some _ from h) (fun q => by cases q)
theorem a_call_at {k na : Nat} {st : List Value} {x : AOu} (h : a_call k na st = some x) : x = .inr (.inr (k, (st.take na).reverse, st.drop na)) ∧ na ≤ st.length ∧ a_cat (st.drop na) ≤ 8 ∧ (a_sl (st.take na).reverse).length ≤ a_maxL k := by
  unfold a_call at h
  split at h
  · rename_i hc; exact ⟨(Option.some.inj h).symm, hc⟩
  · cases h
theorem a_callv_at {D : ADd} {k na ci : Nat} {st : List Value} {x : AOu} (h : a_callv D k na ci st = some x) : a_call k na st = some x ∧ 0 < na ∧ ∃ (a : Nat) (fs : List (Option (Option Nat))), st[na - 1]? = some (.ref a) ∧ D[a]? = some (.inl (ci, fs)) := by
  unfold a_callv at h
  split at h
  · rename_i a ha
    split at h
    · rename_i c fs hDa
      split at h
      · rename_i hc
        obtain ⟨rfl, hna⟩ := hc
        exact ⟨h, hna, a, fs, ha, hDa⟩
      · cases h
    · cases h
  · cases h
theorem a_calls_at {k na : Nat} {st : List Value} {x : AOu} (h : a_calls k na st = some x) : a_call k na st = some x ∧ 0 < na ∧ ∃ a : Nat, st[na - 1]? = some (.ref a) := by
  unfold a_calls at h
  split at h
  · rename_i a ha
    split at h
    · rename_i hna; exact ⟨h, hna, a, ha⟩
    · cases h
  · cases h
theorem stp_at {s : ASt} {x : AOu} (h : stp s = some x) : ∃ (mt : AMt) (e : AEn), methods[s.1]? = some mt ∧ mt.2.2.2.2[s.2.1]? = some e ∧ a_ex e.2.1 e.2.2.2.1 s.1 s.2.1 s.2.2.1 s.2.2.2.1 s.2.2.2.2.1 s.2.2.2.2.2 = some x := by
  unfold stp at h
  split at h
  · cases h
  · rename_i mt hm
    split at h
    · cases h
    · rename_i e he
      exact ⟨mt, e, hm, he, h⟩
theorem ex_len : ∀ (n d : Nat) (s : ASt) (r : ARs), ex d n s = some r → s.2.2.2.2.1.length ≤ r.2.1.length ∧ a_szs s.2.2.2.2.1 ≤ a_szs r.2.1 := by
  intro n
  induction n with
  | zero => intro d s r h; simp [ex] at h
  | succ n ih =>
    intro d s r h
    unfold ex at h
    cases hs : stp s with
    | none => rw [hs] at h; simp at h
    | some o =>
      rw [hs] at h
      obtain ⟨mt, e, -, -, hex⟩ := stp_at hs
      cases o with
      | inl s' =>
        have h1 := ih d s' r h
        obtain ⟨k', j', L', st', D', M'⟩ := s'
        have h2 := a_ex_len hex
        exact ⟨Nat.le_trans h2.2.1 h1.1, Nat.le_trans h2.2.2 h1.2⟩
      | inr o =>
        cases o with
        | inl r' =>
          have : r' = r := Option.some.inj h
          subst this
          rcases a_ex_cls hex with ⟨_, hq⟩ | ⟨-, v, -, -, hq⟩ | ⟨-, -, hq⟩ | ⟨_, -, hq⟩ | ⟨_, _, _, -, -, hq⟩ | ⟨_, _, _, -, -, hq⟩
          · cases hq
          · cases hq; exact ⟨Nat.le_refl _, Nat.le_refl _⟩
          · cases hq; exact ⟨Nat.le_refl _, Nat.le_refl _⟩
          · have := (a_call_at (a_callv_at hq).1).1; cases this
          · have := (a_call_at hq).1; cases this
          · have := (a_call_at (a_calls_at hq).1).1; cases this
        | inr c =>
          obtain ⟨k, as, rest⟩ := c
          cases d with
          | zero => simp at h
          | succ d' =>
            dsimp only at h
            cases hc : ex d' n (ent k as s.2.2.2.2.1 s.2.2.2.2.2) with
            | none => rw [hc] at h; simp at h
            | some r1 =>
              rw [hc] at h
              have h1 := ih d' _ r1 hc
              have h2 := ih (d' + 1) _ r h
              exact ⟨Nat.le_trans h1.1 h2.1, Nat.le_trans h1.2 h2.2⟩
section SS
variable {p : Program} {l : Launch} {e : Env} {R : Room} {s : State} {m : MethodId} {args : Array Value} {below : List Frame} {meth : Method} {c : Code} {H : Heap} {locs : List Loc} {cells slots : Nat} {Q : State → Prop} {bs : ByteArray} {own nm : String} {tb : List AEn} {ad : Nat → Nat} {ls : Array Slot} {nL k j pc len k' j' : Nat} {aux wx : List Nat} {L L' : ALo} {st st' : List Value} {D D' : ADd} {M M' : AMm}
variable {dC : Nat → ClassId} {dI : Nat → Nat → Nat} {cA : ClassId × ClassId × ClassId} {adr : Nat → Nat} {ro : Nat → Nat → Int32} {A : Nat → Prop}
theorem sn_step {ins : Instr} (hx : p.tables.exec = Jvm.exec) (hb : c.code = bs) (hml : c.maxLocals = nL) (hown : s.vm.findClass own = some m.cls) (hts : ∀ w ∈ GW, w.before args s = true) (hnm : nm = "<init>" → meth.name = "<init>") (hA : ∀ q, s.heap.size ≤ q → A q) (hE : EV dC dI cA adr ro A s) (hR1 : 1 ≤ R.frames ∧ 64 ≤ R.locals) (hR : cells + (D'.length - D.length) ≤ R.cells ∧ slots + (a_szs D' - a_szs D) ≤ R.slots) (hd : decode bs pc = .ok (ins, len)) (hok : ok_i own nm tb j pc ins len aux wx = true) (hs : a_ex ins aux k j L st D M = some (.inl (k', j', L', st', D', M'))) (hW : WH dC dI cA adr ro A s.heap H locs D M ad) (hL : LH ad ls nL L) (hLv : LV D.length L) (hSv : ∀ v ∈ st, vok D.length v) (hK : KON p l e R s m args below meth c Q dC dI cA adr ro A tb nL cells slots D ad j' L' st' D' M') : W p l e R s m args below meth c H locs cells slots Q (F0 m pc ls (st.map (cv ad))) := by
  have hK1 : k' = k → D' = D → M' = M → ∀ ls' : Array Slot, LH ad ls' nL L' → LV D.length L' → (∀ v ∈ st', vok D.length v) → W p l e R s m args below meth c H locs cells slots Q (F0 m (a_pc tb j') ls' (st'.map (cv ad))) := by
    intro _ h2 h3 ls' hL' hV' hS'
    subst h2
    subst h3
    exact hK.same rfl rfl hW hL' hV' hS'
  cases ins with
  | iconst v0 => exact sp_iconst hx hb hd hok hs hL hLv hSv hK1
  | bipush v0 => exact sp_bipush hx hb hd hok hs hL hLv hSv hK1
  | sipush v0 => exact sp_sipush hx hb hd hok hs hL hLv hSv hK1
  | ldc v0 => exact sp_ldc hx hb hd hok hown hts hs hL hLv hSv hK1
  | ldc_w v0 => exact sp_ldc_w hx hb hd hok hown hts hs hL hLv hSv hK1
  | lconst v0 => exact sp_lconst hx hb hd hok hs hL hLv hSv hK1
  | ldc2_w v0 => exact sp_ldc2_w hx hb hd hok hown hts hs hL hLv hSv hK1
  | iload v0 => exact sp_iload hx hb hd hok hs hL hLv hSv hK1
  | iload_n v0 => exact sp_iload_n hx hb hd hok hs hL hLv hSv hK1
  | aload_n v0 => exact sp_aload_n hx hb hd hok hs hL hLv hSv hK1
  | lload v0 => exact sp_lload hx hb hd hok hs hL hLv hSv hK1
  | lload_n v0 => exact sp_lload_n hx hb hd hok hs hL hLv hSv hK1
  | istore v0 => exact sp_istore hx hb hd hok hs hL hLv hSv hK1
  | istore_n v0 => exact sp_istore_n hx hb hd hok hs hL hLv hSv hK1
  | astore_n v0 => exact sp_astore_n hx hb hd hok hs hL hLv hSv hK1
  | iinc v0 v1 => exact sp_iinc hx hb hd hok hs hL hLv hSv hK1
  | iadd  => exact sp_iadd hx hb hd hok hs hL hLv hSv hK1
  | isub  => exact sp_isub hx hb hd hok hs hL hLv hSv hK1
  | imul  => exact sp_imul hx hb hd hok hs hL hLv hSv hK1
  | iand  => exact sp_iand hx hb hd hok hs hL hLv hSv hK1
  | ior  => exact sp_ior hx hb hd hok hs hL hLv hSv hK1
  | ixor  => exact sp_ixor hx hb hd hok hs hL hLv hSv hK1
  | ishl  => exact sp_ishl hx hb hd hok hs hL hLv hSv hK1
  | ishr  => exact sp_ishr hx hb hd hok hs hL hLv hSv hK1
  | iushr  => exact sp_iushr hx hb hd hok hs hL hLv hSv hK1
  | idiv  => exact sp_idiv hx hb hd hok hs hL hLv hSv hK1
  | irem  => exact sp_irem hx hb hd hok hs hL hLv hSv hK1
  | lrem  => exact sp_lrem hx hb hd hok hs hL hLv hSv hK1
  | ladd  => exact sp_ladd hx hb hd hok hs hL hLv hSv hK1
  | lmul  => exact sp_lmul hx hb hd hok hs hL hLv hSv hK1
  | lcmp  => exact sp_lcmp hx hb hd hok hs hL hLv hSv hK1
  | ineg  => exact sp_ineg hx hb hd hok hs hL hLv hSv hK1
  | i2l  => exact sp_i2l hx hb hd hok hs hL hLv hSv hK1
  | l2i  => exact sp_l2i hx hb hd hok hs hL hLv hSv hK1
  | pop  => exact sp_pop hx hb hd hok hs hL hLv hSv hK1
  | dup  => exact sp_dup hx hb hd hok hs hL hLv hSv hK1
  | dup2  => exact sp_dup2 hx hb hd hok hs hL hLv hSv hK1
  | goto v0 => exact sp_goto hx hb hd hok hs hL hLv hSv hK1
  | ifCond v0 v1 => exact sp_ifCond hx hb hd hok hs hL hLv hSv hK1
  | if_icmp v0 v1 => exact sp_if_icmp hx hb hd hok hs hL hLv hSv hK1
  | ifnonnull v0 => exact sp_ifnonnull hx hb hd hok hs hL hLv hSv hK1
  | tableswitch v0 v1 v2 v3 => exact sp_tableswitch hx hb hd hok hs hL hLv hSv hK1
  | iaload  => exact sh_iaload hx hb hml hown hts hnm hA hE hR1 hR hd hok hs hW hL hLv hSv hK
  | baload  => exact sh_baload hx hb hml hown hts hnm hA hE hR1 hR hd hok hs hW hL hLv hSv hK
  | iastore  => exact sh_iastore hx hb hml hown hts hnm hA hE hR1 hR hd hok hs hW hL hLv hSv hK
  | bastore  => exact sh_bastore hx hb hml hown hts hnm hA hE hR1 hR hd hok hs hW hL hLv hSv hK
  | aaload  => exact sh_aaload hx hb hml hown hts hnm hA hE hR1 hR hd hok hs hW hL hLv hSv hK
  | aastore  => exact sh_aastore hx hb hml hown hts hnm hA hE hR1 hR hd hok hs hW hL hLv hSv hK
  | arraylength  => exact sh_arraylength hx hb hml hown hts hnm hA hE hR1 hR hd hok hs hW hL hLv hSv hK
  | getfield v0 => exact sh_getfield hx hb hml hown hts hnm hA hE hR1 hR hd hok hs hW hL hLv hSv hK
  | putfield v0 => exact sh_putfield hx hb hml hown hts hnm hA hE hR1 hR hd hok hs hW hL hLv hSv hK
  | getstatic v0 => exact sh_getstatic hx hb hml hown hts hnm hA hE hR1 hR hd hok hs hW hL hLv hSv hK
  | new v0 => exact sh_new hx hb hml hown hts hnm hA hE hR1 hR hd hok hs hW hL hLv hSv hK
  | newarray v0 => exact sh_newarray hx hb hml hown hts hnm hA hE hR1 hR hd hok hs hW hL hLv hSv hK
  | anewarray v0 => exact sh_anewarray hx hb hml hown hts hnm hA hE hR1 hR hd hok hs hW hL hLv hSv hK
  | invokespecial v0 => exact sh_invokespecial hx hb hml hown hts hnm hA hE hR1 hR hd hok hs hW hL hLv hSv hK
  | invokestatic v0 => exact sh_invokestatic hx hb hml hown hts hnm hA hE hR1 hR hd hok hs hW hL hLv hSv hK
  | invokevirtual v0 => exact absurd hs a_callv_no
  | ireturn =>
    dsimp only [a_ex] at hs
    split at hs
    · split at hs <;> cases hs
    · cases hs
  | return_ =>
    dsimp only [a_ex] at hs
    split at hs <;> cases hs
  | _ => exact absurd (show (none : Option AOu) = some _ from hs) (fun q => by cases q)
end SS
end
section
-- SOUNDNESS of calls and returns
section SC
variable {p : Program} {l : Launch} {e : Env} {R : Room} {s : State} {m : MethodId} {args : Array Value} {below : List Frame} {meth : Method} {c : Code} {H : Heap} {locs : List Loc} {cells slots : Nat} {Q : State → Prop} {bs : ByteArray} {own nm : String} {tb : List AEn} {ad : Nat → Nat} {ls : Array Slot} {nL k j pc len k' j' : Nat} {aux wx : List Nat} {L L' : ALo} {st st' : List Value} {D D' : ADd} {M M' : AMm}
variable {dC : Nat → ClassId} {dI : Nat → Nat → Nat} {cA : ClassId × ClassId × ClassId} {adr : Nat → Nat} {ro : Nat → Nat → Int32} {A : Nat → Prop}
theorem EV.weaken {B : Nat → Prop} {U : State} (h : EV dC dI cA adr ro A U) (hAB : ∀ q, B q → A q) : EV dC dI cA adr ro B U :=
  ⟨h.1, h.2.1, h.2.2.1, fun r h1 h2 => (h.2.2.2.1 r h1 h2).narrow hAB, fun r hr => (h.2.2.2.2.1 r hr).narrow hAB, h.2.2.2.2.2⟩
theorem EV.same {U V : State} (h : EV dC dI cA adr ro A U) (hv : V.vm = U.vm) (hh : V.heap = U.heap) : EV dC dI cA adr ro A V := by
  have ha : U.vm.Alike V.vm := by rw [hv]; exact Vm.Alike.refl U.vm
  refine ⟨h.1.moved ha, fun w hw hn => va_Nw.same ?_ hv.symm (h.2.1 w hw hn), h.2.2.1.moved ha, fun r h1 h2 => ?_, fun r hr => ?_, h.2.2.2.2.2⟩
  · cases w <;> first | rfl | cases hn
  · rw [hh]; exact (h.2.2.2.1 r h1 h2).moved ha
  · rw [hh]; exact (h.2.2.2.2.1 r hr).moved ha
theorem EV.warm {U : State} (h : EV dC dI cA adr ro A s) (hW : s.WarmedH U.vm) (hU : U.heap = H) (hS : va_S A s.heap H locs) : EV dC dI cA adr ro A U := by
  refine ⟨h.1.moved hW.alike, fun w hw hn => ?_, h.2.2.1.moved hW.alike, fun r h1 h2 => ?_, fun r hr => ?_, h.2.2.2.2.2⟩
  · have hq := h.2.1 w hw hn
    cases w <;> first | exact va_Nw.warmF hW hq | exact va_Nw.warmM hW hq | cases hn
  · rw [hU]; exact ((h.2.2.2.1 r h1 h2).kept hS.2.1).moved hW.alike
  · rw [hU]; exact ((h.2.2.2.2.1 r hr).kept hS.2.1).moved hW.alike
/-- the world behind a method -/
def BW (dC : Nat → ClassId) (dI : Nat → Nat → Nat) (cA : ClassId × ClassId × ClassId) (adr : Nat → Nat) (ro : Nat → Nat → Int32) (A : Nat → Prop) (D : ADd) (M : AMm) (u : Nat → Nat) (t : State) : Prop :=
  va_P (dC, dI) classes (wso cA u D M) t.heap ∧ va_D A (wso cA u D M) ∧ dok D ∧ D.length ≤ 1000 ∧ (∀ r, r < 4 → u (1000000 + r) = adr r) ∧ ∀ r, r < 5 → M (1000000 + r) = ro r
/-- a method's start -/
def BP (dC : Nat → ClassId) (dI : Nat → Nat → Nat) (cA : ClassId × ClassId × ClassId) (adr : Nat → Nat) (ro : Nat → Nat → Int32) (sz : Nat) (D : ADd) (M : AMm) (ad : Nat → Nat) (U : State) : Prop :=
  U.heap.size = sz ∧ BW dC dI cA adr ro (fun _ => True) D M ad U ∧ EV dC dI cA adr ro (va_A (wso cA ad D M) sz) U
theorem BP_blind {as : List Value} {sz : Nat} : FrameBlind (va_Pc as (BP dC dI cA adr ro sz D M ad)) := fun a U g mk q => ⟨q.1, q.2.1, q.2.2.1, EV.same q.2.2.2 rfl rfl⟩
theorem BP_of (hA : ∀ q, s.heap.size ≤ q → A q) (hE : EV dC dI cA adr ro A s) (hW : WH dC dI cA adr ro A s.heap H locs D M ad) : (∀ q, va_A (wso cA ad D M) H.size q → A q) ∧ ∀ U : State, U.heap = H → s.WarmedH U.vm → BP dC dI cA adr ro H.size D M ad U := by
  obtain ⟨hP, hD, hS, hdk, hd3, had, hro⟩ := hW
  have hF : ∀ q, va_A (wso cA ad D M) H.size q → A q := by
    intro q hq
    rcases hq with ⟨k, x, hk⟩ | hq
    · exact hD.2 k _ hk
    · exact hA q (Nat.le_trans hS.1 hq)
  exact ⟨hF, fun U hU hw => ⟨by rw [hU], ⟨by rw [hU]; exact hP, hD.weaken (fun _ _ _ _ => trivial), hdk, hd3, had, hro⟩, (hE.warm hw hU hS).weaken hF⟩⟩
theorem take_rev {α : Type} {st : List α} {na : Nat} {x : α} (h0 : 0 < na) (hx : st[na - 1]? = some x) : ∃ ps : List α, (st.take na).reverse = x :: ps ∧ ps.length = na - 1 ∧ st = ps.reverse ++ x :: st.drop na := by
  have hl := (List.getElem?_eq_some_iff.mp hx).1
  have e1 : st.take na = st.take (na - 1) ++ [x] := by
    obtain ⟨n, rfl⟩ : ∃ n, na = n + 1 := ⟨na - 1, by omega⟩
    rw [List.take_add_one]
    simp only [Nat.add_sub_cancel] at hx ⊢
    rw [hx]; rfl
  refine ⟨(st.take (na - 1)).reverse, by rw [e1, List.reverse_append]; rfl, by rw [List.length_reverse, List.length_take]; omega, ?_⟩
  rw [List.reverse_reverse]
  have e2 := (List.take_append_drop na st).symm
  rw [e1, List.append_assoc] at e2
  exact e2
theorem GW_good {w : Nat} {x : Jvm.Cond} (h : a_w w x = true) (hg : goodWord x = true) : GoodIn GW (x :: GW) := by
  intro y hy
  rcases List.mem_cons.mp hy with rfl | hy
  · exact ⟨a_w_in h hg, good_of_word hg⟩
  · exact ⟨hy, good_of_word (List.mem_filter.mp hy).2⟩
theorem sn_run {ins : Instr} (hx : p.tables.exec = Jvm.exec) (hb : c.code = bs) (hml : c.maxLocals = nL) (hown : s.vm.findClass own = some m.cls) (hts : ∀ w ∈ GW, w.before args s = true) (hE : EV dC dI cA adr ro A s) (hd : decode bs pc = .ok (ins, len)) (hok : ok_i own nm tb j pc ins len aux wx = true) (hW : WH dC dI cA adr ro A s.heap H locs D M ad) (hL : LH ad ls nL L)
    {k2 : Nat} {as rest : List Value} (hs : a_ex ins aux k j L st D M = some (.inr (.inr (k2, as, rest)))) {mt2 : AMt} (hm2 : methods[k2]? = some mt2) (hn1 : mt2.1.cls ≠ "java/lang/invoke/MethodHandle") (hn2 : mt2.1.cls ≠ "java/lang/invoke/VarHandle") (hmx : mt2.2.2.1 ≤ 40)
    {d mc ms' : Nat} {B : State → Prop} {Qc : Array Value → State → Outcome → State → Prop} {free : Addr → Prop} (hM : Met l mt2.1 (Cond.code mt2.1 mt2.2.1 mt2.2.2.1 mt2.2.2.2.1 :: GW) { frames := d + 1, cells := mc, slots := ms', locals := 64 * (d + 1) } (va_Pc (as.map (cv ad)) B) Qc mc ms' free)
    (hfb : FrameBlind (va_Pc (as.map (cv ad)) B)) (hpre : ∀ U : State, U.heap = H → s.WarmedH U.vm → B U) (hR : d + 2 ≤ R.frames ∧ 64 * (d + 2) ≤ R.locals) (hf : cells + mc ≤ R.cells ∧ slots + ms' ≤ R.slots) :
    a_pc tb (j + 1) = pc + 3 ∧ (a_sl as).length ≤ a_maxL k2 ∧ (∀ v ∈ as, v ∈ st) ∧ (∀ v ∈ rest, v ∈ st) ∧ va_Run p l e R s m args below meth c H locs cells slots mc ms' (F0 m pc ls (st.map (cv ad))) (rest.map (cv ad)) (Qc (as.map (cv ad)).toArray) free := by
  obtain ⟨hP, hD, hS, hdk, hd3, had, hro⟩ := hW
  have hRR : d + 1 + 1 ≤ R.frames ∧ 8 + (mt2.2.2.1 + 11) + 64 * (d + 1) ≤ R.locals := ⟨hR.1, by omega⟩
  have room : ∀ {r : List Value}, a_cat r ≤ 8 → 2 * (F0 m pc ls (st.map (cv ad))).monitorRoom + ((r.map (cv ad)).map fun v => v.category).sum ≤ 8 := fun h => lv_room (by rw [cat_map]; exact h)
  rcases a_ex_cls hs with ⟨_, hq⟩ | ⟨-, v, -, -, hq⟩ | ⟨-, -, hq⟩ | ⟨i, rfl, hq⟩ | ⟨i, c0, n0, rfl, rfl, hq⟩ | ⟨i, c0, n0, rfl, rfl, hq⟩
  · cases hq
  · cases hq
  · cases hq
  · obtain ⟨hca, hna, a, fs, hat, hDa⟩ := a_callv_at hq
    obtain ⟨hxe, hnl, hcat, hsl⟩ := a_call_at hca
    cases hxe
    simp only [ok_i, Bool.and_eq_true, beq_iff_eq] at hok
    obtain ⟨rfl, hn, hw⟩ := hok
    split at hw
    · rename_i mt w nest w2 w3 wi wc q hmt hc
      obtain rfl : mt2 = mt := Option.some.inj (hm2.symm.trans hmt)
      simp only [Bool.and_eq_true, decide_eq_true_eq, ok_cl] at hw
      obtain ⟨hln, hqc, hw2, hw3, hwi, hwc, hpar⟩ := hw
      obtain ⟨ps, e1, e2, e3⟩ := take_rev hna hat
      refine ⟨hn, hsl, fun v hv => List.mem_of_mem_take (List.mem_reverse.mp hv), fun v hv => List.mem_of_mem_drop hv, ?_⟩
      have hrv := va_recv hE.1 hP hc (wso_at hDa)
      rw [hqc] at hrv
      have eas : ((st.take (a_hd aux.tail)).reverse).map (cv ad) = .ref (ad a) :: ps.map (cv ad) := by rw [e1]; rfl
      rw [eas] at hM hfb ⊢
      have hst : st.map (cv ad) = (ps.map (cv ad)).reverse ++ .ref (ad a) :: (st.drop (a_hd aux.tail)).map (cv ad) := by
        conv => lhs; rw [e3]
        rw [List.map_append, List.map_reverse]; rfl
      have hlen : (ps.map (cv ad)).length = a_hd aux.tail - 1 := by rw [List.length_map, e2]
      unfold ok_ln at hln
      split at hln
      · exact va_runV (As := ps.map (cv ad)) ⟨hx, hb, hml, hown, hts⟩ hM ⟨callB_of _ hts (GW_good hwc rfl) rfl rfl rfl (hts _ (a_w_in hwi rfl)) (hts _ (a_w_in hln rfl)) ⟨hn1, hn2, hpar⟩ hRR, hts _ (a_w_in hw2 rfl), hts _ (a_w_in hw3 rfl)⟩ ⟨hfb, hrv, fun U h1 h2 => ⟨rfl, hpre U h1 h2⟩⟩ rfl hlen hL.1 hst (room hcat) hd hf
      · exact va_runVN (As := ps.map (cv ad)) ⟨hx, hb, hml, hown, hts⟩ hM ⟨va_cnB _ hts (GW_good hwc rfl) rfl rfl rfl (hE.2.1 _ (a_w_tbl hln) rfl) (hts _ (a_w_in hwi rfl)) ⟨hn1, hn2, hpar⟩ hRR, hts _ (a_w_in hw2 rfl), hts _ (a_w_in hw3 rfl)⟩ ⟨hfb, hrv, fun U h1 h2 => ⟨rfl, hpre U h1 h2⟩⟩ rfl hlen hL.1 hst (room hcat) hd hf
    · cases hw
  · obtain ⟨hxe, hnl, hcat, hsl⟩ := a_call_at hq
    cases hxe
    simp only [ok_i, Bool.and_eq_true, beq_iff_eq] at hok
    obtain ⟨rfl, hn, hw⟩ := hok
    split at hw
    · rename_i c1 n1 w nest w2 wi wc hax
      obtain ⟨rfl, rfl⟩ : k2 = c1 ∧ n0 = n1 := by injection hax with z1 z2; injection z2 with z2 z3; exact ⟨z1, z2⟩
      rw [hm2] at hw
      simp only [Bool.and_eq_true, ok_cl, decide_eq_true_eq] at hw
      obtain ⟨hln, hw2, hwi, hwc, hpar⟩ := hw
      refine ⟨hn, hsl, fun v hv => List.mem_of_mem_take (List.mem_reverse.mp hv), fun v hv => List.mem_of_mem_drop hv, ?_⟩
      have hst : st.map (cv ad) = (((st.take n0).reverse).map (cv ad)).reverse ++ (st.drop n0).map (cv ad) := by
        rw [← List.map_reverse, List.reverse_reverse, ← List.map_append, List.take_append_drop]
      have hlen : (((st.take n0).reverse).map (cv ad)).length = n0 := by rw [List.length_map, List.length_reverse, List.length_take]; omega
      unfold ok_ln at hln
      split at hln
      · exact va_runS (As := ((st.take n0).reverse).map (cv ad)) ⟨hx, hb, hml, hown, hts⟩ hM ⟨callB_of _ hts (GW_good hwc rfl) rfl rfl rfl (hts _ (a_w_in hwi rfl)) (hts _ (a_w_in hln rfl)) ⟨hn1, hn2, hpar⟩ hRR, hts _ (a_w_in hw2 rfl)⟩ ⟨hfb, fun U h1 h2 => ⟨rfl, hpre U h1 h2⟩⟩ rfl hlen hL.1 hst (room hcat) hd hf
      · exact va_runSN (As := ((st.take n0).reverse).map (cv ad)) ⟨hx, hb, hml, hown, hts⟩ hM ⟨va_cnB _ hts (GW_good hwc rfl) rfl rfl rfl (hE.2.1 _ (a_w_tbl hln) rfl) (hts _ (a_w_in hwi rfl)) ⟨hn1, hn2, hpar⟩ hRR, hts _ (a_w_in hw2 rfl), trivial⟩ ⟨hfb, fun U h1 h2 => ⟨rfl, hpre U h1 h2⟩⟩ rfl hlen hL.1 hst (room hcat) hd hf
    · rename_i hax; cases hax
    · rename_i hax; cases hax
    · cases hw
  · obtain ⟨hca, hna, a, hat⟩ := a_calls_at hq
    obtain ⟨hxe, hnl, hcat, hsl⟩ := a_call_at hca
    cases hxe
    simp only [ok_i, Bool.and_eq_true, beq_iff_eq] at hok
    obtain ⟨rfl, hn, hw⟩ := hok
    split at hw
    · rename_i c1 n1 w nest w2 wi wc hax
      obtain ⟨rfl, rfl⟩ : k2 = c1 ∧ n0 = n1 := by injection hax with z1 z2; injection z2 with z2 z3; exact ⟨z1, z2⟩
      rw [hm2] at hw
      simp only [Bool.and_eq_true, ok_cl, decide_eq_true_eq] at hw
      obtain ⟨hln, hw2, hini, hret, hwi, hwc, hpar⟩ := hw
      obtain ⟨ps, e1, e2, e3⟩ := take_rev hna hat
      refine ⟨hn, hsl, fun v hv => List.mem_of_mem_take (List.mem_reverse.mp hv), fun v hv => List.mem_of_mem_drop hv, ?_⟩
      have eas : ((st.take n0).reverse).map (cv ad) = .ref (ad a) :: ps.map (cv ad) := by rw [e1]; rfl
      rw [eas] at hM hfb ⊢
      rw [hret] at hM hwc
      have hst : st.map (cv ad) = (ps.map (cv ad)).reverse ++ .ref (ad a) :: (st.drop n0).map (cv ad) := by
        conv => lhs; rw [e3]
        rw [List.map_append, List.map_reverse]; rfl
      have hlen : (ps.map (cv ad)).length = n0 - 1 := by rw [List.length_map, e2]
      unfold ok_ln at hln
      split at hln
      · exact va_runI (As := ps.map (cv ad)) ⟨hx, hb, hml, hown, hts⟩ hM ⟨callB_of _ hts (GW_good hwc rfl) rfl rfl rfl (hts _ (a_w_in hwi rfl)) (hts _ (a_w_in hln rfl)) ⟨hn1, hn2, hpar⟩ hRR, hini, hts _ (a_w_in hw2 rfl)⟩ ⟨hfb, fun U h1 h2 => ⟨rfl, hpre U h1 h2⟩⟩ rfl hlen hL.1 hst (room hcat) hd hf
      · exact va_runIN (As := ps.map (cv ad)) ⟨hx, hb, hml, hown, hts⟩ hM ⟨va_cnB _ hts (GW_good hwc rfl) rfl rfl rfl (hE.2.1 _ (a_w_tbl hln) rfl) (hts _ (a_w_in hwi rfl)) ⟨hn1, hn2, hpar⟩ hRR, hini, hts _ (a_w_in hw2 rfl)⟩ ⟨hfb, fun U h1 h2 => ⟨rfl, hpre U h1 h2⟩⟩ rfl hlen hL.1 hst (room hcat) hd hf
    · rename_i hax; cases hax
    · cases hw
end SC
end
section
-- THE SOUNDNESS THEOREM
theorem ok_mt {k : Nat} {mt : AMt} (h : methods[k]? = some mt) : plainName mt.1.cls = true ∧ mt.1.cls ≠ "java/lang/invoke/MethodHandle" ∧ mt.1.cls ≠ "java/lang/invoke/VarHandle" ∧ mt.2.2.1 ≤ 40 ∧ a_pc mt.2.2.2.2 0 = 0 ∧ ∀ e ∈ mt.2.2.2.2, ok_rt mt.2.2.2.1 e = true := by
  have hm := (ok_all mt (List.mem_of_getElem? h)).2
  unfold ok_m at hm
  simp only [Bool.and_eq_true, decide_eq_true_eq, beq_iff_eq, List.all_eq_true] at hm
  exact hm
/-- what a method answers, by its kind -/
def a_rk (ret : Option FieldType) (r : Option Value) : Prop := (r = none ∧ ret = none) ∨ ∃ v, r = some (.int v) ∧ (ret = some .int ∨ (ret = some .boolean ∧ (v = 0 ∨ v = 1)))
theorem stp_ret {s : ASt} {r : ARs} (h : stp s = some (.inr (.inl r))) {mt : AMt} (hm : methods[s.1]? = some mt) : ∃ e : AEn, mt.2.2.2.2[s.2.1]? = some e ∧ a_rk mt.2.2.2.1 r.1 ∧ r.2 = s.2.2.2.2 ∧ ((e.2.1 = .ireturn ∧ ∃ v, r.1 = some (.int v) ∧ s.2.2.2.1 = [.int v]) ∨ (e.2.1 = .return_ ∧ r.1 = none ∧ s.2.2.2.1 = [])) := by
  obtain ⟨mt', e, hm', he, hex⟩ := stp_at h
  obtain rfl : mt = mt' := Option.some.inj (hm.symm.trans hm')
  have hrt := (ok_mt hm).2.2.2.2.2 e (List.mem_of_getElem? he)
  rcases a_ex_cls hex with ⟨_, hq⟩ | ⟨hi, v, hst, hv, hq⟩ | ⟨hi, hst, hq⟩ | ⟨_, -, hq⟩ | ⟨_, _, _, -, -, hq⟩ | ⟨_, _, _, -, -, hq⟩
  · cases hq
  · have hr : r = (some (.int v), s.2.2.2.2.1, s.2.2.2.2.2) := by injection hq with hq; injection hq
    subst hr
    refine ⟨e, he, Or.inr ⟨v, rfl, ?_⟩, rfl, Or.inl ⟨hi, v, rfl, hst⟩⟩
    unfold ok_rt at hrt
    rw [hi] at hrt
    dsimp only at hrt
    split at hrt
    · rename_i hret
      refine Or.inr ⟨hret, ?_⟩
      have h1 : a_hd e.2.2.2.1 = 1 := by simpa using hrt
      rcases hv with hv | hv
      · rw [h1] at hv; cases hv
      · exact hv
    · rename_i hret; exact Or.inl hret
    · cases hrt
  · have hr : r = (none, s.2.2.2.2.1, s.2.2.2.2.2) := by injection hq with hq; injection hq
    subst hr
    refine ⟨e, he, Or.inl ⟨rfl, ?_⟩, rfl, Or.inr ⟨hi, rfl, hst⟩⟩
    unfold ok_rt at hrt
    rw [hi] at hrt
    exact of_decide_eq_true hrt
  · have := (a_call_at (a_callv_at hq).1).1; cases this
  · have := (a_call_at hq).1; cases this
  · have := (a_call_at (a_calls_at hq).1).1; cases this
theorem ex_ret : ∀ (n d : Nat) (s : ASt) (r : ARs) (mt : AMt), ex d n s = some r → methods[s.1]? = some mt → a_rk mt.2.2.2.1 r.1 := by
  intro n
  induction n with
  | zero => intro d s r mt h; simp [ex] at h
  | succ n ih =>
    intro d s r mt h hm
    unfold ex at h
    cases hs : stp s with
    | none => rw [hs] at h; simp at h
    | some o =>
      rw [hs] at h
      cases o with
      | inl s' =>
        obtain ⟨mt', e, -, -, hex⟩ := stp_at hs
        refine ih d s' r mt h ?_
        obtain ⟨k', j', L', st', D', M'⟩ := s'
        rw [(a_ex_len hex).1]
        exact hm
      | inr o =>
        cases o with
        | inl r' =>
          have : r' = r := Option.some.inj h
          subst this
          obtain ⟨e, -, hk, -⟩ := stp_ret hs hm
          exact hk
        | inr c =>
          obtain ⟨k, as, rest⟩ := c
          cases d with
          | zero => simp at h
          | succ d' =>
            dsimp only at h
            cases hc : ex d' n (ent k as s.2.2.2.2.1 s.2.2.2.2.2) with
            | none => rw [hc] at h; simp at h
            | some r1 =>
              rw [hc] at h
              exact ih (d' + 1) _ r mt h hm
/-- n steps, d calls deep: what the machine does -/
def SND (l : Launch) (dC : Nat → ClassId) (dI : Nat → Nat → Nat) (cA : ClassId × ClassId × ClassId) (adr : Nat → Nat) (ro : Nat → Nat → Int32) (n d : Nat) : Prop :=
  ∀ (sA : ASt) (r : ARs), ex d n sA = some r → ∀ (p : Program) (e : Env) (R : Room) (s : State) (m : MethodId) (args : Array Value) (below : List Frame) (meth : Method) (c : Code) (A : Nat → Prop) (H : Heap) (locs : List Loc) (cells slots : Nat) (Q : State → Prop) (ad : Nat → Nat) (ls : Array Slot) (mt : AMt),
    methods[sA.1]? = some mt → p.tables.exec = Jvm.exec → c.code = mt.2.1 → c.maxLocals = mt.2.2.1 → s.vm.findClass mt.1.cls = some m.cls → (∀ w ∈ GW, w.before args s = true) → (mt.1.name = "<init>" → meth.name = "<init>") → (∀ q, s.heap.size ≤ q → A q) → EV dC dI cA adr ro A s →
    (d + 1 ≤ R.frames ∧ 64 * (d + 1) ≤ R.locals) → (cells + (r.2.1.length - sA.2.2.2.2.1.length) ≤ R.cells ∧ slots + (a_szs r.2.1 - a_szs sA.2.2.2.2.1) ≤ R.slots) → WH dC dI cA adr ro A s.heap H locs sA.2.2.2.2.1 sA.2.2.2.2.2 ad → LH ad ls mt.2.2.1 sA.2.2.1 → LV sA.2.2.2.2.1.length sA.2.2.1 → (∀ v ∈ sA.2.2.2.1, vok sA.2.2.2.2.1.length v) →
    (∀ (pc : Nat) (ls' : Array Slot) (H' : Heap) (locs' : List Loc) (ad' : Nat → Nat), WH dC dI cA adr ro A s.heap H' locs' r.2.1 r.2.2 ad' → agr sA.2.2.2.2.1.length ad ad' → (∀ v, r.1 = some (.int v) → decode mt.2.1 pc = .ok (.ireturn, 1) → W p l e R s m args below meth c H' locs' (cells + (r.2.1.length - sA.2.2.2.2.1.length)) (slots + (a_szs r.2.1 - a_szs sA.2.2.2.2.1)) Q (F0 m pc ls' [.int v])) ∧ (r.1 = none → decode mt.2.1 pc = .ok (.return_, 1) → W p l e R s m args below meth c H' locs' (cells + (r.2.1.length - sA.2.2.2.2.1.length)) (slots + (a_szs r.2.1 - a_szs sA.2.2.2.2.1)) Q (F0 m pc ls' []))) →
    W p l e R s m args below meth c H locs cells slots Q (F0 m (a_pc mt.2.2.2.2 sA.2.1) ls (sA.2.2.2.1.map (cv ad)))
section SM
variable {l : Launch} {dC : Nat → ClassId} {dI : Nat → Nat → Nat} {cA : ClassId × ClassId × ClassId} {adr : Nat → Nat} {ro : Nat → Nat → Int32}
/-- the contract of a method: its end, by what it answers -/
def QM (dC : Nat → ClassId) (dI : Nat → Nat → Nat) (cA : ClassId × ClassId × ClassId) (adr : Nat → Nat) (ro : Nat → Nat → Int32) (D : ADd) (ad : Nat → Nat) (A : Nat → Prop) (r : ARs) : Array Value → State → Outcome → State → Prop := match r.1 with
  | some (.int v) => va_Qi (fun (z : Int32) (u : Nat → Nat) => z = v ∧ agr D.length ad u) (BW dC dI cA adr ro A r.2.1 r.2.2) A
  | _ => va_Qv (fun u : Nat → Nat => agr D.length ad u) (BW dC dI cA adr ro A r.2.1 r.2.2) A
theorem met_of {n d : Nat} (h : SND l dC dI cA adr ro n d) {k : Nat} {as : List Value} {D : ADd} {M : AMm} {r : ARs} (hc : ex d n (ent k as D M) = some r) {mt : AMt} (hm : methods[k]? = some mt) (hlen : (a_sl as).length ≤ a_maxL k) (has : ∀ v ∈ as, vok D.length v) (ad : Nat → Nat) (sz : Nat) :
    Met l mt.1 (Cond.code mt.1 mt.2.1 mt.2.2.1 mt.2.2.2.1 :: GW) { frames := d + 1, cells := r.2.1.length - D.length, slots := a_szs r.2.1 - a_szs D, locals := 64 * (d + 1) } (va_Pc (as.map (cv ad)) (BP dC dI cA adr ro sz D M ad)) (QM dC dI cA adr ro D ad (va_A (wso cA ad D M) sz) r) (r.2.1.length - D.length) (a_szs r.2.1 - a_szs D) (va_A (wso cA ad D M) sz) := by
  obtain ⟨hpl, -, -, -, hp0, -⟩ := ok_mt hm
  have hml0 : a_maxL k = mt.2.2.1 := by unfold a_maxL; rw [hm]
  rw [hml0] at hlen
  refine Met.ofW (cc := mt.2.1) (maxL := mt.2.2.1) (ret := mt.2.2.2.1) hpl rfl ?_
  intro p e s m args below meth c s₁ B hml hv
  obtain ⟨rfl, hsz, ⟨hP, hD0, hdk, hd3, had, hro⟩, hE⟩ := hv
  have hx := B.exec
  have hb := B.bytes
  have hr := B.returns
  have hts0 := atoms_spec (ws := Cond.code mt.1 mt.2.1 mt.2.2.1 mt.2.2.2.1 :: GW) B.pre
  have hts : ∀ w ∈ GW, w.before _ s = true := fun w hw => hts0 w (List.mem_cons_of_mem _ hw)
  have hown : s.vm.findClass mt.1.cls = some m.cls := findClass_of_methodNamed B.named
  have hlocks := B.notSynchronized
  have hin : meth.name = mt.1.name := (name_of_methodNamed B.named B.method).1
  subst hsz
  have hrk := ex_ret n d _ r mt hc hm
  rw [lg_entry_eq]
  have hLH := LH_entry ad as (n := mt.2.2.1) hlen
  have hD := hD0.self (sz := s.heap.size)
  have hent : ent k as D M = (k, 0, a_sl as ++ List.replicate (mt.2.2.1 - (a_sl as).length) none, [], D, M) := by unfold ent; rw [hml0]
  rw [hent] at hc
  have main := h _ r hc p e (headSpec (Cond.code mt.1 mt.2.1 mt.2.2.1 mt.2.2.2.1 :: GW) { frames := d + 1, cells := r.2.1.length - D.length, slots := a_szs r.2.1 - a_szs D, locals := 64 * (d + 1) }).room s m (as.map (cv ad)).toArray below meth c (va_A (wso cA ad D M) s.heap.size) s.heap [] 0 0 (MQ below (QM dC dI cA adr ro D ad (va_A (wso cA ad D M) s.heap.size) r) (as.map (cv ad)).toArray s (r.2.1.length - D.length) (a_szs r.2.1 - a_szs D) (va_A (wso cA ad D M) s.heap.size)) ad _ mt hm hx hb hml hown hts (fun q => hin.trans q) (fun q hq => Or.inr hq) hE ⟨Nat.le_refl _, Nat.le_refl _⟩ ⟨by rw [Nat.zero_add]; exact Nat.le_refl _, by rw [Nat.zero_add]; exact Nat.le_refl _⟩ ⟨hP, hD, va_S.rf, hdk, hd3, had, hro⟩ hLH (LV_entry has _) (fun v hv => absurd hv List.not_mem_nil) ?_
  · rw [hp0] at main
    exact main
  · intro pc ls' H' locs' ad' hW' hag
    obtain ⟨hP', hD', hS', hdk', hd3', had', hro'⟩ := hW'
    rw [Nat.zero_add, Nat.zero_add]
    refine ⟨fun v hrv hdec => ?_, fun hrn hdec => ?_⟩
    · have hq : ∀ t : State, t.heap = H' → s.WarmedH t.vm → QM dC dI cA adr ro D ad (va_A (wso cA ad D M) s.heap.size) r (as.map (cv ad)).toArray s (.returned (some (.int v))) t := by
        intro t ht hw
        unfold QM
        rw [hrv]
        exact ⟨⟨v, ad', rfl, ⟨rfl, hag⟩, by rw [ht]; exact hP', hD', hdk', hd3', had', hro'⟩, hS'.F ht⟩
      rcases hrk with ⟨z, -⟩ | ⟨v', z, hret | ⟨hret, h01⟩⟩
      · rw [hrv] at z; cases z
      · exact W.iret hx hb (by rw [hr, hret]) hq hS'.2.2 hdec hlocks
      · obtain rfl : v = v' := by rw [hrv] at z; injection z with z; injection z
        exact W.zret (ty := .boolean) hx hb (by rw [hr, hret]) (by rcases h01 with rfl | rfl <;> rfl) hq hS'.2.2 hdec hlocks
    · have hq : ∀ t : State, t.heap = H' → s.WarmedH t.vm → QM dC dI cA adr ro D ad (va_A (wso cA ad D M) s.heap.size) r (as.map (cv ad)).toArray s (.returned none) t := by
        intro t ht hw
        unfold QM
        rw [hrn]
        exact ⟨⟨ad', rfl, hag, by rw [ht]; exact hP', hD', hdk', hd3', had', hro'⟩, hS'.F ht⟩
      rcases hrk with ⟨-, hret⟩ | ⟨v', z, -⟩
      · exact W.vret hx hb (by rw [hr, hret]) hq hS'.2.2 hdec hlocks
      · rw [hrn] at z; cases z
theorem snd : ∀ n d : Nat, SND l dC dI cA adr ro n d := by
  intro n
  induction n with
  | zero => intro d sA r h; simp [ex] at h
  | succ n ih =>
    intro d sA r h p e R s m args below meth c A H locs cells slots Q ad ls mt hm hx hb hml hown hts hin hA hE hR hC hW hL hLv hSv KR
    unfold ex at h
    cases hs : stp sA with
    | none => rw [hs] at h; simp at h
    | some o =>
      rw [hs] at h
      obtain ⟨mt', e0, hm', he, hex⟩ := stp_at hs
      obtain rfl : mt = mt' := Option.some.inj (hm.symm.trans hm')
      obtain ⟨hdec, hok⟩ := ok_row hm he
      have hpc : a_pc mt.2.2.2.2 sA.2.1 = e0.1 := by unfold a_pc; rw [he]
      rw [hpc]
      cases o with
      | inl s' =>
        have hl1 := ex_len n d s' r h
        obtain ⟨k', j', L', st', D', M'⟩ := s'
        obtain ⟨hk', hlD, hzD⟩ := a_ex_len hex
        dsimp only at hl1
        refine sn_step hx hb hml hown hts hin hA hE ⟨by omega, by omega⟩ ⟨by omega, by omega⟩ hdec hok hex hW hL hLv hSv ?_
        intro ls' H' locs' ad' hW' hL' hLv' hSv' hag
        refine ih d (k', j', L', st', D', M') r h p e R s m args below meth c A H' locs' _ _ Q ad' ls' mt (by rw [hk']; exact hm) hx hb hml hown hts hin hA hE hR ⟨by dsimp only; omega, by dsimp only; omega⟩ hW' hL' hLv' hSv' ?_
        intro pc2 ls2 H2 locs2 ad2 hW2 hag2
        have e1 : cells + (D'.length - sA.2.2.2.2.1.length) + (r.2.1.length - D'.length) = cells + (r.2.1.length - sA.2.2.2.2.1.length) := by omega
        have e2 : slots + (a_szs D' - a_szs sA.2.2.2.2.1) + (a_szs r.2.1 - a_szs D') = slots + (a_szs r.2.1 - a_szs sA.2.2.2.2.1) := by omega
        dsimp only
        rw [e1, e2]
        exact KR pc2 ls2 H2 locs2 ad2 hW2 (agr_tr hlD hag hag2)
      | inr o =>
        cases o with
        | inl r' =>
          have hrr : r' = r := Option.some.inj h
          subst hrr
          obtain ⟨e1, he1, -, hr2, hcase⟩ := stp_ret hs hm
          obtain rfl : e0 = e1 := Option.some.inj (he.symm.trans he1)
          have hW2 : WH dC dI cA adr ro A s.heap H locs r'.2.1 r'.2.2 ad := by rw [hr2]; exact hW
          have K := KR e0.1 ls H locs ad hW2 agr_rf
          have z1 : r'.2.1.length - sA.2.2.2.2.1.length = 0 := by rw [hr2]; exact Nat.sub_self _
          have z2 : a_szs r'.2.1 - a_szs sA.2.2.2.2.1 = 0 := by rw [hr2]; exact Nat.sub_self _
          rw [z1, z2, Nat.add_zero, Nat.add_zero] at K
          rcases hcase with ⟨hi, v, hrv, hst⟩ | ⟨hi, hrn, hst⟩
          · rw [hst]
            have hlen1 : e0.2.2.1 = 1 := by rw [hi] at hok; simpa [ok_i] using hok
            exact K.1 v hrv (by rw [hdec, hi, hlen1])
          · rw [hst]
            have hlen1 : e0.2.2.1 = 1 := by rw [hi] at hok; simpa [ok_i] using hok
            exact K.2 hrn (by rw [hdec, hi, hlen1])
        | inr cl =>
          obtain ⟨k2, as, rest⟩ := cl
          cases d with
          | zero => simp at h
          | succ d' =>
            dsimp only at h
            cases hc : ex d' n (ent k2 as sA.2.2.2.2.1 sA.2.2.2.2.2) with
            | none => rw [hc] at h; simp at h
            | some r1 =>
              rw [hc] at h
              dsimp only at h
              have hl1 := ex_len n d' _ r1 hc
              have hl2 := ex_len n (d' + 1) _ r h
              dsimp only [ent, aft] at hl1 hl2
              obtain ⟨mt2, hm2⟩ : ∃ mt2, methods[k2]? = some mt2 := by
                cases hq : methods[k2]? with
                | some mt2 => exact ⟨mt2, rfl⟩
                | none =>
                  exfalso
                  cases n with
                  | zero => simp [ex] at hc
                  | succ n' =>
                    unfold ex at hc
                    have : stp (ent k2 as sA.2.2.2.2.1 sA.2.2.2.2.2) = none := by unfold stp ent; dsimp only; rw [hq]
                    rw [this] at hc
                    cases hc
              obtain ⟨-, hn1, hn2, hmx, -, -⟩ := ok_mt hm2
              obtain ⟨hF, hpre⟩ := BP_of hA hE hW
              have hlenq : (a_sl as).length ≤ a_maxL k2 ∧ (∀ v ∈ as, v ∈ sA.2.2.2.1) := by
                rcases a_ex_cls hex with ⟨_, hq⟩ | ⟨-, v, -, -, hq⟩ | ⟨-, -, hq⟩ | ⟨_, -, hq⟩ | ⟨_, _, _, -, -, hq⟩ | ⟨_, _, _, -, -, hq⟩
                · cases hq
                · cases hq
                · cases hq
                · obtain ⟨z1, -, -, z2⟩ := a_call_at (a_callv_at hq).1
                  cases z1
                  exact ⟨z2, fun v hv => List.mem_of_mem_take (List.mem_reverse.mp hv)⟩
                · obtain ⟨z1, -, -, z2⟩ := a_call_at hq
                  cases z1
                  exact ⟨z2, fun v hv => List.mem_of_mem_take (List.mem_reverse.mp hv)⟩
                · obtain ⟨z1, -, -, z2⟩ := a_call_at (a_calls_at hq).1
                  cases z1
                  exact ⟨z2, fun v hv => List.mem_of_mem_take (List.mem_reverse.mp hv)⟩
              have hM := met_of (ih d') hc hm2 hlenq.1 (fun v hv => hSv v (hlenq.2 v hv)) ad H.size
              obtain ⟨hn, -, -, hrs, hrun⟩ := sn_run (cells := cells) (slots := slots) (R := R) (e := e) (below := below) (meth := meth) hx hb hml hown hts hE hdec hok hW hL hex hm2 hn1 hn2 hmx hM BP_blind hpre ⟨by omega, by omega⟩ ⟨by omega, by omega⟩
              have hS := hW.2.2.1
              have back : ∀ (u : Nat → Nat) (t : State) (H1 : Heap) (locs1 : List Loc), t.heap = H1 → agr sA.2.2.2.2.1.length ad u → BW dC dI cA adr ro (va_A (wso cA ad sA.2.2.2.2.1 sA.2.2.2.2.2) H.size) r1.2.1 r1.2.2 u t → va_S A s.heap H1 locs1 → (∀ v ∈ r1.1.toList, vok r1.2.1.length v) → W p l e R s m args below meth c H1 locs1 (cells + (r1.2.1.length - sA.2.2.2.2.1.length)) (slots + (a_szs r1.2.1 - a_szs sA.2.2.2.2.1)) Q (F0 m (e0.1 + 3) ls ((r1.1.toList ++ rest).map (cv u))) := by
                intro u t H1 locs1 ht hag hB hS1 hrv
                obtain ⟨hP1, hD1, hdk1, hd31, had1, hro1⟩ := hB
                rw [ht] at hP1
                rw [← hn]
                refine ih (d' + 1) (aft sA r1 rest) r h p e R s m args below meth c A H1 locs1 _ _ Q u ls mt hm hx hb hml hown hts hin hA hE hR ⟨by dsimp only [aft]; omega, by dsimp only [aft]; omega⟩ ⟨hP1, hD1.weaken (fun _ q _ hq => hF q.1 hq), hS1, hdk1, hd31, had1, hro1⟩ (hL.agr hag hLv) (fun i v hv => vok_up hl1.1 (hLv i v hv)) (fun v hv => ?_) ?_
                · rcases List.mem_append.mp hv with z | z
                  · exact hrv v z
                  · exact vok_up hl1.1 (hSv v (hrs v z))
                · intro pc2 ls2 H2 locs2 ad2 hW2 hag2
                  have e1 : cells + (r1.2.1.length - sA.2.2.2.2.1.length) + (r.2.1.length - r1.2.1.length) = cells + (r.2.1.length - sA.2.2.2.2.1.length) := by omega
                  have e2 : slots + (a_szs r1.2.1 - a_szs sA.2.2.2.2.1) + (a_szs r.2.1 - a_szs r1.2.1) = slots + (a_szs r.2.1 - a_szs sA.2.2.2.2.1) := by omega
                  dsimp only [aft]
                  rw [e1, e2]
                  exact KR pc2 ls2 H2 locs2 ad2 hW2 (agr_tr hl1.1 hag hag2)
              have hrest : ∀ u : Nat → Nat, agr sA.2.2.2.2.1.length ad u → rest.map (cv u) = rest.map (cv ad) := fun u hag => map_agr hag (fun v hv => hSv v (hrs v hv))
              have hrk := ex_ret n d' _ r1 mt2 hc hm2
              rcases hrk with ⟨hr0, -⟩ | ⟨v, hr0, -⟩
              · have eQ : QM dC dI cA adr ro sA.2.2.2.2.1 ad (va_A (wso cA ad sA.2.2.2.2.1 sA.2.2.2.2.2) H.size) r1 = va_Qv (fun u : Nat → Nat => agr sA.2.2.2.2.1.length ad u) (BW dC dI cA adr ro (va_A (wso cA ad sA.2.2.2.2.1 sA.2.2.2.2.2) H.size) r1.2.1 r1.2.2) (va_A (wso cA ad sA.2.2.2.2.1 sA.2.2.2.2.2) H.size) := by unfold QM; rw [hr0]
                rw [eQ] at hrun
                refine va_callv hrun hS (fun q _ hq => hF q hq) hF (fun u t H1 locs1 ht hvm hpo hB hz1 hk1 hS1 => ?_)
                have K := back u t H1 locs1 ht hpo hB hS1 (by rw [hr0]; exact fun v hv => absurd hv List.not_mem_nil)
                rw [hr0, List.map_append, hrest u hpo] at K
                exact K
              · have eQ : QM dC dI cA adr ro sA.2.2.2.2.1 ad (va_A (wso cA ad sA.2.2.2.2.1 sA.2.2.2.2.2) H.size) r1 = va_Qi (fun (z : Int32) (u : Nat → Nat) => z = v ∧ agr sA.2.2.2.2.1.length ad u) (BW dC dI cA adr ro (va_A (wso cA ad sA.2.2.2.2.1 sA.2.2.2.2.2) H.size) r1.2.1 r1.2.2) (va_A (wso cA ad sA.2.2.2.2.1 sA.2.2.2.2.2) H.size) := by unfold QM; rw [hr0]
                rw [eQ] at hrun
                refine va_calli hrun hS (fun q _ hq => hF q hq) hF (fun z u t H1 locs1 ht hvm hpo hB hz1 hk1 hS1 => ?_)
                obtain ⟨rfl, hag⟩ := hpo
                have K := back u t H1 locs1 ht hag hB hS1 (by rw [hr0]; exact fun v hv => by rw [List.mem_singleton.mp hv]; trivial)
                rw [hr0, List.map_append, hrest u hag] at K
                exact K
end SM
end
section
/-! THE CLAIM OUT OF ONE WALK OF THE LAW'S BODY. Your part is whole_start (and what it stands on); all else here is the same for every law, but numbers. -/
def R_law : String := "CornWayLaw"
def lw_P (b : Addr) (xs : List Int32) (args : Array Value) (s : State) : Prop := args = #[.ref b] ∧ s.IntsAt b xs ∧ xs.length ≤ 1536 ∧ (Jvm.Cond.and given_1 narrow_1).before args s = true
def lw_Q (_ : Array Value) (s : State) (o : Outcome) (t : State) : Prop := o = .returned (some (.int 1)) ∧ Framed s o t [] 600000 7302250
def lw_Z (below : List Frame) (a : Array Value) (s : State) : State → Prop := fun t => ∃ o, t.status = .running ∧ Ended t below o ∧ lw_Q a s o t
/-- the law's own end, with 1 on the stack, nothing written that was there before, its room as the claim has it -/
theorem lw_ret {p : Program} {l : Launch} {e : Env} {s : State} {m : MethodId} {below : List Frame} {meth : Method} {c : Code} {b : Nat} (hx : p.tables.exec = Jvm.exec) (hb : c.code = code) (hr : meth.sig.returnType = ret) (hlocks : meth.locks = false) {pc : Nat} {H : Heap} {ls : Array Slot} (hdg : decode code pc = .ok (.ireturn, 1)) : W p l e room_1 s m #[Value.ref b] below meth c H [] 600000 7302250 (lw_Z below #[Value.ref b] s) (F0 m pc ls [.int 1]) := by
  intro T hT X
  obtain ⟨fs, hret, hrun, hended, hW, hframe⟩ := X.leave (v := some (.int 1)) (hlocks := hlocks) (fun h => by rw [hr] at h; cases h)
  have hmeth' : T.vm.method? m = some meth := X.method'
  refine ⟨T.setFrames fs, ?_, .returned (some (.int 1)), hrun, hended, rfl, ⟨_, rfl⟩, hW, hframe⟩
  jvm_step X.here [X.here.top, hx, hb, hdg, hmeth', hr, ret, narrow_b1]
  (try refine ⟨rfl, ?_⟩); (try refine ⟨rfl, ?_⟩)
  first | (intro acts; rw [hret _ acts rfl rfl rfl]) | rw [hret _ _ rfl rfl rfl]
  exact Steps.refl _
/-- what holds at the law's entry: the machine, the code, the tables' words (any of lw_tbl by 'hts w (by decide +kernel)'), the script of L ints xs at the cell b, what the Statement gives of the start (any of its parts by flat_of_before) -/
def lw_At (p : Program) (s : State) (m : MethodId) (meth : Method) (c : Code) (b L : Nat) (xs : Nat → Int32) : Prop :=
  p.tables.exec = Jvm.exec ∧ c.code = code ∧ meth.sig.returnType = ret ∧ c.maxLocals = 4 ∧ s.vm.findClass R_law = some m.cls ∧ (∀ w ∈ lw_tbl, w.before #[Value.ref b] s = true) ∧ va_X b L xs s s.heap ∧ b < s.heap.size ∧ meth.locks = false ∧ (Jvm.Cond.and given_1 narrow_1).before #[Value.ref b] s = true

/-- the memory at the start: the script, the constants, nothing else -/
def M0 (xs : Nat → Int32) (L : Nat) : AMm := fun a b => if a = 1000000 then xs b else if a = 1000001 then (if b = 0 then nI 110 else if b = 1 then nI 101 else if b = 2 then nI 115 else nI 119) else if a = 1000002 then (if b = 0 then -(nI 1) else if b = 1 then nI 0 else if b = 2 then nI 1 else nI 0) else if a = 1000003 then (if b = 0 then nI 0 else if b = 1 then nI 1 else if b = 2 then nI 0 else -(nI 1)) else if a = 1000004 then nI L else 0
/-- the law, run by the abstract machine, answers 1 -/
def LAWp : Prop := ∀ (xs : Nat → Int32) (L : Nat), L ≤ 1536 → T 60 (fun r => r.1 = some (.int 1) ∧ r.2.1.length ≤ 600000 ∧ a_szs r.2.1 ≤ 7302250) (ent 128 [.ref 1000000] [] (M0 xs L))
theorem GW_tbl {w : Jvm.Cond} (h : w ∈ GW) : w ∈ lw_tbl := (List.mem_filter.mp h).1
theorem wi_0 : Cond.instantiable RX0 3 ∈ lw_tbl := List.mem_of_getElem? (i := 195) (by decide +kernel)
theorem wi_1 : Cond.instantiable RX1 9 ∈ lw_tbl := List.mem_of_getElem? (i := 82) (by decide +kernel)
theorem wi_2 : Cond.instantiable RX2 5 ∈ lw_tbl := List.mem_of_getElem? (i := 127) (by decide +kernel)
theorem wi_3 : Cond.instantiable RX3 9 ∈ lw_tbl := List.mem_of_getElem? (i := 158) (by decide +kernel)
theorem wi_4 : Cond.instantiable RX4 18 ∈ lw_tbl := List.mem_of_getElem? (i := 74) (by decide +kernel)
theorem wi_5 : Cond.instantiable RX5 21 ∈ lw_tbl := List.mem_of_getElem? (i := 570) (by decide +kernel)
theorem wi_int : Cond.arrayClass .int ∈ lw_tbl := List.mem_of_getElem? (i := 124) (by decide +kernel)
theorem wi_bool : Cond.arrayClass .boolean ∈ lw_tbl := List.mem_of_getElem? (i := 645) (by decide +kernel)
theorem wi_over : Cond.arrayOver (.object RX1) ∈ lw_tbl := List.mem_of_getElem? (i := 125) (by decide +kernel)
theorem wi_ini : Cond.initialized "CornWay" ∈ lw_tbl := List.mem_of_getElem? (i := 64) (by decide +kernel)
theorem wi_ls1 : Cond.laysStatic "CornWay" "STEP_SIGNS" "[I" ∈ lw_tbl := List.mem_of_getElem? (i := 316) (by decide +kernel)
theorem wi_ls2 : Cond.laysStatic "CornWay" "STEP_ROWS" "[I" ∈ lw_tbl := List.mem_of_getElem? (i := 226) (by decide +kernel)
theorem wi_ls3 : Cond.laysStatic "CornWay" "STEP_COLUMNS" "[I" ∈ lw_tbl := List.mem_of_getElem? (i := 228) (by decide +kernel)
set_option maxRecDepth 100000 in
theorem st_1 {args : Array Value} {s : State} {A : Nat → Prop} (hgv : (Jvm.Cond.and given_1 narrow_1).before args s = true) (hts : ∀ w ∈ lw_tbl, w.before args s = true) (hA : ∀ a : Nat, a < s.heap.size → ¬ A a) (xs : Nat → Int32) (L : Nat) : ∃ t : Nat, va_Z "CornWay" "STEP_SIGNS" "[I" (.ref t) A s s.heap ∧ va_T .int t 4 (fun j => .int (M0 xs L 1000001 j)) A s s.heap := by
  have hs := flat_of_before _ hgv
  have harr : (Cond.arrayOf (.static "CornWay" "STEP_SIGNS" "[I") .int).before args s = true := hs _ (by decide +kernel)
  have hlen : (Cond.eq (.length (.static "CornWay" "STEP_SIGNS" "[I")) (.int 4)).before args s = true := hs _ (by decide +kernel)
  have h0 : (Cond.eq (.elem (.static "CornWay" "STEP_SIGNS" "[I") (.int 0)) (.int (110))).before args s = true := hs _ (by decide +kernel)
  have h1 : (Cond.eq (.elem (.static "CornWay" "STEP_SIGNS" "[I") (.int 1)) (.int (101))).before args s = true := hs _ (by decide +kernel)
  have h2 : (Cond.eq (.elem (.static "CornWay" "STEP_SIGNS" "[I") (.int 2)) (.int (115))).before args s = true := hs _ (by decide +kernel)
  have h3 : (Cond.eq (.elem (.static "CornWay" "STEP_SIGNS" "[I") (.int 3)) (.int (119))).before args s = true := hs _ (by decide +kernel)
  obtain ⟨t, ht, hT⟩ := va_Tof (N := 4) (f := fun j => .int (M0 xs L 1000001 j)) (A := A) (by decide) harr (va_eqt hlen) (fun j hj => by
    match j, hj with
    | 0, _ => exact va_eqt h0
    | 1, _ => exact va_eqt h1
    | 2, _ => exact va_eqt h2
    | 3, _ => exact va_eqt h3
    | j + 4, hj => exact absurd hj (by omega)) hA
  exact ⟨t, va_Zof (hts _ wi_ls1) (hts _ wi_ini) ht hA, hT⟩
set_option maxRecDepth 100000 in
theorem st_2 {args : Array Value} {s : State} {A : Nat → Prop} (hgv : (Jvm.Cond.and given_1 narrow_1).before args s = true) (hts : ∀ w ∈ lw_tbl, w.before args s = true) (hA : ∀ a : Nat, a < s.heap.size → ¬ A a) (xs : Nat → Int32) (L : Nat) : ∃ t : Nat, va_Z "CornWay" "STEP_ROWS" "[I" (.ref t) A s s.heap ∧ va_T .int t 4 (fun j => .int (M0 xs L 1000002 j)) A s s.heap := by
  have hs := flat_of_before _ hgv
  have harr : (Cond.arrayOf (.static "CornWay" "STEP_ROWS" "[I") .int).before args s = true := hs _ (by decide +kernel)
  have hlen : (Cond.eq (.length (.static "CornWay" "STEP_ROWS" "[I")) (.int 4)).before args s = true := hs _ (by decide +kernel)
  have h0 : (Cond.eq (.elem (.static "CornWay" "STEP_ROWS" "[I") (.int 0)) (.int (-1))).before args s = true := hs _ (by decide +kernel)
  have h1 : (Cond.eq (.elem (.static "CornWay" "STEP_ROWS" "[I") (.int 1)) (.int (0))).before args s = true := hs _ (by decide +kernel)
  have h2 : (Cond.eq (.elem (.static "CornWay" "STEP_ROWS" "[I") (.int 2)) (.int (1))).before args s = true := hs _ (by decide +kernel)
  have h3 : (Cond.eq (.elem (.static "CornWay" "STEP_ROWS" "[I") (.int 3)) (.int (0))).before args s = true := hs _ (by decide +kernel)
  obtain ⟨t, ht, hT⟩ := va_Tof (N := 4) (f := fun j => .int (M0 xs L 1000002 j)) (A := A) (by decide) harr (va_eqt hlen) (fun j hj => by
    match j, hj with
    | 0, _ => exact va_eqt h0
    | 1, _ => exact va_eqt h1
    | 2, _ => exact va_eqt h2
    | 3, _ => exact va_eqt h3
    | j + 4, hj => exact absurd hj (by omega)) hA
  exact ⟨t, va_Zof (hts _ wi_ls2) (hts _ wi_ini) ht hA, hT⟩
set_option maxRecDepth 100000 in
theorem st_3 {args : Array Value} {s : State} {A : Nat → Prop} (hgv : (Jvm.Cond.and given_1 narrow_1).before args s = true) (hts : ∀ w ∈ lw_tbl, w.before args s = true) (hA : ∀ a : Nat, a < s.heap.size → ¬ A a) (xs : Nat → Int32) (L : Nat) : ∃ t : Nat, va_Z "CornWay" "STEP_COLUMNS" "[I" (.ref t) A s s.heap ∧ va_T .int t 4 (fun j => .int (M0 xs L 1000003 j)) A s s.heap := by
  have hs := flat_of_before _ hgv
  have harr : (Cond.arrayOf (.static "CornWay" "STEP_COLUMNS" "[I") .int).before args s = true := hs _ (by decide +kernel)
  have hlen : (Cond.eq (.length (.static "CornWay" "STEP_COLUMNS" "[I")) (.int 4)).before args s = true := hs _ (by decide +kernel)
  have h0 : (Cond.eq (.elem (.static "CornWay" "STEP_COLUMNS" "[I") (.int 0)) (.int (0))).before args s = true := hs _ (by decide +kernel)
  have h1 : (Cond.eq (.elem (.static "CornWay" "STEP_COLUMNS" "[I") (.int 1)) (.int (1))).before args s = true := hs _ (by decide +kernel)
  have h2 : (Cond.eq (.elem (.static "CornWay" "STEP_COLUMNS" "[I") (.int 2)) (.int (0))).before args s = true := hs _ (by decide +kernel)
  have h3 : (Cond.eq (.elem (.static "CornWay" "STEP_COLUMNS" "[I") (.int 3)) (.int (-1))).before args s = true := hs _ (by decide +kernel)
  obtain ⟨t, ht, hT⟩ := va_Tof (N := 4) (f := fun j => .int (M0 xs L 1000003 j)) (A := A) (by decide) harr (va_eqt hlen) (fun j hj => by
    match j, hj with
    | 0, _ => exact va_eqt h0
    | 1, _ => exact va_eqt h1
    | 2, _ => exact va_eqt h2
    | 3, _ => exact va_eqt h3
    | j + 4, hj => exact absurd hj (by omega)) hA
  exact ⟨t, va_Zof (hts _ wi_ls3) (hts _ wi_ini) ht hA, hT⟩
theorem arr_of {s : State} {cA : ClassId} {kA : Class} {comp : ClassId} {ty : FieldType} (hp : refKind ty = false ∨ refKind ty = true) (h2 : s.vm.classes[cA]? = some kA) (h3 : kA.kind = .array comp ty) : ArrOfT s cA ty := fun n z => ⟨fun k h => (by cases h), kA, h2, comp, h3⟩
set_option maxHeartbeats 4000000 in
theorem whole_of (hLAW : LAWp) {p : Program} {e : Env} {s : State} {m : MethodId} {below : List Frame} {meth : Method} {c : Code} (l : Launch) {b L : Nat} {xs : Nat → Int32} (hL : L ≤ 1536) (C0 : lw_At p s m meth c b L xs) : W p l e room_1 s m #[Value.ref b] below meth c s.heap [] 0 0 (lw_Z below #[Value.ref b] s) (entryFrame m ([Value.ref b] : List Value).toArray 4) := by
  obtain ⟨hx, hb, hr, hml, hown, hts, hX, hbl, hlocks, hgv⟩ := C0
  have hA : ∀ q : Nat, s.heap.size ≤ q → (fun q : Nat => s.heap.size ≤ q) q := fun _ h => h
  have hnA : ∀ a : Nat, a < s.heap.size → ¬ (fun q : Nat => s.heap.size ≤ q) a := fun a h => Nat.not_le.mpr h
  have htg : ∀ w ∈ GW, w.before #[Value.ref b] s = true := fun w hw => hts w (GW_tbl hw)

  obtain ⟨c0, iS0, hKn0⟩ := u_known (C := RX0) (T := TX0) (N := 3) (n := 3) htg (cw_all 0 _ rfl).1 (hts _ wi_0)
  obtain ⟨c1, iS1, hKn1⟩ := u_known (C := RX1) (T := TX1) (N := 9) (n := 9) htg (cw_all 1 _ rfl).1 (hts _ wi_1)
  obtain ⟨c2, iS2, hKn2⟩ := u_known (C := RX2) (T := TX2) (N := 5) (n := 5) htg (cw_all 2 _ rfl).1 (hts _ wi_2)
  obtain ⟨c3, iS3, hKn3⟩ := u_known (C := RX3) (T := TX3) (N := 9) (n := 9) htg (cw_all 3 _ rfl).1 (hts _ wi_3)
  obtain ⟨c4, iS4, hKn4⟩ := u_known (C := RX4) (T := TX4) (N := 18) (n := 18) htg (cw_all 4 _ rfl).1 (hts _ wi_4)
  obtain ⟨c5, iS5, hKn5⟩ := u_known (C := RX5) (T := TX5) (N := 21) (n := 21) htg (cw_all 5 _ rfl).1 (hts _ wi_5)
  obtain ⟨dC, dI, hKc⟩ : ∃ (dC : Nat → ClassId) (dI : Nat → Nat → Nat), ∀ (k : Nat) (q : vw_C), classes[k]? = some q → u_Kn s q.1 q.2.1 q.2.2 (dC k) (dI k) := by
    refine ⟨fun k => if k = 0 then c0 else if k = 1 then c1 else if k = 2 then c2 else if k = 3 then c3 else if k = 4 then c4 else c5, fun k => if k = 0 then iS0 else if k = 1 then iS1 else if k = 2 then iS2 else if k = 3 then iS3 else if k = 4 then iS4 else iS5, ?_⟩
    intro k q hq
    match k, hq with
    | 0, hq => cases hq; exact hKn0
    | 1, hq => cases hq; exact hKn1
    | 2, hq => cases hq; exact hKn2
    | 3, hq => cases hq; exact hKn3
    | 4, hq => cases hq; exact hKn4
    | 5, hq => cases hq; exact hKn5
    | k + 6, hq => simp [classes] at hq
  obtain ⟨cI, kI, pI, i1, i2, i3⟩ := Cond.arrayClass_spec (hts _ wi_int)
  obtain ⟨cZ, kZ, pZ, z1, z2, z3⟩ := Cond.arrayClass_spec (hts _ wi_bool)
  obtain ⟨pF, cF, kF, f1, -, f3, f4, f5⟩ := Cond.arrayOver_spec (hts _ wi_over)
  have hK : va_K (dC, dI) classes (a_tys (cI, cZ, cF)) s := by
    refine ⟨hKc, fun k q hq => ?_⟩
    match k, hq with
    | 0, hq => cases hq; exact ⟨arr_of (Or.inl rfl) i2 i3, i1⟩
    | 1, hq => cases hq; exact ⟨arr_of (Or.inl rfl) z2 z3, z1⟩
    | 2, hq => cases hq; exact ⟨arr_of (Or.inr rfl) f3 f4, kF, pF, f3, f4, f1, f5⟩
    | k + 3, hq => simp [a_tys] at hq
  obtain ⟨t1, hZ1, hT1⟩ := st_1 hgv hts hnA xs L
  obtain ⟨t2, hZ2, hT2⟩ := st_2 hgv hts hnA xs L
  obtain ⟨t3, hZ3, hT3⟩ := st_3 hgv hts hnA xs L
  have hE : EV dC dI (cI, cZ, cF) (fun r => if r = 0 then b else if r = 1 then t1 else if r = 2 then t2 else t3) (fun r => M0 xs L (1000000 + r)) (fun q : Nat => s.heap.size ≤ q) s := by
    have hcl : (nI L).toNatClampNeg = L := nI_clamp (by omega)
    refine ⟨hK, fun w hw hn => va_Nw.of ?_ (hts w hw), va_AO.of (hts _ wi_over), fun r h1 h2 => ?_, fun r hr => ?_, ?_⟩
    · cases w <;> first | rfl | cases hn
    · match r, h1, h2 with
      | 1, _, _ => exact hZ1
      | 2, _, _ => exact hZ2
      | 3, _, _ => exact hZ3
      | 0, h1, _ => exact absurd h1 (by decide)
      | r + 4, _, h2 => exact absurd h2 (by omega)
    · match r, hr with
      | 0, _ =>
        obtain ⟨scr, g1, g2, g3, g4, g5⟩ := hX
        show va_T .int b (nI L).toNatClampNeg (fun j => .int (xs j)) _ s s.heap
        rw [hcl]
        exact ⟨scr, g1, g2, g3, by omega, by rw [g4], g5, Nat.not_le.mpr hbl⟩
      | 1, _ => exact hT1
      | 2, _ => exact hT2
      | 3, _ => exact hT3
      | r + 4, h2 => exact absurd h2 (by omega)
    · show nI L = nI (nI L).toNatClampNeg
      rw [hcl]
  obtain ⟨n, r, hex, hr1, hr2, hr3⟩ := hLAW xs L hL
  have hent : ent 128 [.ref 1000000] [] (M0 xs L) = (128, 0, a_sl [.ref 1000000] ++ List.replicate (4 - (a_sl [.ref 1000000]).length) none, [], [], M0 xs L) := rfl
  rw [hent] at hex
  obtain ⟨ad, had⟩ : ∃ ad : Nat → Nat, ∀ r, ad (1000000 + r) = if r = 0 then b else if r = 1 then t1 else if r = 2 then t2 else t3 := ⟨fun i => if i = 1000000 then b else if i = 1000001 then t1 else if i = 1000002 then t2 else t3, fun r => by
    match r with
    | 0 => rfl
    | 1 => rfl
    | 2 => rfl
    | r + 3 => show (if 1000000 + (r + 3) = 1000000 then b else if 1000000 + (r + 3) = 1000001 then t1 else if 1000000 + (r + 3) = 1000002 then t2 else t3) = _; rw [if_neg (by omega), if_neg (by omega), if_neg (by omega), if_neg (by omega), if_neg (by omega), if_neg (by omega)]⟩
  have ead : ([.ref 1000000] : List Value).map (cv ad) = [Value.ref b] := by
    show [Value.ref (ad (1000000 + 0))] = _
    rw [had 0]; rfl
  have hLH := LH_entry ad [.ref 1000000] (n := 4) (by decide)
  rw [ead] at hLH
  rw [lg_entry_eq]
  have main := snd (l := l) n 60 _ r hex p e room_1 s m #[Value.ref b] below meth c (fun q : Nat => s.heap.size ≤ q) s.heap [] 0 0 (lw_Z below #[Value.ref b] s) ad _ mt_128 (by rfl) hx hb hml hown htg (fun q => absurd q (by decide)) hA hE ⟨by decide, by decide⟩ ⟨by show 0 + (r.2.1.length - 0) ≤ 600000; omega, by show 0 + (a_szs r.2.1 - 0) ≤ 7302250; omega⟩ ⟨fun k q hq => by simp [wso] at hq, ⟨fun i j p q hq => by simp [wso] at hq, fun k q hq => by simp [wso] at hq⟩, va_S.rf, fun i c hc => by simp at hc, Nat.zero_le _, fun r _ => had r, fun r _ => rfl⟩ hLH (LV_entry (fun v hv => by rw [List.mem_singleton.mp hv]; exact Or.inr ⟨by decide, by decide⟩) _) (fun v hv => absurd hv List.not_mem_nil) ?_
  · exact main
  · intro pc ls' H' locs' ad' hW' hag
    refine ⟨fun v hv hdec => ?_, fun hn => by rw [hr1] at hn; cases hn⟩
    rw [hr1] at hv
    have hv2 : (1 : Int32) = v := Value.int.inj (Option.some.inj hv)
    subst hv2
    refine va_forget (fun q hq => hW'.2.2.1.2.2 q hq) ?_
    refine W.widen (k := 600000) (n := 7302250) (by show 0 + (r.2.1.length - 0) ≤ 600000; omega) (by show 0 + (a_szs r.2.1 - 0) ≤ 7302250; omega) ?_
    exact lw_ret hx hb hr hlocks hdec
end
section
-- RULES of the abstract machine: locals that nobody reads, calls, switches
def a_sL (L' : ALo) (x : AOu) : AOu := match x with
  | .inl s => .inl (s.1, s.2.1, L', s.2.2.2)
  | y => y
def a_lo : Instr → Bool
  | .iload _ | .iload_n _ | .aload_n _ | .lload _ | .lload_n _ | .istore _ | .istore_n _ | .astore_n _ | .iinc _ _ => true
  | _ => false
theorem a_call_sL {k na : Nat} {st : List Value} {L' : ALo} : a_call k na st = (a_call k na st).map (a_sL L') := by
  unfold a_call
  split <;> rfl
theorem a_callv_sL {D : ADd} {k na ci : Nat} {st : List Value} {L' : ALo} : a_callv D k na ci st = (a_callv D k na ci st).map (a_sL L') := by
  unfold a_callv
  split
  · split
    · split
      · exact a_call_sL
      · rfl
    · rfl
  · rfl
theorem a_calls_sL {k na : Nat} {st : List Value} {L' : ALo} : a_calls k na st = (a_calls k na st).map (a_sL L') := by
  unfold a_calls
  split
  · split
    · exact a_call_sL
    · rfl
  · rfl
theorem a_ex_sL {ins : Instr} (hn : a_lo ins = false) {aux : List Nat} {k j : Nat} {L L' : ALo} {st : List Value} {D : ADd} {M : AMm} : a_ex ins aux k j L' st D M = (a_ex ins aux k j L st D M).map (a_sL L') := by
  cases ins with
  | invokevirtual i => exact a_callv_sL
  | invokestatic i =>
    dsimp only [a_ex]
    split
    · exact a_call_sL
    · repeat' (first | rfl | split)
    · repeat' (first | rfl | split)
  | invokespecial i =>
    dsimp only [a_ex]
    split
    · exact a_calls_sL
    · repeat' (first | rfl | split)
  | ifCond c o => cases c <;> dsimp only [a_ex, a_if] <;> repeat' (first | rfl | split)
  | if_icmp c o => cases c <;> dsimp only [a_ex, a_if] <;> repeat' (first | rfl | split)
  | iload _ => cases hn
  | iload_n _ => cases hn
  | aload_n _ => cases hn
  | lload _ => cases hn
  | lload_n _ => cases hn
  | istore _ => cases hn
  | istore_n _ => cases hn
  | astore_n _ => cases hn
  | iinc _ _ => cases hn
  | _ =>
    dsimp only [a_ex, a_b2, a_l2, a_ald, a_ast, a_pf, a_nx]
    repeat' (first | rfl | split)
/-- the second list of locals knows more -/
def a_le : ALo → ALo → Prop
  | [], [] => True
  | o :: r, o' :: r' => (o = o' ∨ (o = none ∧ ∃ v, o' = some v ∧ v.category = 1)) ∧ a_le r r'
  | _, _ => False
theorem a_le_at : ∀ {L L' : ALo}, a_le L L' → ∀ i : Nat, L[i]? = L'[i]? ∨ (L[i]? = some none ∧ ∃ v, L'[i]? = some (some v) ∧ v.category = 1)
  | [], [], _, i => Or.inl rfl
  | o :: r, o' :: r', h, i => by
    cases i with
    | zero =>
      rcases h.1 with q | ⟨q, v, q2, q3⟩
      · left; show some o = some o'; rw [q]
      · right; exact ⟨by show some o = _; rw [q], v, by show some o' = _; rw [q2], q3⟩
    | succ i => exact a_le_at (L := r) (L' := r') h.2 i
  | [], _ :: _, h, _ => h.elim
  | _ :: _, [], h, _ => h.elim
theorem a_le_len : ∀ {L L' : ALo}, a_le L L' → L.length = L'.length
  | [], [], _ => rfl
  | o :: r, o' :: r', h => by show r.length + 1 = r'.length + 1; rw [a_le_len (L := r) (L' := r') h.2]
  | [], _ :: _, h => h.elim
  | _ :: _, [], h => h.elim
theorem a_le_set : ∀ {L L' : ALo} (i : Nat) (v : Value), a_le L L' → a_le (L.set i (some v)) (L'.set i (some v))
  | [], [], _, _, h => h
  | o :: r, o' :: r', i, v, h => by
    cases i with
    | zero => exact ⟨Or.inl rfl, h.2⟩
    | succ i => exact ⟨h.1, a_le_set i v h.2⟩
  | [], _ :: _, _, _, h => h.elim
  | _ :: _, [], _, _, h => h.elim
theorem a_le_ld {L L' : ALo} (h : a_le L L') {i : Nat} {v : Value} (hl : a_ld L i = some v) : a_ld L' i = some v := by
  have h1 := a_ld_at hl
  unfold a_ld
  rcases a_le_at h i with q | ⟨q, -⟩
  · rw [← q, h1]
  · rw [h1] at q; cases q
theorem a_le_st {L L' L1 : ALo} (h : a_le L L') {i : Nat} {v : Value} (hl : a_st L i v = some L1) : ∃ L1', a_st L' i v = some L1' ∧ a_le L1 L1' := by
  obtain ⟨rfl, hi, hc⟩ := a_st_set hl
  refine ⟨L'.set i (some v), ?_, a_le_set i v h⟩
  unfold a_st
  cases i with
  | zero => simp only; rw [if_pos (by rw [← a_le_len h]; exact hi)]
  | succ i =>
    simp only
    rw [if_pos (by rw [← a_le_len h]; exact hi)]
    rcases a_le_at h i with q | ⟨-, w, q, hw⟩
    · rw [← q]
      split
      · rename_i x hx; exact absurd rfl (hc i _ rfl hx)
      · rename_i x hx; exact absurd rfl (hc i _ rfl hx)
      · rfl
    · rw [q]
      cases w <;> first | rfl | (simp [Value.category] at hw)
theorem stp_le {k j : Nat} {L L' : ALo} {st : List Value} {D : ADd} {M : AMm} (h : a_le L L') {x : AOu} (hs : stp (k, j, L, st, D, M) = some x) : (∃ (s1 : ASt) (L1' : ALo), x = .inl s1 ∧ a_le s1.2.2.1 L1' ∧ stp (k, j, L', st, D, M) = some (.inl (s1.1, s1.2.1, L1', s1.2.2.2))) ∨ ((∀ s1, x ≠ .inl s1) ∧ stp (k, j, L', st, D, M) = some x) := by
  obtain ⟨mt, e, hm, he, hex⟩ := stp_at hs
  have hs' : ∀ y, a_ex e.2.1 e.2.2.2.1 k j L' st D M = some y → stp (k, j, L', st, D, M) = some y := by
    intro y hy
    unfold stp
    dsimp only at hm he ⊢
    rw [hm]
    dsimp only
    rw [he]
    exact hy
  dsimp only at hex
  cases hlo : a_lo e.2.1 with
  | false =>
    have hq := a_ex_sL hlo (aux := e.2.2.2.1) (k := k) (j := j) (L := L) (L' := L') (st := st) (D := D) (M := M)
    rw [hex] at hq
    rcases x with s1 | y
    · left
      have hq1 := a_ex_sL hlo (aux := e.2.2.2.1) (k := k) (j := j) (L := L) (L' := L) (st := st) (D := D) (M := M)
      rw [hex] at hq1
      have e1 : s1.2.2.1 = L := by
        have : s1 = (s1.1, s1.2.1, L, s1.2.2.2) := Sum.inl.inj (Option.some.inj hq1)
        rw [this]
      exact ⟨s1, L', rfl, by rw [e1]; exact h, hs' _ hq⟩
    · right
      exact ⟨fun s1 q => (by cases q), hs' _ hq⟩
  | true =>
    left
    generalize e.2.1 = ins at hex hlo hs'
    have ld : ∀ (f : Value → Option AOu) (g : Value → List Value), (∀ v, f v = a_nx k j L (g v) D M ∨ f v = none) → True := fun _ _ _ => trivial
    cases ins with
    | iload i =>
      dsimp only [a_ex] at hex hs'
      split at hex
      · rename_i z hz
        rw [a_le_ld h hz] at hs'
        obtain rfl := Option.some.inj hex
        exact ⟨_, L', rfl, h, hs' _ rfl⟩
      · cases hex
    | iload_n i =>
      dsimp only [a_ex] at hex hs'
      split at hex
      · rename_i z hz
        rw [a_le_ld h hz] at hs'
        obtain rfl := Option.some.inj hex
        exact ⟨_, L', rfl, h, hs' _ rfl⟩
      · cases hex
    | aload_n i =>
      dsimp only [a_ex] at hex hs'
      split at hex
      · rename_i z hz
        rw [a_le_ld h hz] at hs'
        obtain rfl := Option.some.inj hex
        exact ⟨_, L', rfl, h, hs' _ rfl⟩
      · cases hex
    | lload i =>
      dsimp only [a_ex] at hex hs'
      split at hex
      · rename_i z hz
        rw [a_le_ld h hz] at hs'
        obtain rfl := Option.some.inj hex
        exact ⟨_, L', rfl, h, hs' _ rfl⟩
      · cases hex
    | lload_n i =>
      dsimp only [a_ex] at hex hs'
      split at hex
      · rename_i z hz
        rw [a_le_ld h hz] at hs'
        obtain rfl := Option.some.inj hex
        exact ⟨_, L', rfl, h, hs' _ rfl⟩
      · cases hex
    | istore i =>
      dsimp only [a_ex, a_sto] at hex hs'
      split at hex
      · split at hex
        · rename_i L1 hL1
          obtain ⟨L1', h1, h2⟩ := a_le_st h hL1
          simp only [h1] at hs'
          obtain rfl := Option.some.inj hex
          exact ⟨_, L1', rfl, h2, hs' _ rfl⟩
        · cases hex
      · cases hex
    | istore_n i =>
      dsimp only [a_ex, a_sto] at hex hs'
      split at hex
      · split at hex
        · rename_i L1 hL1
          obtain ⟨L1', h1, h2⟩ := a_le_st h hL1
          simp only [h1] at hs'
          obtain rfl := Option.some.inj hex
          exact ⟨_, L1', rfl, h2, hs' _ rfl⟩
        · cases hex
      · cases hex
    | astore_n i =>
      dsimp only [a_ex, a_sto] at hex hs'
      split at hex
      · split at hex
        · rename_i L1 hL1
          obtain ⟨L1', h1, h2⟩ := a_le_st h hL1
          simp only [h1] at hs'
          obtain rfl := Option.some.inj hex
          exact ⟨_, L1', rfl, h2, hs' _ rfl⟩
        · cases hex
      · cases hex
    | iinc i n =>
      dsimp only [a_ex, a_sto] at hex hs'
      split at hex
      · rename_i z hz
        rw [a_le_ld h hz] at hs'
        split at hex
        · rename_i L1 hL1
          obtain ⟨L1', h1, h2⟩ := a_le_st h hL1
          simp only [h1] at hs'
          obtain rfl := Option.some.inj hex
          exact ⟨_, L1', rfl, h2, hs' _ rfl⟩
        · cases hex
      · cases hex
    | _ => cases hlo
theorem ex_le : ∀ (n d k j : Nat) (L L' : ALo) (st : List Value) (D : ADd) (M : AMm) (r : ARs), a_le L L' → ex d n (k, j, L, st, D, M) = some r → ex d n (k, j, L', st, D, M) = some r := by
  intro n
  induction n with
  | zero => intro d k j L L' st D M r _ h; simp [ex] at h
  | succ n ih =>
    intro d k j L L' st D M r hle h
    unfold ex at h ⊢
    cases hs : stp (k, j, L, st, D, M) with
    | none => rw [hs] at h; simp at h
    | some o =>
      rw [hs] at h
      rcases stp_le hle hs with ⟨s1, L1', rfl, h1, h2⟩ | ⟨hn, h2⟩
      · rw [h2]
        exact ih d s1.1 s1.2.1 s1.2.2.1 L1' s1.2.2.2.1 s1.2.2.2.2.1 s1.2.2.2.2.2 r h1 h
      · rw [h2]
        cases o with
        | inl s1 => exact absurd rfl (hn s1)
        | inr o =>
          cases o with
          | inl r' => exact h
          | inr c =>
            obtain ⟨k2, as, rest⟩ := c
            cases d with
            | zero => simp at h
            | succ d' =>
              dsimp only at h ⊢
              cases hc : ex d' n (ent k2 as D M) with
              | none => rw [hc] at h; simp at h
              | some r1 =>
                rw [hc] at h
                exact ih (d' + 1) k (j + 1) L L' (r1.1.toList ++ rest) r1.2.1 r1.2.2 r hle h
theorem T_le {d : Nat} {Q : ARs → Prop} {k j : Nat} {L L' : ALo} {st : List Value} {D : ADd} {M : AMm} (h : a_le L L') (t : T d Q (k, j, L, st, D, M)) : T d Q (k, j, L', st, D, M) := by
  obtain ⟨n, r, h1, h2⟩ := t
  exact ⟨n, r, ex_le n d k j L L' st D M r h h1, h2⟩
/-- a call that answers an int; the shapes behind it are D' -/
def CI (d k : Nat) (as : List Value) (D : ADd) (M : AMm) (D' : ADd) (K : Int32 → AMm → Prop) : Prop := T d (fun r => ∃ v M', r = (some (.int v), D', M') ∧ K v M') (ent k as D M)
/-- a call that answers nothing -/
def CV (d k : Nat) (as : List Value) (D : ADd) (M : AMm) (D' : ADd) (K : AMm → Prop) : Prop := T d (fun r => ∃ M', r = (none, D', M') ∧ K M') (ent k as D M)
theorem CI_mono {d k : Nat} {as : List Value} {D : ADd} {M : AMm} {D' : ADd} {K K' : Int32 → AMm → Prop} (h : CI d k as D M D' K) (hK : ∀ v M', K v M' → K' v M') : CI d k as D M D' K' := T_mono h (Nat.le_refl _) (fun r hr => by obtain ⟨v, M', e, q⟩ := hr; exact ⟨v, M', e, hK v M' q⟩)
theorem CV_mono {d k : Nat} {as : List Value} {D : ADd} {M : AMm} {D' : ADd} {K K' : AMm → Prop} (h : CV d k as D M D' K) (hK : ∀ M', K M' → K' M') : CV d k as D M D' K' := T_mono h (Nat.le_refl _) (fun r hr => by obtain ⟨M', e, q⟩ := hr; exact ⟨M', e, hK M' q⟩)
theorem T_callI {d : Nat} {Q : ARs → Prop} {s : ASt} {k : Nat} {as rest : List Value} {D' : ADd} (h : stp s = some (.inr (.inr (k, as, rest)))) (hc : CI d k as s.2.2.2.2.1 s.2.2.2.2.2 D' (fun v M' => T (d + 1) Q (s.1, s.2.1 + 1, s.2.2.1, .int v :: rest, D', M'))) : T (d + 1) Q s := by
  refine T_call h (T_mono hc (Nat.le_refl _) (fun r hr => ?_))
  obtain ⟨v, M', rfl, q⟩ := hr
  exact q
theorem T_callV {d : Nat} {Q : ARs → Prop} {s : ASt} {k : Nat} {as rest : List Value} {D' : ADd} (h : stp s = some (.inr (.inr (k, as, rest)))) (hc : CV d k as s.2.2.2.2.1 s.2.2.2.2.2 D' (fun M' => T (d + 1) Q (s.1, s.2.1 + 1, s.2.2.1, rest, D', M'))) : T (d + 1) Q s := by
  refine T_call h (T_mono hc (Nat.le_refl _) (fun r hr => ?_))
  obtain ⟨M', rfl, q⟩ := hr
  exact q
theorem T_ts {d : Nat} {Q : ARs → Prop} {s : ASt} {x : Int32} {aux : List Nat} {k : Nat} {L : ALo} {st : List Value} {D : ADd} {M : AMm} (h : stp s = some (.inl (k, a_tsw x aux, L, st, D, M))) (i tgt : Nat) (hx : x = nI i) (ht : a_tsw (nI i) aux = tgt) (t : T d Q (k, tgt, L, st, D, M)) : T d Q s := by
  subst hx
  rw [ht] at h
  exact T_stp h t
theorem T_td {d : Nat} {Q : ARs → Prop} {s : ASt} {x : Int32} {aux : List Nat} {k : Nat} {L : ALo} {st : List Value} {D : ADd} {M : AMm} (h : stp s = some (.inl (k, a_tsw x aux, L, st, D, M))) (n : Nat) (hn : aux.length = n + 1) (hn2 : n < 1000) (hx : ∀ i, i < n → ¬ x = nI i) (t : T d Q (k, a_hd aux, L, st, D, M)) : T d Q s := by
  have e : a_tsw x aux = a_hd aux := by
    unfold a_tsw
    by_cases hc : x.toInt < 0 ∨ (aux.length : Int) - 2 < x.toInt
    · rw [if_pos hc]
    · exfalso
      have h0 : ¬ x < 0 := by
        intro q
        exact hc (Or.inl (by have := Int32.lt_iff_toInt_lt.mp q; simpa using this))
      obtain ⟨i, hi, rfl⟩ := nI_of h0
      have := nI_toInt hi
      exact hx i (by omega) rfl
  rw [e] at h
  exact T_stp h t
end
