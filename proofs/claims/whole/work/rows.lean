section
-- ===== PART A: goes FIRST, ahead of the names: the tables' words, and 'selects' of the private methods out of them =====
/-- a private method of a class that the tables say can be made, by its rows of tables_1 -/
def lw_okq (q : MethodName × Nat) : Prop := (q.1.cls ≠ "java/lang/invoke/MethodHandle" ∧ q.1.cls ≠ "java/lang/invoke/VarHandle") ∧ Cond.instantiable q.1.cls q.2 ∈ tables_1 ∧ Cond.privateMethod q.1 ∈ tables_1 ∧ Cond.instanceMethod q.1 ∈ tables_1
theorem lw_p0 : lw_okq (⟨"DozingDevices", "areDevices", "(I)Z"⟩, 14) := ⟨⟨by decide +kernel, by decide +kernel⟩, List.mem_of_getElem? (i := 14) (by decide +kernel), List.mem_of_getElem? (i := 95) (by decide +kernel), List.mem_of_getElem? (i := 96) (by decide +kernel)⟩
theorem lw_p1 : lw_okq (⟨"DozingDevices", "withAncestors", "(I)I"⟩, 14) := ⟨⟨by decide +kernel, by decide +kernel⟩, List.mem_of_getElem? (i := 14) (by decide +kernel), List.mem_of_getElem? (i := 108) (by decide +kernel), List.mem_of_getElem? (i := 109) (by decide +kernel)⟩
theorem lw_p2 : lw_okq (⟨"DozingDevices", "depthUnder", "(I)I"⟩, 14) := ⟨⟨by decide +kernel, by decide +kernel⟩, List.mem_of_getElem? (i := 14) (by decide +kernel), List.mem_of_getElem? (i := 132) (by decide +kernel), List.mem_of_getElem? (i := 133) (by decide +kernel)⟩
theorem lw_p3 : lw_okq (⟨"java/util/ArrayList", "add", "(Ljava/lang/Object;[Ljava/lang/Object;I)V"⟩, 3) := ⟨⟨by decide +kernel, by decide +kernel⟩, List.mem_of_getElem? (i := 22) (by decide +kernel), List.mem_of_getElem? (i := 200) (by decide +kernel), List.mem_of_getElem? (i := 201) (by decide +kernel)⟩
theorem lw_p4 : lw_okq (⟨"java/util/ArrayList", "grow", "()[Ljava/lang/Object;"⟩, 3) := ⟨⟨by decide +kernel, by decide +kernel⟩, List.mem_of_getElem? (i := 22) (by decide +kernel), List.mem_of_getElem? (i := 204) (by decide +kernel), List.mem_of_getElem? (i := 205) (by decide +kernel)⟩
theorem lw_p5 : lw_okq (⟨"java/util/ArrayList", "grow", "(I)[Ljava/lang/Object;"⟩, 3) := ⟨⟨by decide +kernel, by decide +kernel⟩, List.mem_of_getElem? (i := 22) (by decide +kernel), List.mem_of_getElem? (i := 208) (by decide +kernel), List.mem_of_getElem? (i := 209) (by decide +kernel)⟩
theorem lw_p6 : lw_okq (⟨"DozingDevices", "placeFor", "(I)I"⟩, 14) := ⟨⟨by decide +kernel, by decide +kernel⟩, List.mem_of_getElem? (i := 14) (by decide +kernel), List.mem_of_getElem? (i := 245) (by decide +kernel), List.mem_of_getElem? (i := 246) (by decide +kernel)⟩
theorem lw_p7 : lw_okq (⟨"java/util/ArrayList", "rangeCheckForAdd", "(I)V"⟩, 3) := ⟨⟨by decide +kernel, by decide +kernel⟩, List.mem_of_getElem? (i := 22) (by decide +kernel), List.mem_of_getElem? (i := 253) (by decide +kernel), List.mem_of_getElem? (i := 254) (by decide +kernel)⟩
theorem lw_p8 : lw_okq (⟨"DozingDevices", "rouse", "(I)V"⟩, 14) := ⟨⟨by decide +kernel, by decide +kernel⟩, List.mem_of_getElem? (i := 14) (by decide +kernel), List.mem_of_getElem? (i := 258) (by decide +kernel), List.mem_of_getElem? (i := 259) (by decide +kernel)⟩
theorem lw_p9 : lw_okq (⟨"DozingDevices", "turn", "(LDozingDevices$Device;I)V"⟩, 14) := ⟨⟨by decide +kernel, by decide +kernel⟩, List.mem_of_getElem? (i := 14) (by decide +kernel), List.mem_of_getElem? (i := 262) (by decide +kernel), List.mem_of_getElem? (i := 263) (by decide +kernel)⟩
theorem lw_p10 : lw_okq (⟨"DozingDevices", "find", "(I)LDozingDevices$Device;"⟩, 14) := ⟨⟨by decide +kernel, by decide +kernel⟩, List.mem_of_getElem? (i := 14) (by decide +kernel), List.mem_of_getElem? (i := 270) (by decide +kernel), List.mem_of_getElem? (i := 271) (by decide +kernel)⟩
theorem lw_p11 : lw_okq (⟨"DozingDevices", "comeBack", "(I)V"⟩, 14) := ⟨⟨by decide +kernel, by decide +kernel⟩, List.mem_of_getElem? (i := 14) (by decide +kernel), List.mem_of_getElem? (i := 290) (by decide +kernel), List.mem_of_getElem? (i := 291) (by decide +kernel)⟩
theorem lw_p12 : lw_okq (⟨"DozingDevices", "comeFurtherBack", "()V"⟩, 14) := ⟨⟨by decide +kernel, by decide +kernel⟩, List.mem_of_getElem? (i := 14) (by decide +kernel), List.mem_of_getElem? (i := 294) (by decide +kernel), List.mem_of_getElem? (i := 295) (by decide +kernel)⟩
theorem lw_p13 : lw_okq (⟨"DozingDevices", "makeDue", "(LDozingDevices$Device;I)V"⟩, 14) := ⟨⟨by decide +kernel, by decide +kernel⟩, List.mem_of_getElem? (i := 14) (by decide +kernel), List.mem_of_getElem? (i := 298) (by decide +kernel), List.mem_of_getElem? (i := 299) (by decide +kernel)⟩
theorem lw_p14 : lw_okq (⟨"DozingDevices", "endDue", "()V"⟩, 14) := ⟨⟨by decide +kernel, by decide +kernel⟩, List.mem_of_getElem? (i := 14) (by decide +kernel), List.mem_of_getElem? (i := 302) (by decide +kernel), List.mem_of_getElem? (i := 303) (by decide +kernel)⟩
theorem lw_p15 : lw_okq (⟨"DozingDevices", "giveUp", "(ILDozingDevices$Device;)V"⟩, 14) := ⟨⟨by decide +kernel, by decide +kernel⟩, List.mem_of_getElem? (i := 14) (by decide +kernel), List.mem_of_getElem? (i := 306) (by decide +kernel), List.mem_of_getElem? (i := 307) (by decide +kernel)⟩
def lw_privs_1 : List (MethodName × Nat) := [(⟨"DozingDevices", "areDevices", "(I)Z"⟩, 14), (⟨"DozingDevices", "withAncestors", "(I)I"⟩, 14), (⟨"DozingDevices", "depthUnder", "(I)I"⟩, 14), (⟨"java/util/ArrayList", "add", "(Ljava/lang/Object;[Ljava/lang/Object;I)V"⟩, 3), (⟨"java/util/ArrayList", "grow", "()[Ljava/lang/Object;"⟩, 3), (⟨"java/util/ArrayList", "grow", "(I)[Ljava/lang/Object;"⟩, 3), (⟨"DozingDevices", "placeFor", "(I)I"⟩, 14), (⟨"java/util/ArrayList", "rangeCheckForAdd", "(I)V"⟩, 3), (⟨"DozingDevices", "rouse", "(I)V"⟩, 14), (⟨"DozingDevices", "turn", "(LDozingDevices$Device;I)V"⟩, 14), (⟨"DozingDevices", "find", "(I)LDozingDevices$Device;"⟩, 14), (⟨"DozingDevices", "comeBack", "(I)V"⟩, 14), (⟨"DozingDevices", "comeFurtherBack", "()V"⟩, 14), (⟨"DozingDevices", "makeDue", "(LDozingDevices$Device;I)V"⟩, 14), (⟨"DozingDevices", "endDue", "()V"⟩, 14), (⟨"DozingDevices", "giveUp", "(ILDozingDevices$Device;)V"⟩, 14)]
theorem lw_r1 : ∀ q ∈ lw_privs_1, lw_okq q := List.forall_mem_cons.mpr ⟨lw_p0, List.forall_mem_cons.mpr ⟨lw_p1, List.forall_mem_cons.mpr ⟨lw_p2, List.forall_mem_cons.mpr ⟨lw_p3, List.forall_mem_cons.mpr ⟨lw_p4, List.forall_mem_cons.mpr ⟨lw_p5, List.forall_mem_cons.mpr ⟨lw_p6, List.forall_mem_cons.mpr ⟨lw_p7, List.forall_mem_cons.mpr ⟨lw_p8, List.forall_mem_cons.mpr ⟨lw_p9, List.forall_mem_cons.mpr ⟨lw_p10, List.forall_mem_cons.mpr ⟨lw_p11, List.forall_mem_cons.mpr ⟨lw_p12, List.forall_mem_cons.mpr ⟨lw_p13, List.forall_mem_cons.mpr ⟨lw_p14, List.forall_mem_cons.mpr ⟨lw_p15, fun _ h => absurd h List.not_mem_nil⟩⟩⟩⟩⟩⟩⟩⟩⟩⟩⟩⟩⟩⟩⟩⟩
theorem lw_p16 : lw_okq (⟨"DozingDevices", "sinkFurther", "()V"⟩, 14) := ⟨⟨by decide +kernel, by decide +kernel⟩, List.mem_of_getElem? (i := 14) (by decide +kernel), List.mem_of_getElem? (i := 314) (by decide +kernel), List.mem_of_getElem? (i := 315) (by decide +kernel)⟩
theorem lw_p17 : lw_okq (⟨"DozingDevices", "passOneTick", "()V"⟩, 14) := ⟨⟨by decide +kernel, by decide +kernel⟩, List.mem_of_getElem? (i := 14) (by decide +kernel), List.mem_of_getElem? (i := 330) (by decide +kernel), List.mem_of_getElem? (i := 331) (by decide +kernel)⟩
theorem lw_p18 : lw_okq (⟨"DozingDevices", "watchBites", "()Z"⟩, 14) := ⟨⟨by decide +kernel, by decide +kernel⟩, List.mem_of_getElem? (i := 14) (by decide +kernel), List.mem_of_getElem? (i := 334) (by decide +kernel), List.mem_of_getElem? (i := 335) (by decide +kernel)⟩
theorem lw_p19 : lw_okq (⟨"DozingDevices", "resetAll", "()V"⟩, 14) := ⟨⟨by decide +kernel, by decide +kernel⟩, List.mem_of_getElem? (i := 14) (by decide +kernel), List.mem_of_getElem? (i := 338) (by decide +kernel), List.mem_of_getElem? (i := 339) (by decide +kernel)⟩
theorem lw_p20 : lw_okq (⟨"DozingDevices", "idleOneTick", "()V"⟩, 14) := ⟨⟨by decide +kernel, by decide +kernel⟩, List.mem_of_getElem? (i := 14) (by decide +kernel), List.mem_of_getElem? (i := 342) (by decide +kernel), List.mem_of_getElem? (i := 343) (by decide +kernel)⟩
theorem lw_p21 : lw_okq (⟨"DozingDevices", "parentsOfThoseOn", "()I"⟩, 14) := ⟨⟨by decide +kernel, by decide +kernel⟩, List.mem_of_getElem? (i := 14) (by decide +kernel), List.mem_of_getElem? (i := 346) (by decide +kernel), List.mem_of_getElem? (i := 347) (by decide +kernel)⟩
theorem lw_p22 : lw_okq (⟨"DozingDevices", "bringNearer", "(LDozingDevices$Device;)V"⟩, 14) := ⟨⟨by decide +kernel, by decide +kernel⟩, List.mem_of_getElem? (i := 14) (by decide +kernel), List.mem_of_getElem? (i := 350) (by decide +kernel), List.mem_of_getElem? (i := 351) (by decide +kernel)⟩
theorem lw_p23 : lw_okq (⟨"DozingDevicesModel", "line", "(I)I"⟩, 24) := ⟨⟨by decide +kernel, by decide +kernel⟩, List.mem_of_getElem? (i := 390) (by decide +kernel), List.mem_of_getElem? (i := 475) (by decide +kernel), List.mem_of_getElem? (i := 476) (by decide +kernel)⟩
theorem lw_p24 : lw_okq (⟨"DozingDevicesModel", "rouse", "(I)I"⟩, 24) := ⟨⟨by decide +kernel, by decide +kernel⟩, List.mem_of_getElem? (i := 390) (by decide +kernel), List.mem_of_getElem? (i := 479) (by decide +kernel), List.mem_of_getElem? (i := 480) (by decide +kernel)⟩
theorem lw_p25 : lw_okq (⟨"DozingDevicesModel", "none", "(I)Z"⟩, 24) := ⟨⟨by decide +kernel, by decide +kernel⟩, List.mem_of_getElem? (i := 390) (by decide +kernel), List.mem_of_getElem? (i := 487) (by decide +kernel), List.mem_of_getElem? (i := 488) (by decide +kernel)⟩
theorem lw_p26 : lw_okq (⟨"DozingDevicesModel", "follow", "()V"⟩, 24) := ⟨⟨by decide +kernel, by decide +kernel⟩, List.mem_of_getElem? (i := 390) (by decide +kernel), List.mem_of_getElem? (i := 507) (by decide +kernel), List.mem_of_getElem? (i := 508) (by decide +kernel)⟩
theorem lw_p27 : lw_okq (⟨"DozingDevicesModel", "sink", "()V"⟩, 24) := ⟨⟨by decide +kernel, by decide +kernel⟩, List.mem_of_getElem? (i := 390) (by decide +kernel), List.mem_of_getElem? (i := 511) (by decide +kernel), List.mem_of_getElem? (i := 512) (by decide +kernel)⟩
theorem lw_p28 : lw_okq (⟨"DozingDevicesModel", "lastAwake", "()I"⟩, 24) := ⟨⟨by decide +kernel, by decide +kernel⟩, List.mem_of_getElem? (i := 390) (by decide +kernel), List.mem_of_getElem? (i := 515) (by decide +kernel), List.mem_of_getElem? (i := 516) (by decide +kernel)⟩
theorem lw_p29 : lw_okq (⟨"DozingDevicesModel", "earlier", "(II)Z"⟩, 24) := ⟨⟨by decide +kernel, by decide +kernel⟩, List.mem_of_getElem? (i := 390) (by decide +kernel), List.mem_of_getElem? (i := 519) (by decide +kernel), List.mem_of_getElem? (i := 520) (by decide +kernel)⟩
theorem lw_p30 : lw_okq (⟨"DozingDevicesModel", "depth", "(I)I"⟩, 24) := ⟨⟨by decide +kernel, by decide +kernel⟩, List.mem_of_getElem? (i := 390) (by decide +kernel), List.mem_of_getElem? (i := 523) (by decide +kernel), List.mem_of_getElem? (i := 524) (by decide +kernel)⟩
theorem lw_p31 : lw_okq (⟨"DozingDevicesModel", "become", "(II)V"⟩, 24) := ⟨⟨by decide +kernel, by decide +kernel⟩, List.mem_of_getElem? (i := 390) (by decide +kernel), List.mem_of_getElem? (i := 527) (by decide +kernel), List.mem_of_getElem? (i := 528) (by decide +kernel)⟩
def lw_privs_2 : List (MethodName × Nat) := [(⟨"DozingDevices", "sinkFurther", "()V"⟩, 14), (⟨"DozingDevices", "passOneTick", "()V"⟩, 14), (⟨"DozingDevices", "watchBites", "()Z"⟩, 14), (⟨"DozingDevices", "resetAll", "()V"⟩, 14), (⟨"DozingDevices", "idleOneTick", "()V"⟩, 14), (⟨"DozingDevices", "parentsOfThoseOn", "()I"⟩, 14), (⟨"DozingDevices", "bringNearer", "(LDozingDevices$Device;)V"⟩, 14), (⟨"DozingDevicesModel", "line", "(I)I"⟩, 24), (⟨"DozingDevicesModel", "rouse", "(I)I"⟩, 24), (⟨"DozingDevicesModel", "none", "(I)Z"⟩, 24), (⟨"DozingDevicesModel", "follow", "()V"⟩, 24), (⟨"DozingDevicesModel", "sink", "()V"⟩, 24), (⟨"DozingDevicesModel", "lastAwake", "()I"⟩, 24), (⟨"DozingDevicesModel", "earlier", "(II)Z"⟩, 24), (⟨"DozingDevicesModel", "depth", "(I)I"⟩, 24), (⟨"DozingDevicesModel", "become", "(II)V"⟩, 24)]
theorem lw_r2 : ∀ q ∈ lw_privs_2, lw_okq q := List.forall_mem_cons.mpr ⟨lw_p16, List.forall_mem_cons.mpr ⟨lw_p17, List.forall_mem_cons.mpr ⟨lw_p18, List.forall_mem_cons.mpr ⟨lw_p19, List.forall_mem_cons.mpr ⟨lw_p20, List.forall_mem_cons.mpr ⟨lw_p21, List.forall_mem_cons.mpr ⟨lw_p22, List.forall_mem_cons.mpr ⟨lw_p23, List.forall_mem_cons.mpr ⟨lw_p24, List.forall_mem_cons.mpr ⟨lw_p25, List.forall_mem_cons.mpr ⟨lw_p26, List.forall_mem_cons.mpr ⟨lw_p27, List.forall_mem_cons.mpr ⟨lw_p28, List.forall_mem_cons.mpr ⟨lw_p29, List.forall_mem_cons.mpr ⟨lw_p30, List.forall_mem_cons.mpr ⟨lw_p31, fun _ h => absurd h List.not_mem_nil⟩⟩⟩⟩⟩⟩⟩⟩⟩⟩⟩⟩⟩⟩⟩⟩
theorem lw_p32 : lw_okq (⟨"DozingDevicesModel", "rise", "()V"⟩, 24) := ⟨⟨by decide +kernel, by decide +kernel⟩, List.mem_of_getElem? (i := 390) (by decide +kernel), List.mem_of_getElem? (i := 531) (by decide +kernel), List.mem_of_getElem? (i := 532) (by decide +kernel)⟩
theorem lw_p33 : lw_okq (⟨"DozingDevicesModel", "firstOff", "()I"⟩, 24) := ⟨⟨by decide +kernel, by decide +kernel⟩, List.mem_of_getElem? (i := 390) (by decide +kernel), List.mem_of_getElem? (i := 535) (by decide +kernel), List.mem_of_getElem? (i := 536) (by decide +kernel)⟩
theorem lw_p34 : lw_okq (⟨"DozingDevicesModel", "giveUp", "(II)V"⟩, 24) := ⟨⟨by decide +kernel, by decide +kernel⟩, List.mem_of_getElem? (i := 390) (by decide +kernel), List.mem_of_getElem? (i := 543) (by decide +kernel), List.mem_of_getElem? (i := 544) (by decide +kernel)⟩
theorem lw_p35 : lw_okq (⟨"DozingDevicesModel", "once", "()V"⟩, 24) := ⟨⟨by decide +kernel, by decide +kernel⟩, List.mem_of_getElem? (i := 390) (by decide +kernel), List.mem_of_getElem? (i := 559) (by decide +kernel), List.mem_of_getElem? (i := 560) (by decide +kernel)⟩
theorem lw_p36 : lw_okq (⟨"DozingDevicesModel", "reset", "()V"⟩, 24) := ⟨⟨by decide +kernel, by decide +kernel⟩, List.mem_of_getElem? (i := 390) (by decide +kernel), List.mem_of_getElem? (i := 563) (by decide +kernel), List.mem_of_getElem? (i := 564) (by decide +kernel)⟩
theorem lw_p37 : lw_okq (⟨"DozingDevicesModel", "doze", "()V"⟩, 24) := ⟨⟨by decide +kernel, by decide +kernel⟩, List.mem_of_getElem? (i := 390) (by decide +kernel), List.mem_of_getElem? (i := 567) (by decide +kernel), List.mem_of_getElem? (i := 568) (by decide +kernel)⟩
theorem lw_p38 : lw_okq (⟨"DozingDevicesModel", "childOn", "(I)Z"⟩, 24) := ⟨⟨by decide +kernel, by decide +kernel⟩, List.mem_of_getElem? (i := 390) (by decide +kernel), List.mem_of_getElem? (i := 571) (by decide +kernel), List.mem_of_getElem? (i := 572) (by decide +kernel)⟩
theorem lw_p39 : lw_okq (⟨"DozingDevicesModel", "work", "()V"⟩, 24) := ⟨⟨by decide +kernel, by decide +kernel⟩, List.mem_of_getElem? (i := 390) (by decide +kernel), List.mem_of_getElem? (i := 575) (by decide +kernel), List.mem_of_getElem? (i := 576) (by decide +kernel)⟩
def lw_privs_3 : List (MethodName × Nat) := [(⟨"DozingDevicesModel", "rise", "()V"⟩, 24), (⟨"DozingDevicesModel", "firstOff", "()I"⟩, 24), (⟨"DozingDevicesModel", "giveUp", "(II)V"⟩, 24), (⟨"DozingDevicesModel", "once", "()V"⟩, 24), (⟨"DozingDevicesModel", "reset", "()V"⟩, 24), (⟨"DozingDevicesModel", "doze", "()V"⟩, 24), (⟨"DozingDevicesModel", "childOn", "(I)Z"⟩, 24), (⟨"DozingDevicesModel", "work", "()V"⟩, 24)]
theorem lw_r3 : ∀ q ∈ lw_privs_3, lw_okq q := List.forall_mem_cons.mpr ⟨lw_p32, List.forall_mem_cons.mpr ⟨lw_p33, List.forall_mem_cons.mpr ⟨lw_p34, List.forall_mem_cons.mpr ⟨lw_p35, List.forall_mem_cons.mpr ⟨lw_p36, List.forall_mem_cons.mpr ⟨lw_p37, List.forall_mem_cons.mpr ⟨lw_p38, List.forall_mem_cons.mpr ⟨lw_p39, fun _ h => absurd h List.not_mem_nil⟩⟩⟩⟩⟩⟩⟩⟩
def lw_privs : List (MethodName × Nat) := lw_privs_1 ++ (lw_privs_2 ++ (lw_privs_3))
def lw_tbl : List Cond := k2_sels lw_privs ++ tables_1
theorem lw_privs_ok : ∀ q ∈ lw_privs, lw_okq q := by
  show ∀ q ∈ lw_privs_1 ++ (lw_privs_2 ++ (lw_privs_3)), lw_okq q
  exact List.forall_mem_append.mpr ⟨lw_r1, List.forall_mem_append.mpr ⟨lw_r2, lw_r3⟩⟩
end
section
/-! ===== BEGIN words of one list among another's, by their places ===== -/
theorem goodIn_r {big : List Cond} (ws : List Cond) (ps : List Nat) (hp : ws = ps.filterMap (fun i => big[i]?)) (h : ws.all goodWord = true) : GoodIn big ws := by
  intro w hw
  have h1 := List.all_eq_true.mp h w hw
  rw [hp] at hw
  obtain ⟨i, -, hi⟩ := List.mem_filterMap.mp hw
  have hm : w ∈ big := by first | exact List.mem_of_getElem? hi | exact List.getElem?_mem hi
  exact ⟨hm, good_of_word h1⟩
theorem goodIn_app {big a b : List Cond} (ha : GoodIn big a) (hb : GoodIn big b) : GoodIn big (a ++ b) := fun w h => (List.mem_append.mp h).elim (ha w) (hb w)
theorem goodIn_ca {big a b : List Cond} {c : Cond} (ha : GoodIn big (c :: a)) (hb : GoodIn big b) : GoodIn big (c :: (a ++ b)) := fun w h => (List.mem_cons.mp h).elim (fun e => ha w (List.mem_cons.mpr (Or.inl e))) (fun h => (List.mem_append.mp h).elim (fun h => ha w (List.mem_cons.mpr (Or.inr h))) (hb w))
theorem goodIn_sub {big ws : List Cond} (hm : ∀ w ∈ ws, w ∈ big) (h : ws.all goodWord = true) : GoodIn big ws := fun w hw => ⟨hm w hw, good_of_word (List.all_eq_true.mp h w hw)⟩
/-! ===== END ===== -/

/-! ===== BEGIN printed: names, fields, word lists, decode rows ===== -/
def RX0 : String := "DozingDevices$Device"
def TX0 : u_T := fun k => match k with
  | 0 => ("DozingDevices$Device", "number", "I", true)
  | 1 => ("DozingDevices$Device", "parents", "I", true)
  | 2 => ("DozingDevices$Device", "ancestors", "I", true)
  | 3 => ("DozingDevices$Device", "depth", "I", true)
  | 4 => ("DozingDevices$Device", "down", "I", true)
  | 5 => ("DozingDevices$Device", "up", "I", true)
  | 6 => ("DozingDevices$Device", "delay", "I", true)
  | 7 => ("DozingDevices$Device", "state", "I", false)
  | 8 => ("DozingDevices$Device", "inMind", "I", false)
  | 9 => ("DozingDevices$Device", "uses", "I", false)
  | 10 => ("DozingDevices$Device", "idle", "I", false)
  | 11 => ("DozingDevices$Device", "refusals", "I", false)
  | _ => ("DozingDevices$Device", "isWaker", "Z", false)
def tyX0 : Nat → FieldType := fun k => match k with
  | 0 => .int
  | 1 => .int
  | 2 => .int
  | 3 => .int
  | 4 => .int
  | 5 => .int
  | 6 => .int
  | 7 => .int
  | 8 => .int
  | 9 => .int
  | 10 => .int
  | 11 => .int
  | _ => .boolean
abbrev wsX00 : List Cond := u_ws RX0 TX0 13
theorem nmX0 : ∀ a, a < 13 → ∀ b, b < 13 → a ≠ b → (TX0 a).2.1 ≠ (TX0 b).2.1 := by decide +kernel
theorem tyX0_ok : ∀ k, k < 13 → parseFieldDescriptor (TX0 k).2.2.1 = some (tyX0 k) := by decide +kernel
abbrev cX0_init : ByteArray := prog_2_method_1_code
def yX0_init : MethodName := ⟨RX0, "<init>", "(IIIIIII)V"⟩
def RX1 : String := "DozingDevices"
def TX1 : u_T := fun k => match k with
  | 0 => ("DozingDevices", "devices", "Ljava/util/ArrayList;", true)
  | 1 => ("DozingDevices", "order", "Ljava/util/ArrayList;", true)
  | 2 => ("DozingDevices", "phase", "I", false)
  | 3 => ("DozingDevices", "dueDevice", "LDozingDevices$Device;", false)
  | 4 => ("DozingDevices", "ticksLeft", "I", false)
  | 5 => ("DozingDevices", "time", "I", false)
  | 6 => ("DozingDevices", "watchLimit", "I", false)
  | 7 => ("DozingDevices", "sinceKick", "I", false)
  | 8 => ("DozingDevices", "resets", "I", false)
  | 9 => ("DozingDevices", "timesAsleep", "I", false)
  | 10 => ("DozingDevices", "givenUp", "I", false)
  | 11 => ("DozingDevices", "reason", "I", false)
  | 12 => ("DozingDevices", "namedDevice", "I", false)
  | _ => ("DozingDevices", "turns", "I", false)
def tyX1 : Nat → FieldType := fun k => match k with
  | 0 => .object "java/util/ArrayList"
  | 1 => .object "java/util/ArrayList"
  | 2 => .int
  | 3 => .object "DozingDevices$Device"
  | 4 => .int
  | 5 => .int
  | 6 => .int
  | 7 => .int
  | 8 => .int
  | 9 => .int
  | 10 => .int
  | 11 => .int
  | 12 => .int
  | _ => .int
abbrev wsX10 : List Cond := u_ws RX1 TX1 14
theorem nmX1 : ∀ a, a < 14 → ∀ b, b < 14 → a ≠ b → (TX1 a).2.1 ≠ (TX1 b).2.1 := by decide +kernel
theorem tyX1_ok : ∀ k, k < 14 → parseFieldDescriptor (TX1 k).2.2.1 = some (tyX1 k) := by decide +kernel
abbrev cX1_init : ByteArray := prog_1_method_1_code
def yX1_init : MethodName := ⟨RX1, "<init>", "()V"⟩
abbrev cX1_device : ByteArray := prog_1_method_2_code
def yX1_device : MethodName := ⟨RX1, "device", "(IIII)I"⟩
abbrev cX1_use : ByteArray := prog_1_method_3_code
def yX1_use : MethodName := ⟨RX1, "use", "(I)I"⟩
abbrev cX1_release : ByteArray := prog_1_method_4_code
def yX1_release : MethodName := ⟨RX1, "release", "(I)I"⟩
abbrev cX1_waker : ByteArray := prog_1_method_5_code
def yX1_waker : MethodName := ⟨RX1, "waker", "(IZ)Z"⟩
abbrev cX1_refuse : ByteArray := prog_1_method_6_code
def yX1_refuse : MethodName := ⟨RX1, "refuse", "(II)Z"⟩
abbrev cX1_signal : ByteArray := prog_1_method_7_code
def yX1_signal : MethodName := ⟨RX1, "signal", "(I)I"⟩
abbrev cX1_sleep : ByteArray := prog_1_method_8_code
def yX1_sleep : MethodName := ⟨RX1, "sleep", "()I"⟩
abbrev cX1_watch : ByteArray := prog_1_method_9_code
def yX1_watch : MethodName := ⟨RX1, "watch", "(I)Z"⟩
abbrev cX1_kick : ByteArray := prog_1_method_10_code
def yX1_kick : MethodName := ⟨RX1, "kick", "()I"⟩
abbrev cX1_tick : ByteArray := prog_1_method_11_code
def yX1_tick : MethodName := ⟨RX1, "tick", "(I)I"⟩
abbrev cX1_phase : ByteArray := prog_1_method_12_code
def yX1_phase : MethodName := ⟨RX1, "phase", "()I"⟩
abbrev cX1_state : ByteArray := prog_1_method_13_code
def yX1_state : MethodName := ⟨RX1, "state", "(I)I"⟩
abbrev cX1_uses : ByteArray := prog_1_method_14_code
def yX1_uses : MethodName := ⟨RX1, "uses", "(I)I"⟩
abbrev cX1_idle : ByteArray := prog_1_method_15_code
def yX1_idle : MethodName := ⟨RX1, "idle", "(I)I"⟩
abbrev cX1_refusals : ByteArray := prog_1_method_16_code
def yX1_refusals : MethodName := ⟨RX1, "refusals", "(I)I"⟩
abbrev cX1_due : ByteArray := prog_1_method_17_code
def yX1_due : MethodName := ⟨RX1, "due", "()I"⟩
abbrev cX1_left : ByteArray := prog_1_method_18_code
def yX1_left : MethodName := ⟨RX1, "left", "()I"⟩
abbrev cX1_named : ByteArray := prog_1_method_19_code
def yX1_named : MethodName := ⟨RX1, "named", "()I"⟩
abbrev cX1_figure : ByteArray := prog_1_method_20_code
def yX1_figure : MethodName := ⟨RX1, "figure", "(I)I"⟩
abbrev cX1_isWithin : ByteArray := prog_1_method_21_code
def yX1_isWithin : MethodName := ⟨RX1, "isWithin", "(III)Z"⟩
abbrev cX1_bit : ByteArray := prog_1_method_22_code
def yX1_bit : MethodName := ⟨RX1, "bit", "(LDozingDevices$Device;)I"⟩
abbrev cX1_holds : ByteArray := prog_1_method_23_code
def yX1_holds : MethodName := ⟨RX1, "holds", "(ILDozingDevices$Device;)Z"⟩
abbrev cX1_find : ByteArray := prog_1_method_24_code
def yX1_find : MethodName := ⟨RX1, "find", "(I)LDozingDevices$Device;"⟩
abbrev cX1_areDevices : ByteArray := prog_1_method_25_code
def yX1_areDevices : MethodName := ⟨RX1, "areDevices", "(I)Z"⟩
abbrev cX1_withAncestors : ByteArray := prog_1_method_26_code
def yX1_withAncestors : MethodName := ⟨RX1, "withAncestors", "(I)I"⟩
abbrev cX1_depthUnder : ByteArray := prog_1_method_27_code
def yX1_depthUnder : MethodName := ⟨RX1, "depthUnder", "(I)I"⟩
abbrev cX1_placeFor : ByteArray := prog_1_method_28_code
def yX1_placeFor : MethodName := ⟨RX1, "placeFor", "(I)I"⟩
abbrev cX1_turn : ByteArray := prog_1_method_29_code
def yX1_turn : MethodName := ⟨RX1, "turn", "(LDozingDevices$Device;I)V"⟩
abbrev cX1_rouse : ByteArray := prog_1_method_30_code
def yX1_rouse : MethodName := ⟨RX1, "rouse", "(I)V"⟩
abbrev cX1_makeDue : ByteArray := prog_1_method_31_code
def yX1_makeDue : MethodName := ⟨RX1, "makeDue", "(LDozingDevices$Device;I)V"⟩
abbrev cX1_endDue : ByteArray := prog_1_method_32_code
def yX1_endDue : MethodName := ⟨RX1, "endDue", "()V"⟩
abbrev cX1_sinkFurther : ByteArray := prog_1_method_33_code
def yX1_sinkFurther : MethodName := ⟨RX1, "sinkFurther", "()V"⟩
abbrev cX1_giveUp : ByteArray := prog_1_method_34_code
def yX1_giveUp : MethodName := ⟨RX1, "giveUp", "(ILDozingDevices$Device;)V"⟩
abbrev cX1_comeBack : ByteArray := prog_1_method_35_code
def yX1_comeBack : MethodName := ⟨RX1, "comeBack", "(I)V"⟩
abbrev cX1_comeFurtherBack : ByteArray := prog_1_method_36_code
def yX1_comeFurtherBack : MethodName := ⟨RX1, "comeFurtherBack", "()V"⟩
abbrev cX1_passOneTick : ByteArray := prog_1_method_37_code
def yX1_passOneTick : MethodName := ⟨RX1, "passOneTick", "()V"⟩
abbrev cX1_watchBites : ByteArray := prog_1_method_38_code
def yX1_watchBites : MethodName := ⟨RX1, "watchBites", "()Z"⟩
abbrev cX1_resetAll : ByteArray := prog_1_method_39_code
def yX1_resetAll : MethodName := ⟨RX1, "resetAll", "()V"⟩
abbrev cX1_idleOneTick : ByteArray := prog_1_method_40_code
def yX1_idleOneTick : MethodName := ⟨RX1, "idleOneTick", "()V"⟩
abbrev cX1_parentsOfThoseOn : ByteArray := prog_1_method_41_code
def yX1_parentsOfThoseOn : MethodName := ⟨RX1, "parentsOfThoseOn", "()I"⟩
abbrev cX1_bringNearer : ByteArray := prog_1_method_42_code
def yX1_bringNearer : MethodName := ⟨RX1, "bringNearer", "(LDozingDevices$Device;)V"⟩
def RX2 : String := "DozingDevicesModel"
def TX2 : u_T := fun k => match k with
  | 0 => ("DozingDevicesModel", "count", "I", false)
  | 1 => ("DozingDevicesModel", "parents", "[I", true)
  | 2 => ("DozingDevicesModel", "downs", "[I", true)
  | 3 => ("DozingDevicesModel", "ups", "[I", true)
  | 4 => ("DozingDevicesModel", "delays", "[I", true)
  | 5 => ("DozingDevicesModel", "mode", "[I", true)
  | 6 => ("DozingDevicesModel", "mind", "[I", true)
  | 7 => ("DozingDevicesModel", "used", "[I", true)
  | 8 => ("DozingDevicesModel", "idles", "[I", true)
  | 9 => ("DozingDevicesModel", "nos", "[I", true)
  | 10 => ("DozingDevicesModel", "wakes", "[Z", true)
  | 11 => ("DozingDevicesModel", "resting", "[Z", true)
  | 12 => ("DozingDevicesModel", "stage", "I", false)
  | 13 => ("DozingDevicesModel", "dueOne", "I", false)
  | 14 => ("DozingDevicesModel", "toGo", "I", false)
  | 15 => ("DozingDevicesModel", "namedOne", "I", false)
  | 16 => ("DozingDevicesModel", "reason", "I", false)
  | 17 => ("DozingDevicesModel", "time", "I", false)
  | 18 => ("DozingDevicesModel", "limit", "I", false)
  | 19 => ("DozingDevicesModel", "since", "I", false)
  | 20 => ("DozingDevicesModel", "resets", "I", false)
  | 21 => ("DozingDevicesModel", "asleep", "I", false)
  | 22 => ("DozingDevicesModel", "givenUp", "I", false)
  | _ => ("DozingDevicesModel", "changes", "I", false)
def tyX2 : Nat → FieldType := fun k => match k with
  | 0 => .int
  | 1 => .array .int
  | 2 => .array .int
  | 3 => .array .int
  | 4 => .array .int
  | 5 => .array .int
  | 6 => .array .int
  | 7 => .array .int
  | 8 => .array .int
  | 9 => .array .int
  | 10 => .array .boolean
  | 11 => .array .boolean
  | 12 => .int
  | 13 => .int
  | 14 => .int
  | 15 => .int
  | 16 => .int
  | 17 => .int
  | 18 => .int
  | 19 => .int
  | 20 => .int
  | 21 => .int
  | 22 => .int
  | _ => .int
abbrev wsX20 : List Cond := u_ws RX2 TX2 24
theorem nmX2 : ∀ a, a < 24 → ∀ b, b < 24 → a ≠ b → (TX2 a).2.1 ≠ (TX2 b).2.1 := by decide +kernel
theorem tyX2_ok : ∀ k, k < 24 → parseFieldDescriptor (TX2 k).2.2.1 = some (tyX2 k) := by decide +kernel
abbrev cX2_init : ByteArray := prog_4_method_1_code
def yX2_init : MethodName := ⟨RX2, "<init>", "()V"⟩
abbrev cX2_none : ByteArray := prog_4_method_2_code
def yX2_none : MethodName := ⟨RX2, "none", "(I)Z"⟩
abbrev cX2_depth : ByteArray := prog_4_method_3_code
def yX2_depth : MethodName := ⟨RX2, "depth", "(I)I"⟩
abbrev cX2_earlier : ByteArray := prog_4_method_4_code
def yX2_earlier : MethodName := ⟨RX2, "earlier", "(II)Z"⟩
abbrev cX2_line : ByteArray := prog_4_method_5_code
def yX2_line : MethodName := ⟨RX2, "line", "(I)I"⟩
abbrev cX2_rouse : ByteArray := prog_4_method_6_code
def yX2_rouse : MethodName := ⟨RX2, "rouse", "(I)I"⟩
abbrev cX2_device : ByteArray := prog_4_method_7_code
def yX2_device : MethodName := ⟨RX2, "device", "(IIII)I"⟩
abbrev cX2_use : ByteArray := prog_4_method_8_code
def yX2_use : MethodName := ⟨RX2, "use", "(I)I"⟩
abbrev cX2_release : ByteArray := prog_4_method_9_code
def yX2_release : MethodName := ⟨RX2, "release", "(I)I"⟩
abbrev cX2_waker : ByteArray := prog_4_method_10_code
def yX2_waker : MethodName := ⟨RX2, "waker", "(IZ)Z"⟩
abbrev cX2_refuse : ByteArray := prog_4_method_11_code
def yX2_refuse : MethodName := ⟨RX2, "refuse", "(II)Z"⟩
abbrev cX2_become : ByteArray := prog_4_method_12_code
def yX2_become : MethodName := ⟨RX2, "become", "(II)V"⟩
abbrev cX2_lastAwake : ByteArray := prog_4_method_13_code
def yX2_lastAwake : MethodName := ⟨RX2, "lastAwake", "()I"⟩
abbrev cX2_firstOff : ByteArray := prog_4_method_14_code
def yX2_firstOff : MethodName := ⟨RX2, "firstOff", "()I"⟩
abbrev cX2_sink : ByteArray := prog_4_method_15_code
def yX2_sink : MethodName := ⟨RX2, "sink", "()V"⟩
abbrev cX2_rise : ByteArray := prog_4_method_16_code
def yX2_rise : MethodName := ⟨RX2, "rise", "()V"⟩
abbrev cX2_follow : ByteArray := prog_4_method_17_code
def yX2_follow : MethodName := ⟨RX2, "follow", "()V"⟩
abbrev cX2_giveUp : ByteArray := prog_4_method_18_code
def yX2_giveUp : MethodName := ⟨RX2, "giveUp", "(II)V"⟩
abbrev cX2_sleep : ByteArray := prog_4_method_19_code
def yX2_sleep : MethodName := ⟨RX2, "sleep", "()I"⟩
abbrev cX2_signal : ByteArray := prog_4_method_20_code
def yX2_signal : MethodName := ⟨RX2, "signal", "(I)I"⟩
abbrev cX2_watch : ByteArray := prog_4_method_21_code
def yX2_watch : MethodName := ⟨RX2, "watch", "(I)Z"⟩
abbrev cX2_kick : ByteArray := prog_4_method_22_code
def yX2_kick : MethodName := ⟨RX2, "kick", "()I"⟩
abbrev cX2_reset : ByteArray := prog_4_method_23_code
def yX2_reset : MethodName := ⟨RX2, "reset", "()V"⟩
abbrev cX2_childOn : ByteArray := prog_4_method_24_code
def yX2_childOn : MethodName := ⟨RX2, "childOn", "(I)Z"⟩
abbrev cX2_doze : ByteArray := prog_4_method_25_code
def yX2_doze : MethodName := ⟨RX2, "doze", "()V"⟩
abbrev cX2_work : ByteArray := prog_4_method_26_code
def yX2_work : MethodName := ⟨RX2, "work", "()V"⟩
abbrev cX2_once : ByteArray := prog_4_method_27_code
def yX2_once : MethodName := ⟨RX2, "once", "()V"⟩
abbrev cX2_tick : ByteArray := prog_4_method_28_code
def yX2_tick : MethodName := ⟨RX2, "tick", "(I)I"⟩
abbrev cX2_phase : ByteArray := prog_4_method_29_code
def yX2_phase : MethodName := ⟨RX2, "phase", "()I"⟩
abbrev cX2_state : ByteArray := prog_4_method_30_code
def yX2_state : MethodName := ⟨RX2, "state", "(I)I"⟩
abbrev cX2_uses : ByteArray := prog_4_method_31_code
def yX2_uses : MethodName := ⟨RX2, "uses", "(I)I"⟩
abbrev cX2_idle : ByteArray := prog_4_method_32_code
def yX2_idle : MethodName := ⟨RX2, "idle", "(I)I"⟩
abbrev cX2_refusals : ByteArray := prog_4_method_33_code
def yX2_refusals : MethodName := ⟨RX2, "refusals", "(I)I"⟩
abbrev cX2_due : ByteArray := prog_4_method_34_code
def yX2_due : MethodName := ⟨RX2, "due", "()I"⟩
abbrev cX2_left : ByteArray := prog_4_method_35_code
def yX2_left : MethodName := ⟨RX2, "left", "()I"⟩
abbrev cX2_named : ByteArray := prog_4_method_36_code
def yX2_named : MethodName := ⟨RX2, "named", "()I"⟩
abbrev cX2_figure : ByteArray := prog_4_method_37_code
def yX2_figure : MethodName := ⟨RX2, "figure", "(I)I"⟩
def RJx145de : String := "java/io/Serializable"
def TJx145de : u_T := fun k => match k with
  | _ => ("", "", "", false)
def tyJx145de : Nat → FieldType := fun k => match k with
  | _ => .int
abbrev wsJx145de0 : List Cond := u_ws RJx145de TJx145de 0
theorem nmJx145de : ∀ a, a < 0 → ∀ b, b < 0 → a ≠ b → (TJx145de a).2.1 ≠ (TJx145de b).2.1 := by decide +kernel
theorem tyJx145de_ok : ∀ k, k < 0 → parseFieldDescriptor (TJx145de k).2.2.1 = some (tyJx145de k) := by decide +kernel
def RJx8e188 : String := "java/lang/Cloneable"
def TJx8e188 : u_T := fun k => match k with
  | _ => ("", "", "", false)
def tyJx8e188 : Nat → FieldType := fun k => match k with
  | _ => .int
abbrev wsJx8e1880 : List Cond := u_ws RJx8e188 TJx8e188 0
theorem nmJx8e188 : ∀ a, a < 0 → ∀ b, b < 0 → a ≠ b → (TJx8e188 a).2.1 ≠ (TJx8e188 b).2.1 := by decide +kernel
theorem tyJx8e188_ok : ∀ k, k < 0 → parseFieldDescriptor (TJx8e188 k).2.2.1 = some (tyJx8e188 k) := by decide +kernel
def RJxab1ab : String := "java/lang/Iterable"
def TJxab1ab : u_T := fun k => match k with
  | _ => ("", "", "", false)
def tyJxab1ab : Nat → FieldType := fun k => match k with
  | _ => .int
abbrev wsJxab1ab0 : List Cond := u_ws RJxab1ab TJxab1ab 0
theorem nmJxab1ab : ∀ a, a < 0 → ∀ b, b < 0 → a ≠ b → (TJxab1ab a).2.1 ≠ (TJxab1ab b).2.1 := by decide +kernel
theorem tyJxab1ab_ok : ∀ k, k < 0 → parseFieldDescriptor (TJxab1ab k).2.2.1 = some (tyJxab1ab k) := by decide +kernel
def RJ9 : String := "java/lang/Math"
def TJ9 : u_T := fun k => match k with
  | _ => ("", "", "", false)
def tyJ9 : Nat → FieldType := fun k => match k with
  | _ => .int
abbrev wsJ90 : List Cond := u_ws RJ9 TJ9 0
theorem nmJ9 : ∀ a, a < 0 → ∀ b, b < 0 → a ≠ b → (TJ9 a).2.1 ≠ (TJ9 b).2.1 := by decide +kernel
theorem tyJ9_ok : ∀ k, k < 0 → parseFieldDescriptor (TJ9 k).2.2.1 = some (tyJ9 k) := by decide +kernel
abbrev cJ9_max_7cf53 : ByteArray := prog_8_method_65_code
def yJ9_max_7cf53 : MethodName := ⟨RJ9, "max", "(II)I"⟩
abbrev cJ9_min_7cf53 : ByteArray := prog_8_method_69_code
def yJ9_min_7cf53 : MethodName := ⟨RJ9, "min", "(II)I"⟩
def RJ10 : String := "java/lang/System"
def TJ10 : u_T := fun k => match k with
  | _ => ("", "", "", false)
def tyJ10 : Nat → FieldType := fun k => match k with
  | _ => .int
abbrev wsJ100 : List Cond := u_ws RJ10 TJ10 0
theorem nmJ10 : ∀ a, a < 0 → ∀ b, b < 0 → a ≠ b → (TJ10 a).2.1 ≠ (TJ10 b).2.1 := by decide +kernel
theorem tyJ10_ok : ∀ k, k < 0 → parseFieldDescriptor (TJ10 k).2.2.1 = some (tyJ10 k) := by decide +kernel
def RJxa1e45 : String := "java/util/AbstractCollection"
def TJxa1e45 : u_T := fun k => match k with
  | _ => ("", "", "", false)
def tyJxa1e45 : Nat → FieldType := fun k => match k with
  | _ => .int
abbrev wsJxa1e450 : List Cond := u_ws RJxa1e45 TJxa1e45 0
theorem nmJxa1e45 : ∀ a, a < 0 → ∀ b, b < 0 → a ≠ b → (TJxa1e45 a).2.1 ≠ (TJxa1e45 b).2.1 := by decide +kernel
theorem tyJxa1e45_ok : ∀ k, k < 0 → parseFieldDescriptor (TJxa1e45 k).2.2.1 = some (tyJxa1e45 k) := by decide +kernel
abbrev cJxa1e45_init_da8c8 : ByteArray := prog_10_method_1_code
def yJxa1e45_init_da8c8 : MethodName := ⟨RJxa1e45, "<init>", "()V"⟩
def RJxc12de : String := "java/util/AbstractList"
def TJxc12de : u_T := fun k => match k with
  | _ => ("", "", "", false)
def tyJxc12de : Nat → FieldType := fun k => match k with
  | _ => .int
abbrev wsJxc12de0 : List Cond := u_ws RJxc12de TJxc12de 0
theorem nmJxc12de : ∀ a, a < 0 → ∀ b, b < 0 → a ≠ b → (TJxc12de a).2.1 ≠ (TJxc12de b).2.1 := by decide +kernel
theorem tyJxc12de_ok : ∀ k, k < 0 → parseFieldDescriptor (TJxc12de k).2.2.1 = some (tyJxc12de k) := by decide +kernel
abbrev cJxc12de_init_da8c8 : ByteArray := prog_11_method_1_code
def yJxc12de_init_da8c8 : MethodName := ⟨RJxc12de, "<init>", "()V"⟩
def RJx4a65c : String := "java/util/ArrayList"
def TJx4a65c : u_T := fun k => match k with
  | 0 => ("java/util/AbstractList", "modCount", "I", false)
  | 1 => ("java/util/ArrayList", "elementData", "[Ljava/lang/Object;", false)
  | _ => ("java/util/ArrayList", "size", "I", false)
def tyJx4a65c : Nat → FieldType := fun k => match k with
  | 0 => .int
  | 1 => .array (.object "java/lang/Object")
  | _ => .int
abbrev wsJx4a65c0 : List Cond := u_ws RJx4a65c TJx4a65c 3
theorem nmJx4a65c : ∀ a, a < 3 → ∀ b, b < 3 → a ≠ b → (TJx4a65c a).2.1 ≠ (TJx4a65c b).2.1 := by decide +kernel
theorem tyJx4a65c_ok : ∀ k, k < 3 → parseFieldDescriptor (TJx4a65c k).2.2.1 = some (tyJx4a65c k) := by decide +kernel
abbrev cJx4a65c_init_da8c8 : ByteArray := prog_12_method_2_code
def yJx4a65c_init_da8c8 : MethodName := ⟨RJx4a65c, "<init>", "()V"⟩
abbrev cJx4a65c_grow_92f84 : ByteArray := prog_12_method_6_code
def yJx4a65c_grow_92f84 : MethodName := ⟨RJx4a65c, "grow", "(I)[Ljava/lang/Object;"⟩
abbrev cJx4a65c_grow_d5877 : ByteArray := prog_12_method_7_code
def yJx4a65c_grow_d5877 : MethodName := ⟨RJx4a65c, "grow", "()[Ljava/lang/Object;"⟩
abbrev cJx4a65c_size_8abf5 : ByteArray := prog_12_method_8_code
def yJx4a65c_size_8abf5 : MethodName := ⟨RJx4a65c, "size", "()I"⟩
abbrev cJx4a65c_elementData_915e3 : ByteArray := prog_12_method_18_code
def yJx4a65c_elementData_915e3 : MethodName := ⟨RJx4a65c, "elementData", "(I)Ljava/lang/Object;"⟩
abbrev cJx4a65c_get_915e3 : ByteArray := prog_12_method_20_code
def yJx4a65c_get_915e3 : MethodName := ⟨RJx4a65c, "get", "(I)Ljava/lang/Object;"⟩
abbrev cJx4a65c_add_72be8 : ByteArray := prog_12_method_24_code
def yJx4a65c_add_72be8 : MethodName := ⟨RJx4a65c, "add", "(Ljava/lang/Object;[Ljava/lang/Object;I)V"⟩
abbrev cJx4a65c_add_9ea2d : ByteArray := prog_12_method_25_code
def yJx4a65c_add_9ea2d : MethodName := ⟨RJx4a65c, "add", "(Ljava/lang/Object;)Z"⟩
abbrev cJx4a65c_add_7a177 : ByteArray := prog_12_method_26_code
def yJx4a65c_add_7a177 : MethodName := ⟨RJx4a65c, "add", "(ILjava/lang/Object;)V"⟩
abbrev cJx4a65c_rangeCheckForAdd_d00df : ByteArray := prog_12_method_45_code
def yJx4a65c_rangeCheckForAdd_d00df : MethodName := ⟨RJx4a65c, "rangeCheckForAdd", "(I)V"⟩
def RJ7 : String := "java/util/Arrays"
def TJ7 : u_T := fun k => match k with
  | _ => ("", "", "", false)
def tyJ7 : Nat → FieldType := fun k => match k with
  | _ => .int
abbrev wsJ70 : List Cond := u_ws RJ7 TJ7 0
theorem nmJ7 : ∀ a, a < 0 → ∀ b, b < 0 → a ≠ b → (TJ7 a).2.1 ≠ (TJ7 b).2.1 := by decide +kernel
theorem tyJ7_ok : ∀ k, k < 0 → parseFieldDescriptor (TJ7 k).2.2.1 = some (tyJ7 k) := by decide +kernel
abbrev cJ7_copyOf_1904c : ByteArray := prog_13_method_119_code
def yJ7_copyOf_1904c : MethodName := ⟨RJ7, "copyOf", "([Ljava/lang/Object;I)[Ljava/lang/Object;"⟩
abbrev cJ7_copyOf_6403c : ByteArray := prog_13_method_120_code
def yJ7_copyOf_6403c : MethodName := ⟨RJ7, "copyOf", "([Ljava/lang/Object;ILjava/lang/Class;)[Ljava/lang/Object;"⟩
def RJx5ef63 : String := "java/util/Collection"
def TJx5ef63 : u_T := fun k => match k with
  | _ => ("", "", "", false)
def tyJx5ef63 : Nat → FieldType := fun k => match k with
  | _ => .int
abbrev wsJx5ef630 : List Cond := u_ws RJx5ef63 TJx5ef63 0
theorem nmJx5ef63 : ∀ a, a < 0 → ∀ b, b < 0 → a ≠ b → (TJx5ef63 a).2.1 ≠ (TJx5ef63 b).2.1 := by decide +kernel
theorem tyJx5ef63_ok : ∀ k, k < 0 → parseFieldDescriptor (TJx5ef63 k).2.2.1 = some (tyJx5ef63 k) := by decide +kernel
def RJxbd725 : String := "java/util/List"
def TJxbd725 : u_T := fun k => match k with
  | _ => ("", "", "", false)
def tyJxbd725 : Nat → FieldType := fun k => match k with
  | _ => .int
abbrev wsJxbd7250 : List Cond := u_ws RJxbd725 TJxbd725 0
theorem nmJxbd725 : ∀ a, a < 0 → ∀ b, b < 0 → a ≠ b → (TJxbd725 a).2.1 ≠ (TJxbd725 b).2.1 := by decide +kernel
theorem tyJxbd725_ok : ∀ k, k < 0 → parseFieldDescriptor (TJxbd725 k).2.2.1 = some (tyJxbd725 k) := by decide +kernel
def RJ15 : String := "java/util/Objects"
def TJ15 : u_T := fun k => match k with
  | _ => ("", "", "", false)
def tyJ15 : Nat → FieldType := fun k => match k with
  | _ => .int
abbrev wsJ150 : List Cond := u_ws RJ15 TJ15 0
theorem nmJ15 : ∀ a, a < 0 → ∀ b, b < 0 → a ≠ b → (TJ15 a).2.1 ≠ (TJ15 b).2.1 := by decide +kernel
theorem tyJ15_ok : ∀ k, k < 0 → parseFieldDescriptor (TJ15 k).2.2.1 = some (tyJ15 k) := by decide +kernel
abbrev cJ15_checkIndex_7cf53 : ByteArray := prog_16_method_17_code
def yJ15_checkIndex_7cf53 : MethodName := ⟨RJ15, "checkIndex", "(II)I"⟩
def RJxf0a74 : String := "java/util/RandomAccess"
def TJxf0a74 : u_T := fun k => match k with
  | _ => ("", "", "", false)
def tyJxf0a74 : Nat → FieldType := fun k => match k with
  | _ => .int
abbrev wsJxf0a740 : List Cond := u_ws RJxf0a74 TJxf0a74 0
theorem nmJxf0a74 : ∀ a, a < 0 → ∀ b, b < 0 → a ≠ b → (TJxf0a74 a).2.1 ≠ (TJxf0a74 b).2.1 := by decide +kernel
theorem tyJxf0a74_ok : ∀ k, k < 0 → parseFieldDescriptor (TJxf0a74 k).2.2.1 = some (tyJxf0a74 k) := by decide +kernel
def RJxa66e6 : String := "java/util/SequencedCollection"
def TJxa66e6 : u_T := fun k => match k with
  | _ => ("", "", "", false)
def tyJxa66e6 : Nat → FieldType := fun k => match k with
  | _ => .int
abbrev wsJxa66e60 : List Cond := u_ws RJxa66e6 TJxa66e6 0
theorem nmJxa66e6 : ∀ a, a < 0 → ∀ b, b < 0 → a ≠ b → (TJxa66e6 a).2.1 ≠ (TJxa66e6 b).2.1 := by decide +kernel
theorem tyJxa66e6_ok : ∀ k, k < 0 → parseFieldDescriptor (TJxa66e6 k).2.2.1 = some (tyJxa66e6 k) := by decide +kernel
def RJ8 : String := "jdk/internal/util/ArraysSupport"
def TJ8 : u_T := fun k => match k with
  | _ => ("", "", "", false)
def tyJ8 : Nat → FieldType := fun k => match k with
  | _ => .int
abbrev wsJ80 : List Cond := u_ws RJ8 TJ8 0
theorem nmJ8 : ∀ a, a < 0 → ∀ b, b < 0 → a ≠ b → (TJ8 a).2.1 ≠ (TJ8 b).2.1 := by decide +kernel
theorem tyJ8_ok : ∀ k, k < 0 → parseFieldDescriptor (TJ8 k).2.2.1 = some (tyJ8 k) := by decide +kernel
abbrev cJ8_newLength_cabcc : ByteArray := prog_19_method_27_code
def yJ8_newLength_cabcc : MethodName := ⟨RJ8, "newLength", "(III)I"⟩
abbrev cJ8_hugeLength_7cf53 : ByteArray := prog_19_method_28_code
def yJ8_hugeLength_7cf53 : MethodName := ⟨RJ8, "hugeLength", "(II)I"⟩
def RJ3 : String := "jdk/internal/util/Preconditions"
def TJ3 : u_T := fun k => match k with
  | _ => ("", "", "", false)
def tyJ3 : Nat → FieldType := fun k => match k with
  | _ => .int
abbrev wsJ30 : List Cond := u_ws RJ3 TJ3 0
theorem nmJ3 : ∀ a, a < 0 → ∀ b, b < 0 → a ≠ b → (TJ3 a).2.1 ≠ (TJ3 b).2.1 := by decide +kernel
theorem tyJ3_ok : ∀ k, k < 0 → parseFieldDescriptor (TJ3 k).2.2.1 = some (tyJ3 k) := by decide +kernel
abbrev cJ3_checkIndex_8e157 : ByteArray := prog_20_method_11_code
def yJ3_checkIndex_8e157 : MethodName := ⟨RJ3, "checkIndex", "(IILjava/util/function/BiFunction;)I"⟩
def RL : String := "DozingDevicesLaw"
abbrev cL_law : ByteArray := code
def yL_law : MethodName := ⟨RL, "law", "([I)Z"⟩
def wsX0_init : List Cond := .code yX0_init cX0_init 8 none :: ([.methodLink RX0 3 objectInit, .instanceMethod objectInit, .code objectInit ⟨#[0xb1]⟩ 1 none, .fieldLink RX0 9 "DozingDevices$Device" "state" "I", .fieldLink RX0 15 "DozingDevices$Device" "inMind" "I", .fieldLink RX0 18 "DozingDevices$Device" "uses" "I", .fieldLink RX0 21 "DozingDevices$Device" "idle" "I", .fieldLink RX0 24 "DozingDevices$Device" "refusals" "I", .fieldLink RX0 27 "DozingDevices$Device" "isWaker" "Z", .fieldLink RX0 31 "DozingDevices$Device" "number" "I", .fieldLink RX0 34 "DozingDevices$Device" "parents" "I", .fieldLink RX0 37 "DozingDevices$Device" "ancestors" "I", .fieldLink RX0 40 "DozingDevices$Device" "depth" "I", .fieldLink RX0 43 "DozingDevices$Device" "down" "I", .fieldLink RX0 46 "DozingDevices$Device" "up" "I", .fieldLink RX0 49 "DozingDevices$Device" "delay" "I"] ++ wsX00)
def wsJxa1e45_init_da8c8 : List Cond := .code yJxa1e45_init_da8c8 cJxa1e45_init_da8c8 1 none :: ([.methodLink RJxa1e45 1 objectInit, .instanceMethod objectInit, .code objectInit ⟨#[0xb1]⟩ 1 none])
def wsJxc12de_init_da8c8 : List Cond := .code yJxc12de_init_da8c8 cJxc12de_init_da8c8 1 none :: ([.fieldLink RJxc12de 7 "java/util/AbstractList" "modCount" "I", .methodLink RJxc12de 1 yJxa1e45_init_da8c8, .instanceMethod yJxa1e45_init_da8c8, .initialized RJxa1e45, .code yJxa1e45_init_da8c8 cJxa1e45_init_da8c8 1 none, .methodLink RJxa1e45 1 objectInit, .instanceMethod objectInit, .code objectInit ⟨#[0xb1]⟩ 1 none] ++ wsJx4a65c0)
def wsJx4a65c_init_da8c8 : List Cond := .code yJx4a65c_init_da8c8 cJx4a65c_init_da8c8 1 none :: ([.fieldLink RJx4a65c 39 "java/util/ArrayList" "DEFAULTCAPACITY_EMPTY_ELEMENTDATA" "[Ljava/lang/Object;", .fieldLink RJx4a65c 9 "java/util/ArrayList" "elementData" "[Ljava/lang/Object;", .methodLink RJx4a65c 1 yJxc12de_init_da8c8, .instanceMethod yJxc12de_init_da8c8, .initialized RJxc12de, .code yJxc12de_init_da8c8 cJxc12de_init_da8c8 1 none, .fieldLink RJxc12de 7 "java/util/AbstractList" "modCount" "I", .methodLink RJxc12de 1 yJxa1e45_init_da8c8, .instanceMethod yJxa1e45_init_da8c8, .initialized RJxa1e45, .code yJxa1e45_init_da8c8 cJxa1e45_init_da8c8 1 none, .methodLink RJxa1e45 1 objectInit, .instanceMethod objectInit, .code objectInit ⟨#[0xb1]⟩ 1 none] ++ wsJx4a65c0)
def wsX1_init_r1 : List Cond := [Cond.methodLink RX1 1 objectInit, Cond.instanceMethod objectInit, Cond.code objectInit ⟨#[0xb1]⟩ 1 none, Cond.classLink RX1 7 RJx4a65c, Cond.instantiable RJx4a65c 3, Cond.initialized RJx4a65c, Cond.fieldLink RX1 10 "DozingDevices" "devices" "Ljava/util/ArrayList;", Cond.fieldLink RX1 16 "DozingDevices" "order" "Ljava/util/ArrayList;", Cond.fieldLink RX1 19 "DozingDevices" "phase" "I", Cond.fieldLink RX1 23 "DozingDevices" "dueDevice" "LDozingDevices$Device;", Cond.fieldLink RX1 27 "DozingDevices" "ticksLeft" "I", Cond.fieldLink RX1 30 "DozingDevices" "time" "I", Cond.fieldLink RX1 33 "DozingDevices" "watchLimit" "I", Cond.fieldLink RX1 36 "DozingDevices" "sinceKick" "I", Cond.fieldLink RX1 39 "DozingDevices" "resets" "I", Cond.fieldLink RX1 42 "DozingDevices" "timesAsleep" "I", Cond.fieldLink RX1 45 "DozingDevices" "givenUp" "I", Cond.fieldLink RX1 48 "DozingDevices" "reason" "I", Cond.fieldLink RX1 51 "DozingDevices" "namedDevice" "I", Cond.fieldLink RX1 54 "DozingDevices" "turns" "I", Cond.methodLink RX1 9 yJx4a65c_init_da8c8, Cond.instanceMethod yJx4a65c_init_da8c8, Cond.code yJx4a65c_init_da8c8 cJx4a65c_init_da8c8 1 none, Cond.fieldLink RJx4a65c 39 "java/util/ArrayList" "DEFAULTCAPACITY_EMPTY_ELEMENTDATA" "[Ljava/lang/Object;"]
def wsX1_init_r2 : List Cond := [Cond.fieldLink RJx4a65c 9 "java/util/ArrayList" "elementData" "[Ljava/lang/Object;", Cond.methodLink RJx4a65c 1 yJxc12de_init_da8c8, Cond.instanceMethod yJxc12de_init_da8c8, Cond.initialized RJxc12de, Cond.code yJxc12de_init_da8c8 cJxc12de_init_da8c8 1 none, Cond.fieldLink RJxc12de 7 "java/util/AbstractList" "modCount" "I", Cond.methodLink RJxc12de 1 yJxa1e45_init_da8c8, Cond.instanceMethod yJxa1e45_init_da8c8, Cond.initialized RJxa1e45, Cond.code yJxa1e45_init_da8c8 cJxa1e45_init_da8c8 1 none, Cond.methodLink RJxa1e45 1 objectInit]
def wsX1_init : List Cond := .code yX1_init cX1_init 1 none :: ((wsX1_init_r1 ++ wsX1_init_r2) ++ wsJx4a65c0 ++ wsX10)
def wsJx4a65c_size_8abf5 : List Cond := .code yJx4a65c_size_8abf5 cJx4a65c_size_8abf5 1 (some .int) :: ([.fieldLink RJx4a65c 48 "java/util/ArrayList" "size" "I"] ++ wsJx4a65c0)
def wsX1_areDevices : List Cond := .code yX1_areDevices cX1_areDevices 2 (some .boolean) :: ([.fieldLink RX1 10 "DozingDevices" "devices" "Ljava/util/ArrayList;", .methodLink RX1 65 yJx4a65c_size_8abf5, .instanceMethod yJx4a65c_size_8abf5, .selects RJx4a65c yJx4a65c_size_8abf5 yJx4a65c_size_8abf5, .initialized RJx4a65c, .code yJx4a65c_size_8abf5 cJx4a65c_size_8abf5 1 (some .int), .fieldLink RJx4a65c 48 "java/util/ArrayList" "size" "I"] ++ wsX10 ++ wsJx4a65c0)
def wsX1_isWithin : List Cond := .code yX1_isWithin cX1_isWithin 3 (some .boolean) :: ([])
def wsJ3_checkIndex_8e157 : List Cond := .code yJ3_checkIndex_8e157 cJ3_checkIndex_8e157 3 (some .int) :: ([])
def wsJ15_checkIndex_7cf53 : List Cond := .code yJ15_checkIndex_7cf53 cJ15_checkIndex_7cf53 2 (some .int) :: ([.methodLink RJ15 105 yJ3_checkIndex_8e157, .static yJ3_checkIndex_8e157, .initialized RJ3, .code yJ3_checkIndex_8e157 cJ3_checkIndex_8e157 3 (some .int)])
def wsJx4a65c_elementData_915e3 : List Cond := .code yJx4a65c_elementData_915e3 cJx4a65c_elementData_915e3 2 (some (.object "java/lang/Object")) :: ([.fieldLink RJx4a65c 9 "java/util/ArrayList" "elementData" "[Ljava/lang/Object;"] ++ wsJx4a65c0)
def wsJx4a65c_get_915e3 : List Cond := .code yJx4a65c_get_915e3 cJx4a65c_get_915e3 2 (some (.object "java/lang/Object")) :: ([.fieldLink RJx4a65c 48 "java/util/ArrayList" "size" "I", .methodLink RJx4a65c 118 yJ15_checkIndex_7cf53, .static yJ15_checkIndex_7cf53, .initialized RJ15, .code yJ15_checkIndex_7cf53 cJ15_checkIndex_7cf53 2 (some .int), .methodLink RJ15 105 yJ3_checkIndex_8e157, .static yJ3_checkIndex_8e157, .initialized RJ3, .code yJ3_checkIndex_8e157 cJ3_checkIndex_8e157 3 (some .int), .methodLink RJx4a65c 123 yJx4a65c_elementData_915e3, .instanceMethod yJx4a65c_elementData_915e3, .selects RJx4a65c yJx4a65c_elementData_915e3 yJx4a65c_elementData_915e3, .initialized RJx4a65c, .code yJx4a65c_elementData_915e3 cJx4a65c_elementData_915e3 2 (some (.object "java/lang/Object")), .fieldLink RJx4a65c 9 "java/util/ArrayList" "elementData" "[Ljava/lang/Object;"] ++ wsJx4a65c0)
def wsX1_bit : List Cond := .code yX1_bit cX1_bit 1 (some .int) :: ([.fieldLink RX1 101 "DozingDevices$Device" "number" "I"] ++ wsX00)
def wsX1_holds : List Cond := .code yX1_holds cX1_holds 2 (some .boolean) :: ([.methodLink RX1 111 yX1_bit, .static yX1_bit, .initialized RX1, .code yX1_bit cX1_bit 1 (some .int), .fieldLink RX1 101 "DozingDevices$Device" "number" "I"] ++ wsX00)
def wsX1_withAncestors_r1 : List Cond := [Cond.fieldLink RX1 10 "DozingDevices" "devices" "Ljava/util/ArrayList;", Cond.classLink RX1 69 "DozingDevices$Device", Cond.fieldLink RX1 94 "DozingDevices$Device" "ancestors" "I", Cond.methodLink RX1 65 yJx4a65c_size_8abf5, Cond.instanceMethod yJx4a65c_size_8abf5, Cond.selects RJx4a65c yJx4a65c_size_8abf5 yJx4a65c_size_8abf5, Cond.initialized RJx4a65c, Cond.code yJx4a65c_size_8abf5 cJx4a65c_size_8abf5 1 (some .int), Cond.fieldLink RJx4a65c 48 "java/util/ArrayList" "size" "I", Cond.methodLink RX1 129 yJx4a65c_get_915e3, Cond.instanceMethod yJx4a65c_get_915e3, Cond.selects RJx4a65c yJx4a65c_get_915e3 yJx4a65c_get_915e3, Cond.code yJx4a65c_get_915e3 cJx4a65c_get_915e3 2 (some (.object "java/lang/Object")), Cond.methodLink RJx4a65c 118 yJ15_checkIndex_7cf53, Cond.static yJ15_checkIndex_7cf53, Cond.initialized RJ15, Cond.code yJ15_checkIndex_7cf53 cJ15_checkIndex_7cf53 2 (some .int), Cond.methodLink RJ15 105 yJ3_checkIndex_8e157, Cond.static yJ3_checkIndex_8e157, Cond.initialized RJ3, Cond.code yJ3_checkIndex_8e157 cJ3_checkIndex_8e157 3 (some .int), Cond.methodLink RJx4a65c 123 yJx4a65c_elementData_915e3, Cond.instanceMethod yJx4a65c_elementData_915e3, Cond.selects RJx4a65c yJx4a65c_elementData_915e3 yJx4a65c_elementData_915e3]
def wsX1_withAncestors_r2 : List Cond := [Cond.code yJx4a65c_elementData_915e3 cJx4a65c_elementData_915e3 2 (some (.object "java/lang/Object")), Cond.fieldLink RJx4a65c 9 "java/util/ArrayList" "elementData" "[Ljava/lang/Object;", Cond.methodLink RX1 148 yX1_holds, Cond.static yX1_holds, Cond.initialized RX1, Cond.code yX1_holds cX1_holds 2 (some .boolean), Cond.methodLink RX1 111 yX1_bit, Cond.static yX1_bit, Cond.code yX1_bit cX1_bit 1 (some .int), Cond.fieldLink RX1 101 "DozingDevices$Device" "number" "I"]
def wsX1_withAncestors : List Cond := .code yX1_withAncestors cX1_withAncestors 5 (some .int) :: ((wsX1_withAncestors_r1 ++ wsX1_withAncestors_r2) ++ wsX10 ++ wsX00 ++ wsJx4a65c0)
def wsX1_depthUnder_r1 : List Cond := [Cond.fieldLink RX1 10 "DozingDevices" "devices" "Ljava/util/ArrayList;", Cond.classLink RX1 69 "DozingDevices$Device", Cond.fieldLink RX1 85 "DozingDevices$Device" "depth" "I", Cond.methodLink RX1 152 Lib.Math.max.name, Cond.static Lib.Math.max.name, Cond.initialized "java/lang/Math", Cond.code Lib.Math.max.name Lib.Math.max.code 2 (some .int), Cond.methodLink RX1 65 yJx4a65c_size_8abf5, Cond.instanceMethod yJx4a65c_size_8abf5, Cond.selects RJx4a65c yJx4a65c_size_8abf5 yJx4a65c_size_8abf5, Cond.initialized RJx4a65c, Cond.code yJx4a65c_size_8abf5 cJx4a65c_size_8abf5 1 (some .int), Cond.fieldLink RJx4a65c 48 "java/util/ArrayList" "size" "I", Cond.methodLink RX1 129 yJx4a65c_get_915e3, Cond.instanceMethod yJx4a65c_get_915e3, Cond.selects RJx4a65c yJx4a65c_get_915e3 yJx4a65c_get_915e3, Cond.code yJx4a65c_get_915e3 cJx4a65c_get_915e3 2 (some (.object "java/lang/Object")), Cond.methodLink RJx4a65c 118 yJ15_checkIndex_7cf53, Cond.static yJ15_checkIndex_7cf53, Cond.initialized RJ15, Cond.code yJ15_checkIndex_7cf53 cJ15_checkIndex_7cf53 2 (some .int), Cond.methodLink RJ15 105 yJ3_checkIndex_8e157, Cond.static yJ3_checkIndex_8e157, Cond.initialized RJ3]
def wsX1_depthUnder_r2 : List Cond := [Cond.code yJ3_checkIndex_8e157 cJ3_checkIndex_8e157 3 (some .int), Cond.methodLink RJx4a65c 123 yJx4a65c_elementData_915e3, Cond.instanceMethod yJx4a65c_elementData_915e3, Cond.selects RJx4a65c yJx4a65c_elementData_915e3 yJx4a65c_elementData_915e3, Cond.code yJx4a65c_elementData_915e3 cJx4a65c_elementData_915e3 2 (some (.object "java/lang/Object")), Cond.fieldLink RJx4a65c 9 "java/util/ArrayList" "elementData" "[Ljava/lang/Object;", Cond.methodLink RX1 148 yX1_holds, Cond.static yX1_holds, Cond.initialized RX1, Cond.code yX1_holds cX1_holds 2 (some .boolean), Cond.methodLink RX1 111 yX1_bit, Cond.static yX1_bit, Cond.code yX1_bit cX1_bit 1 (some .int), Cond.fieldLink RX1 101 "DozingDevices$Device" "number" "I"]
def wsX1_depthUnder : List Cond := .code yX1_depthUnder cX1_depthUnder 5 (some .int) :: ((wsX1_depthUnder_r1 ++ wsX1_depthUnder_r2) ++ wsX10 ++ wsX00 ++ wsJx4a65c0)
def wsJ8_hugeLength_7cf53 : List Cond := .code yJ8_hugeLength_7cf53 cJ8_hugeLength_7cf53 3 (some .int) :: ([.constant RJ8 200 (2147483639)])
def wsJ8_newLength_cabcc : List Cond := .code yJ8_newLength_cabcc cJ8_newLength_cabcc 4 (some .int) :: ([.methodLink RJ8 194 Lib.Math.max.name, .static Lib.Math.max.name, .initialized "java/lang/Math", .code Lib.Math.max.name Lib.Math.max.code 2 (some .int), .constant RJ8 200 (2147483639), .methodLink RJ8 201 yJ8_hugeLength_7cf53, .static yJ8_hugeLength_7cf53, .initialized RJ8, .code yJ8_hugeLength_7cf53 cJ8_hugeLength_7cf53 3 (some .int)])
def wsJ7_copyOf_6403c : List Cond := .code yJ7_copyOf_6403c cJ7_copyOf_6403c 4 (some (.array (.object "java/lang/Object"))) :: ([.classLink RJ7 110 "[Ljava/lang/Object;", .classLink RJ7 2 "java/lang/Object", .methodLink RJ7 304 Lib.Math.min.name, .static Lib.Math.min.name, .initialized "java/lang/Math", .code Lib.Math.min.name Lib.Math.min.code 2 (some .int), .methodLink RJ7 150 arraycopyName, .native arraycopyName, .static arraycopyName, .initialized "java/lang/System"])
def wsJ7_copyOf_1904c : List Cond := .code yJ7_copyOf_1904c cJ7_copyOf_1904c 2 (some (.array (.object "java/lang/Object"))) :: ([.methodLink RJ7 86 ⟨"java/lang/Object", "getClass", "()Ljava/lang/Class;"⟩, .selects "[Ljava/lang/Object;" ⟨"java/lang/Object", "getClass", "()Ljava/lang/Class;"⟩ ⟨"java/lang/Object", "getClass", "()Ljava/lang/Class;"⟩, .instanceMethod ⟨"java/lang/Object", "getClass", "()Ljava/lang/Class;"⟩, .native ⟨"java/lang/Object", "getClass", "()Ljava/lang/Class;"⟩, .methodLink RJ7 300 yJ7_copyOf_6403c, .static yJ7_copyOf_6403c, .initialized RJ7, .code yJ7_copyOf_6403c cJ7_copyOf_6403c 4 (some (.array (.object "java/lang/Object"))), .classLink RJ7 110 "[Ljava/lang/Object;", .classLink RJ7 2 "java/lang/Object", .methodLink RJ7 304 Lib.Math.min.name, .static Lib.Math.min.name, .initialized "java/lang/Math", .code Lib.Math.min.name Lib.Math.min.code 2 (some .int), .methodLink RJ7 150 arraycopyName, .native arraycopyName, .static arraycopyName, .initialized "java/lang/System"])
def wsJx4a65c_grow_92f84_r1 : List Cond := [Cond.fieldLink RJx4a65c 9 "java/util/ArrayList" "elementData" "[Ljava/lang/Object;", Cond.fieldLink RJx4a65c 39 "java/util/ArrayList" "DEFAULTCAPACITY_EMPTY_ELEMENTDATA" "[Ljava/lang/Object;", Cond.methodLink RJx4a65c 79 Lib.Math.max.name, Cond.static Lib.Math.max.name, Cond.initialized "java/lang/Math", Cond.code Lib.Math.max.name Lib.Math.max.code 2 (some .int), Cond.classLink RJx4a65c 7 "java/lang/Object", Cond.methodLink RJx4a65c 73 yJ8_newLength_cabcc, Cond.static yJ8_newLength_cabcc, Cond.initialized RJ8, Cond.code yJ8_newLength_cabcc cJ8_newLength_cabcc 4 (some .int), Cond.methodLink RJ8 194 Lib.Math.max.name, Cond.constant RJ8 200 (2147483639), Cond.methodLink RJ8 201 yJ8_hugeLength_7cf53, Cond.static yJ8_hugeLength_7cf53, Cond.code yJ8_hugeLength_7cf53 cJ8_hugeLength_7cf53 3 (some .int), Cond.methodLink RJx4a65c 66 yJ7_copyOf_1904c, Cond.static yJ7_copyOf_1904c, Cond.initialized RJ7, Cond.code yJ7_copyOf_1904c cJ7_copyOf_1904c 2 (some (.array (.object "java/lang/Object"))), Cond.methodLink RJ7 86 ⟨"java/lang/Object", "getClass", "()Ljava/lang/Class;"⟩, Cond.selects "[Ljava/lang/Object;" ⟨"java/lang/Object", "getClass", "()Ljava/lang/Class;"⟩ ⟨"java/lang/Object", "getClass", "()Ljava/lang/Class;"⟩, Cond.instanceMethod ⟨"java/lang/Object", "getClass", "()Ljava/lang/Class;"⟩, Cond.native ⟨"java/lang/Object", "getClass", "()Ljava/lang/Class;"⟩]
def wsJx4a65c_grow_92f84_r2 : List Cond := [Cond.methodLink RJ7 300 yJ7_copyOf_6403c, Cond.static yJ7_copyOf_6403c, Cond.code yJ7_copyOf_6403c cJ7_copyOf_6403c 4 (some (.array (.object "java/lang/Object"))), Cond.classLink RJ7 110 "[Ljava/lang/Object;", Cond.classLink RJ7 2 "java/lang/Object", Cond.methodLink RJ7 304 Lib.Math.min.name, Cond.static Lib.Math.min.name, Cond.code Lib.Math.min.name Lib.Math.min.code 2 (some .int), Cond.methodLink RJ7 150 arraycopyName, Cond.native arraycopyName, Cond.static arraycopyName, Cond.initialized "java/lang/System"]
def wsJx4a65c_grow_92f84 : List Cond := .code yJx4a65c_grow_92f84 cJx4a65c_grow_92f84 4 (some (.array (.object "java/lang/Object"))) :: ((wsJx4a65c_grow_92f84_r1 ++ wsJx4a65c_grow_92f84_r2) ++ wsJx4a65c0)
def wsJx4a65c_grow_d5877_r1 : List Cond := [Cond.fieldLink RJx4a65c 48 "java/util/ArrayList" "size" "I", Cond.methodLink RJx4a65c 69 yJx4a65c_grow_92f84, Cond.instanceMethod yJx4a65c_grow_92f84, Cond.selects RJx4a65c yJx4a65c_grow_92f84 yJx4a65c_grow_92f84, Cond.initialized RJx4a65c, Cond.code yJx4a65c_grow_92f84 cJx4a65c_grow_92f84 4 (some (.array (.object "java/lang/Object"))), Cond.fieldLink RJx4a65c 9 "java/util/ArrayList" "elementData" "[Ljava/lang/Object;", Cond.fieldLink RJx4a65c 39 "java/util/ArrayList" "DEFAULTCAPACITY_EMPTY_ELEMENTDATA" "[Ljava/lang/Object;", Cond.methodLink RJx4a65c 79 Lib.Math.max.name, Cond.static Lib.Math.max.name, Cond.initialized "java/lang/Math", Cond.code Lib.Math.max.name Lib.Math.max.code 2 (some .int), Cond.classLink RJx4a65c 7 "java/lang/Object", Cond.methodLink RJx4a65c 73 yJ8_newLength_cabcc, Cond.static yJ8_newLength_cabcc, Cond.initialized RJ8, Cond.code yJ8_newLength_cabcc cJ8_newLength_cabcc 4 (some .int), Cond.methodLink RJ8 194 Lib.Math.max.name, Cond.constant RJ8 200 (2147483639), Cond.methodLink RJ8 201 yJ8_hugeLength_7cf53, Cond.static yJ8_hugeLength_7cf53, Cond.code yJ8_hugeLength_7cf53 cJ8_hugeLength_7cf53 3 (some .int), Cond.methodLink RJx4a65c 66 yJ7_copyOf_1904c, Cond.static yJ7_copyOf_1904c]
def wsJx4a65c_grow_d5877_r2 : List Cond := [Cond.initialized RJ7, Cond.code yJ7_copyOf_1904c cJ7_copyOf_1904c 2 (some (.array (.object "java/lang/Object"))), Cond.methodLink RJ7 86 ⟨"java/lang/Object", "getClass", "()Ljava/lang/Class;"⟩, Cond.selects "[Ljava/lang/Object;" ⟨"java/lang/Object", "getClass", "()Ljava/lang/Class;"⟩ ⟨"java/lang/Object", "getClass", "()Ljava/lang/Class;"⟩, Cond.instanceMethod ⟨"java/lang/Object", "getClass", "()Ljava/lang/Class;"⟩, Cond.native ⟨"java/lang/Object", "getClass", "()Ljava/lang/Class;"⟩, Cond.methodLink RJ7 300 yJ7_copyOf_6403c, Cond.static yJ7_copyOf_6403c, Cond.code yJ7_copyOf_6403c cJ7_copyOf_6403c 4 (some (.array (.object "java/lang/Object"))), Cond.classLink RJ7 110 "[Ljava/lang/Object;", Cond.classLink RJ7 2 "java/lang/Object", Cond.methodLink RJ7 304 Lib.Math.min.name, Cond.static Lib.Math.min.name, Cond.code Lib.Math.min.name Lib.Math.min.code 2 (some .int), Cond.methodLink RJ7 150 arraycopyName, Cond.native arraycopyName, Cond.static arraycopyName, Cond.initialized "java/lang/System"]
def wsJx4a65c_grow_d5877 : List Cond := .code yJx4a65c_grow_d5877 cJx4a65c_grow_d5877 1 (some (.array (.object "java/lang/Object"))) :: ((wsJx4a65c_grow_d5877_r1 ++ wsJx4a65c_grow_d5877_r2) ++ wsJx4a65c0)
def wsJx4a65c_add_72be8_r1 : List Cond := [Cond.fieldLink RJx4a65c 48 "java/util/ArrayList" "size" "I", Cond.methodLink RJx4a65c 129 yJx4a65c_grow_d5877, Cond.instanceMethod yJx4a65c_grow_d5877, Cond.selects RJx4a65c yJx4a65c_grow_d5877 yJx4a65c_grow_d5877, Cond.initialized RJx4a65c, Cond.code yJx4a65c_grow_d5877 cJx4a65c_grow_d5877 1 (some (.array (.object "java/lang/Object"))), Cond.methodLink RJx4a65c 69 yJx4a65c_grow_92f84, Cond.instanceMethod yJx4a65c_grow_92f84, Cond.selects RJx4a65c yJx4a65c_grow_92f84 yJx4a65c_grow_92f84, Cond.code yJx4a65c_grow_92f84 cJx4a65c_grow_92f84 4 (some (.array (.object "java/lang/Object"))), Cond.fieldLink RJx4a65c 9 "java/util/ArrayList" "elementData" "[Ljava/lang/Object;", Cond.fieldLink RJx4a65c 39 "java/util/ArrayList" "DEFAULTCAPACITY_EMPTY_ELEMENTDATA" "[Ljava/lang/Object;", Cond.methodLink RJx4a65c 79 Lib.Math.max.name, Cond.static Lib.Math.max.name, Cond.initialized "java/lang/Math", Cond.code Lib.Math.max.name Lib.Math.max.code 2 (some .int), Cond.classLink RJx4a65c 7 "java/lang/Object", Cond.methodLink RJx4a65c 73 yJ8_newLength_cabcc, Cond.static yJ8_newLength_cabcc, Cond.initialized RJ8, Cond.code yJ8_newLength_cabcc cJ8_newLength_cabcc 4 (some .int), Cond.methodLink RJ8 194 Lib.Math.max.name, Cond.constant RJ8 200 (2147483639), Cond.methodLink RJ8 201 yJ8_hugeLength_7cf53]
def wsJx4a65c_add_72be8_r2 : List Cond := [Cond.static yJ8_hugeLength_7cf53, Cond.code yJ8_hugeLength_7cf53 cJ8_hugeLength_7cf53 3 (some .int), Cond.methodLink RJx4a65c 66 yJ7_copyOf_1904c, Cond.static yJ7_copyOf_1904c, Cond.initialized RJ7, Cond.code yJ7_copyOf_1904c cJ7_copyOf_1904c 2 (some (.array (.object "java/lang/Object"))), Cond.methodLink RJ7 86 ⟨"java/lang/Object", "getClass", "()Ljava/lang/Class;"⟩, Cond.selects "[Ljava/lang/Object;" ⟨"java/lang/Object", "getClass", "()Ljava/lang/Class;"⟩ ⟨"java/lang/Object", "getClass", "()Ljava/lang/Class;"⟩, Cond.instanceMethod ⟨"java/lang/Object", "getClass", "()Ljava/lang/Class;"⟩, Cond.native ⟨"java/lang/Object", "getClass", "()Ljava/lang/Class;"⟩, Cond.methodLink RJ7 300 yJ7_copyOf_6403c, Cond.static yJ7_copyOf_6403c, Cond.code yJ7_copyOf_6403c cJ7_copyOf_6403c 4 (some (.array (.object "java/lang/Object"))), Cond.classLink RJ7 110 "[Ljava/lang/Object;", Cond.classLink RJ7 2 "java/lang/Object", Cond.methodLink RJ7 304 Lib.Math.min.name, Cond.static Lib.Math.min.name, Cond.code Lib.Math.min.name Lib.Math.min.code 2 (some .int), Cond.methodLink RJ7 150 arraycopyName, Cond.native arraycopyName, Cond.static arraycopyName, Cond.initialized "java/lang/System"]
def wsJx4a65c_add_72be8 : List Cond := .code yJx4a65c_add_72be8 cJx4a65c_add_72be8 4 none :: ((wsJx4a65c_add_72be8_r1 ++ wsJx4a65c_add_72be8_r2) ++ wsJx4a65c0)
def wsJx4a65c_add_9ea2d_r1 : List Cond := [Cond.fieldLink RJx4a65c 63 "java/util/ArrayList" "modCount" "I", Cond.sameField "java/util/ArrayList" "java/util/AbstractList" "modCount" "I", Cond.fieldLink RJx4a65c 9 "java/util/ArrayList" "elementData" "[Ljava/lang/Object;", Cond.fieldLink RJx4a65c 48 "java/util/ArrayList" "size" "I", Cond.methodLink RJx4a65c 131 yJx4a65c_add_72be8, Cond.instanceMethod yJx4a65c_add_72be8, Cond.selects RJx4a65c yJx4a65c_add_72be8 yJx4a65c_add_72be8, Cond.initialized RJx4a65c, Cond.code yJx4a65c_add_72be8 cJx4a65c_add_72be8 4 none, Cond.methodLink RJx4a65c 129 yJx4a65c_grow_d5877, Cond.instanceMethod yJx4a65c_grow_d5877, Cond.selects RJx4a65c yJx4a65c_grow_d5877 yJx4a65c_grow_d5877, Cond.code yJx4a65c_grow_d5877 cJx4a65c_grow_d5877 1 (some (.array (.object "java/lang/Object"))), Cond.methodLink RJx4a65c 69 yJx4a65c_grow_92f84, Cond.instanceMethod yJx4a65c_grow_92f84, Cond.selects RJx4a65c yJx4a65c_grow_92f84 yJx4a65c_grow_92f84, Cond.code yJx4a65c_grow_92f84 cJx4a65c_grow_92f84 4 (some (.array (.object "java/lang/Object"))), Cond.fieldLink RJx4a65c 39 "java/util/ArrayList" "DEFAULTCAPACITY_EMPTY_ELEMENTDATA" "[Ljava/lang/Object;", Cond.methodLink RJx4a65c 79 Lib.Math.max.name, Cond.static Lib.Math.max.name, Cond.initialized "java/lang/Math", Cond.code Lib.Math.max.name Lib.Math.max.code 2 (some .int), Cond.classLink RJx4a65c 7 "java/lang/Object", Cond.methodLink RJx4a65c 73 yJ8_newLength_cabcc]
def wsJx4a65c_add_9ea2d_r2 : List Cond := [Cond.static yJ8_newLength_cabcc, Cond.initialized RJ8, Cond.code yJ8_newLength_cabcc cJ8_newLength_cabcc 4 (some .int), Cond.methodLink RJ8 194 Lib.Math.max.name, Cond.constant RJ8 200 (2147483639), Cond.methodLink RJ8 201 yJ8_hugeLength_7cf53, Cond.static yJ8_hugeLength_7cf53, Cond.code yJ8_hugeLength_7cf53 cJ8_hugeLength_7cf53 3 (some .int), Cond.methodLink RJx4a65c 66 yJ7_copyOf_1904c, Cond.static yJ7_copyOf_1904c, Cond.initialized RJ7, Cond.code yJ7_copyOf_1904c cJ7_copyOf_1904c 2 (some (.array (.object "java/lang/Object"))), Cond.methodLink RJ7 86 ⟨"java/lang/Object", "getClass", "()Ljava/lang/Class;"⟩, Cond.selects "[Ljava/lang/Object;" ⟨"java/lang/Object", "getClass", "()Ljava/lang/Class;"⟩ ⟨"java/lang/Object", "getClass", "()Ljava/lang/Class;"⟩, Cond.instanceMethod ⟨"java/lang/Object", "getClass", "()Ljava/lang/Class;"⟩, Cond.native ⟨"java/lang/Object", "getClass", "()Ljava/lang/Class;"⟩, Cond.methodLink RJ7 300 yJ7_copyOf_6403c, Cond.static yJ7_copyOf_6403c, Cond.code yJ7_copyOf_6403c cJ7_copyOf_6403c 4 (some (.array (.object "java/lang/Object"))), Cond.classLink RJ7 110 "[Ljava/lang/Object;", Cond.classLink RJ7 2 "java/lang/Object", Cond.methodLink RJ7 304 Lib.Math.min.name, Cond.static Lib.Math.min.name, Cond.code Lib.Math.min.name Lib.Math.min.code 2 (some .int)]
def wsJx4a65c_add_9ea2d_r3 : List Cond := [Cond.methodLink RJ7 150 arraycopyName, Cond.native arraycopyName, Cond.static arraycopyName, Cond.initialized "java/lang/System"]
def wsJx4a65c_add_9ea2d : List Cond := .code yJx4a65c_add_9ea2d cJx4a65c_add_9ea2d 2 (some .boolean) :: ((wsJx4a65c_add_9ea2d_r1 ++ (wsJx4a65c_add_9ea2d_r2 ++ wsJx4a65c_add_9ea2d_r3)) ++ wsJx4a65c0)
def wsX1_placeFor_r1 : List Cond := [Cond.fieldLink RX1 16 "DozingDevices" "order" "Ljava/util/ArrayList;", Cond.classLink RX1 69 "DozingDevices$Device", Cond.fieldLink RX1 85 "DozingDevices$Device" "depth" "I", Cond.methodLink RX1 65 yJx4a65c_size_8abf5, Cond.instanceMethod yJx4a65c_size_8abf5, Cond.selects RJx4a65c yJx4a65c_size_8abf5 yJx4a65c_size_8abf5, Cond.initialized RJx4a65c, Cond.code yJx4a65c_size_8abf5 cJx4a65c_size_8abf5 1 (some .int), Cond.fieldLink RJx4a65c 48 "java/util/ArrayList" "size" "I", Cond.methodLink RX1 129 yJx4a65c_get_915e3, Cond.instanceMethod yJx4a65c_get_915e3, Cond.selects RJx4a65c yJx4a65c_get_915e3 yJx4a65c_get_915e3, Cond.code yJx4a65c_get_915e3 cJx4a65c_get_915e3 2 (some (.object "java/lang/Object")), Cond.methodLink RJx4a65c 118 yJ15_checkIndex_7cf53, Cond.static yJ15_checkIndex_7cf53, Cond.initialized RJ15, Cond.code yJ15_checkIndex_7cf53 cJ15_checkIndex_7cf53 2 (some .int), Cond.methodLink RJ15 105 yJ3_checkIndex_8e157, Cond.static yJ3_checkIndex_8e157, Cond.initialized RJ3, Cond.code yJ3_checkIndex_8e157 cJ3_checkIndex_8e157 3 (some .int), Cond.methodLink RJx4a65c 123 yJx4a65c_elementData_915e3, Cond.instanceMethod yJx4a65c_elementData_915e3, Cond.selects RJx4a65c yJx4a65c_elementData_915e3 yJx4a65c_elementData_915e3]
def wsX1_placeFor_r2 : List Cond := [Cond.code yJx4a65c_elementData_915e3 cJx4a65c_elementData_915e3 2 (some (.object "java/lang/Object")), Cond.fieldLink RJx4a65c 9 "java/util/ArrayList" "elementData" "[Ljava/lang/Object;"]
def wsX1_placeFor : List Cond := .code yX1_placeFor cX1_placeFor 4 (some .int) :: ((wsX1_placeFor_r1 ++ wsX1_placeFor_r2) ++ wsX10 ++ wsX00 ++ wsJx4a65c0)
def wsJx4a65c_rangeCheckForAdd_d00df : List Cond := .code yJx4a65c_rangeCheckForAdd_d00df cJx4a65c_rangeCheckForAdd_d00df 2 none :: ([.fieldLink RJx4a65c 48 "java/util/ArrayList" "size" "I"] ++ wsJx4a65c0)
def wsJx4a65c_add_7a177_r1 : List Cond := [Cond.fieldLink RJx4a65c 63 "java/util/ArrayList" "modCount" "I", Cond.sameField "java/util/ArrayList" "java/util/AbstractList" "modCount" "I", Cond.fieldLink RJx4a65c 48 "java/util/ArrayList" "size" "I", Cond.fieldLink RJx4a65c 9 "java/util/ArrayList" "elementData" "[Ljava/lang/Object;", Cond.methodLink RJx4a65c 112 arraycopyName, Cond.native arraycopyName, Cond.static arraycopyName, Cond.initialized "java/lang/System", Cond.methodLink RJx4a65c 135 yJx4a65c_rangeCheckForAdd_d00df, Cond.instanceMethod yJx4a65c_rangeCheckForAdd_d00df, Cond.selects RJx4a65c yJx4a65c_rangeCheckForAdd_d00df yJx4a65c_rangeCheckForAdd_d00df, Cond.initialized RJx4a65c, Cond.code yJx4a65c_rangeCheckForAdd_d00df cJx4a65c_rangeCheckForAdd_d00df 2 none, Cond.methodLink RJx4a65c 129 yJx4a65c_grow_d5877, Cond.instanceMethod yJx4a65c_grow_d5877, Cond.selects RJx4a65c yJx4a65c_grow_d5877 yJx4a65c_grow_d5877, Cond.code yJx4a65c_grow_d5877 cJx4a65c_grow_d5877 1 (some (.array (.object "java/lang/Object"))), Cond.methodLink RJx4a65c 69 yJx4a65c_grow_92f84, Cond.instanceMethod yJx4a65c_grow_92f84, Cond.selects RJx4a65c yJx4a65c_grow_92f84 yJx4a65c_grow_92f84, Cond.code yJx4a65c_grow_92f84 cJx4a65c_grow_92f84 4 (some (.array (.object "java/lang/Object"))), Cond.fieldLink RJx4a65c 39 "java/util/ArrayList" "DEFAULTCAPACITY_EMPTY_ELEMENTDATA" "[Ljava/lang/Object;", Cond.methodLink RJx4a65c 79 Lib.Math.max.name, Cond.static Lib.Math.max.name]
def wsJx4a65c_add_7a177_r2 : List Cond := [Cond.initialized "java/lang/Math", Cond.code Lib.Math.max.name Lib.Math.max.code 2 (some .int), Cond.classLink RJx4a65c 7 "java/lang/Object", Cond.methodLink RJx4a65c 73 yJ8_newLength_cabcc, Cond.static yJ8_newLength_cabcc, Cond.initialized RJ8, Cond.code yJ8_newLength_cabcc cJ8_newLength_cabcc 4 (some .int), Cond.methodLink RJ8 194 Lib.Math.max.name, Cond.constant RJ8 200 (2147483639), Cond.methodLink RJ8 201 yJ8_hugeLength_7cf53, Cond.static yJ8_hugeLength_7cf53, Cond.code yJ8_hugeLength_7cf53 cJ8_hugeLength_7cf53 3 (some .int), Cond.methodLink RJx4a65c 66 yJ7_copyOf_1904c, Cond.static yJ7_copyOf_1904c, Cond.initialized RJ7, Cond.code yJ7_copyOf_1904c cJ7_copyOf_1904c 2 (some (.array (.object "java/lang/Object"))), Cond.methodLink RJ7 86 ⟨"java/lang/Object", "getClass", "()Ljava/lang/Class;"⟩, Cond.selects "[Ljava/lang/Object;" ⟨"java/lang/Object", "getClass", "()Ljava/lang/Class;"⟩ ⟨"java/lang/Object", "getClass", "()Ljava/lang/Class;"⟩, Cond.instanceMethod ⟨"java/lang/Object", "getClass", "()Ljava/lang/Class;"⟩, Cond.native ⟨"java/lang/Object", "getClass", "()Ljava/lang/Class;"⟩, Cond.methodLink RJ7 300 yJ7_copyOf_6403c, Cond.static yJ7_copyOf_6403c, Cond.code yJ7_copyOf_6403c cJ7_copyOf_6403c 4 (some (.array (.object "java/lang/Object"))), Cond.classLink RJ7 110 "[Ljava/lang/Object;"]
def wsJx4a65c_add_7a177_r3 : List Cond := [Cond.classLink RJ7 2 "java/lang/Object", Cond.methodLink RJ7 304 Lib.Math.min.name, Cond.static Lib.Math.min.name, Cond.code Lib.Math.min.name Lib.Math.min.code 2 (some .int), Cond.methodLink RJ7 150 arraycopyName]
def wsJx4a65c_add_7a177 : List Cond := .code yJx4a65c_add_7a177 cJx4a65c_add_7a177 5 none :: ((wsJx4a65c_add_7a177_r1 ++ (wsJx4a65c_add_7a177_r2 ++ wsJx4a65c_add_7a177_r3)) ++ wsJx4a65c0)
def wsX1_turn : List Cond := .code yX1_turn cX1_turn 3 none :: ([.fieldLink RX1 133 "DozingDevices$Device" "state" "I", .fieldLink RX1 54 "DozingDevices" "turns" "I"] ++ wsX00 ++ wsX10)
def wsX1_rouse_r1 : List Cond := [Cond.fieldLink RX1 10 "DozingDevices" "devices" "Ljava/util/ArrayList;", Cond.classLink RX1 69 "DozingDevices$Device", Cond.fieldLink RX1 145 "DozingDevices$Device" "idle" "I", Cond.methodLink RX1 65 yJx4a65c_size_8abf5, Cond.instanceMethod yJx4a65c_size_8abf5, Cond.selects RJx4a65c yJx4a65c_size_8abf5 yJx4a65c_size_8abf5, Cond.initialized RJx4a65c, Cond.code yJx4a65c_size_8abf5 cJx4a65c_size_8abf5 1 (some .int), Cond.fieldLink RJx4a65c 48 "java/util/ArrayList" "size" "I", Cond.methodLink RX1 129 yJx4a65c_get_915e3, Cond.instanceMethod yJx4a65c_get_915e3, Cond.selects RJx4a65c yJx4a65c_get_915e3 yJx4a65c_get_915e3, Cond.code yJx4a65c_get_915e3 cJx4a65c_get_915e3 2 (some (.object "java/lang/Object")), Cond.methodLink RJx4a65c 118 yJ15_checkIndex_7cf53, Cond.static yJ15_checkIndex_7cf53, Cond.initialized RJ15, Cond.code yJ15_checkIndex_7cf53 cJ15_checkIndex_7cf53 2 (some .int), Cond.methodLink RJ15 105 yJ3_checkIndex_8e157, Cond.static yJ3_checkIndex_8e157, Cond.initialized RJ3, Cond.code yJ3_checkIndex_8e157 cJ3_checkIndex_8e157 3 (some .int), Cond.methodLink RJx4a65c 123 yJx4a65c_elementData_915e3, Cond.instanceMethod yJx4a65c_elementData_915e3, Cond.selects RJx4a65c yJx4a65c_elementData_915e3 yJx4a65c_elementData_915e3]
def wsX1_rouse_r2 : List Cond := [Cond.code yJx4a65c_elementData_915e3 cJx4a65c_elementData_915e3 2 (some (.object "java/lang/Object")), Cond.fieldLink RJx4a65c 9 "java/util/ArrayList" "elementData" "[Ljava/lang/Object;", Cond.methodLink RX1 148 yX1_holds, Cond.static yX1_holds, Cond.initialized RX1, Cond.code yX1_holds cX1_holds 2 (some .boolean), Cond.methodLink RX1 111 yX1_bit, Cond.static yX1_bit, Cond.code yX1_bit cX1_bit 1 (some .int), Cond.fieldLink RX1 101 "DozingDevices$Device" "number" "I", Cond.methodLink RX1 158 yX1_turn, Cond.instanceMethod yX1_turn, Cond.selects RX1 yX1_turn yX1_turn, Cond.code yX1_turn cX1_turn 3 none, Cond.fieldLink RX1 133 "DozingDevices$Device" "state" "I", Cond.fieldLink RX1 54 "DozingDevices" "turns" "I"]
def wsX1_rouse : List Cond := .code yX1_rouse cX1_rouse 4 none :: ((wsX1_rouse_r1 ++ wsX1_rouse_r2) ++ wsX10 ++ wsX00 ++ wsJx4a65c0)
def wsX1_device_r1 : List Cond := [Cond.fieldLink RX1 19 "DozingDevices" "phase" "I", Cond.fieldLink RX1 10 "DozingDevices" "devices" "Ljava/util/ArrayList;", Cond.classLink RX1 69 RX0, Cond.instantiable RX0 13, Cond.initialized RX0, Cond.fieldLink RX1 16 "DozingDevices" "order" "Ljava/util/ArrayList;", Cond.fieldLink RX1 85 "DozingDevices$Device" "depth" "I", Cond.fieldLink RX1 94 "DozingDevices$Device" "ancestors" "I", Cond.fieldLink RX1 101 "DozingDevices$Device" "number" "I", Cond.methodLink RX1 57 yX1_areDevices, Cond.instanceMethod yX1_areDevices, Cond.selects RX1 yX1_areDevices yX1_areDevices, Cond.initialized RX1, Cond.code yX1_areDevices cX1_areDevices 2 (some .boolean), Cond.methodLink RX1 65 yJx4a65c_size_8abf5, Cond.instanceMethod yJx4a65c_size_8abf5, Cond.selects RJx4a65c yJx4a65c_size_8abf5 yJx4a65c_size_8abf5, Cond.initialized RJx4a65c, Cond.code yJx4a65c_size_8abf5 cJx4a65c_size_8abf5 1 (some .int), Cond.fieldLink RJx4a65c 48 "java/util/ArrayList" "size" "I", Cond.methodLink RX1 61 yX1_isWithin, Cond.static yX1_isWithin, Cond.code yX1_isWithin cX1_isWithin 3 (some .boolean), Cond.methodLink RX1 71 yX1_withAncestors]
def wsX1_device_r2 : List Cond := [Cond.instanceMethod yX1_withAncestors, Cond.selects RX1 yX1_withAncestors yX1_withAncestors, Cond.code yX1_withAncestors cX1_withAncestors 5 (some .int), Cond.classLink RX1 69 "DozingDevices$Device", Cond.methodLink RX1 129 yJx4a65c_get_915e3, Cond.instanceMethod yJx4a65c_get_915e3, Cond.selects RJx4a65c yJx4a65c_get_915e3 yJx4a65c_get_915e3, Cond.code yJx4a65c_get_915e3 cJx4a65c_get_915e3 2 (some (.object "java/lang/Object")), Cond.methodLink RJx4a65c 118 yJ15_checkIndex_7cf53, Cond.static yJ15_checkIndex_7cf53, Cond.initialized RJ15, Cond.code yJ15_checkIndex_7cf53 cJ15_checkIndex_7cf53 2 (some .int), Cond.methodLink RJ15 105 yJ3_checkIndex_8e157, Cond.static yJ3_checkIndex_8e157, Cond.initialized RJ3, Cond.code yJ3_checkIndex_8e157 cJ3_checkIndex_8e157 3 (some .int), Cond.methodLink RJx4a65c 123 yJx4a65c_elementData_915e3, Cond.instanceMethod yJx4a65c_elementData_915e3, Cond.selects RJx4a65c yJx4a65c_elementData_915e3 yJx4a65c_elementData_915e3, Cond.code yJx4a65c_elementData_915e3 cJx4a65c_elementData_915e3 2 (some (.object "java/lang/Object")), Cond.fieldLink RJx4a65c 9 "java/util/ArrayList" "elementData" "[Ljava/lang/Object;", Cond.methodLink RX1 148 yX1_holds, Cond.static yX1_holds, Cond.code yX1_holds cX1_holds 2 (some .boolean)]
def wsX1_device_r3 : List Cond := [Cond.methodLink RX1 111 yX1_bit, Cond.static yX1_bit, Cond.code yX1_bit cX1_bit 1 (some .int), Cond.methodLink RX1 75 yX1_depthUnder, Cond.instanceMethod yX1_depthUnder, Cond.selects RX1 yX1_depthUnder yX1_depthUnder, Cond.code yX1_depthUnder cX1_depthUnder 5 (some .int), Cond.methodLink RX1 152 Lib.Math.max.name, Cond.static Lib.Math.max.name, Cond.initialized "java/lang/Math", Cond.code Lib.Math.max.name Lib.Math.max.code 2 (some .int), Cond.methodLink RX1 78 yX0_init, Cond.instanceMethod yX0_init, Cond.code yX0_init cX0_init 8 none, Cond.methodLink RX0 3 objectInit, Cond.instanceMethod objectInit, Cond.code objectInit ⟨#[0xb1]⟩ 1 none, Cond.fieldLink RX0 9 "DozingDevices$Device" "state" "I", Cond.fieldLink RX0 15 "DozingDevices$Device" "inMind" "I", Cond.fieldLink RX0 18 "DozingDevices$Device" "uses" "I", Cond.fieldLink RX0 21 "DozingDevices$Device" "idle" "I", Cond.fieldLink RX0 24 "DozingDevices$Device" "refusals" "I", Cond.fieldLink RX0 27 "DozingDevices$Device" "isWaker" "Z", Cond.fieldLink RX0 31 "DozingDevices$Device" "number" "I"]
def wsX1_device_r4 : List Cond := [Cond.fieldLink RX0 34 "DozingDevices$Device" "parents" "I", Cond.fieldLink RX0 37 "DozingDevices$Device" "ancestors" "I", Cond.fieldLink RX0 40 "DozingDevices$Device" "depth" "I", Cond.fieldLink RX0 43 "DozingDevices$Device" "down" "I", Cond.fieldLink RX0 46 "DozingDevices$Device" "up" "I", Cond.fieldLink RX0 49 "DozingDevices$Device" "delay" "I", Cond.methodLink RX1 81 yJx4a65c_add_9ea2d, Cond.instanceMethod yJx4a65c_add_9ea2d, Cond.selects RJx4a65c yJx4a65c_add_9ea2d yJx4a65c_add_9ea2d, Cond.code yJx4a65c_add_9ea2d cJx4a65c_add_9ea2d 2 (some .boolean), Cond.fieldLink RJx4a65c 63 "java/util/ArrayList" "modCount" "I", Cond.sameField "java/util/ArrayList" "java/util/AbstractList" "modCount" "I", Cond.methodLink RJx4a65c 131 yJx4a65c_add_72be8, Cond.instanceMethod yJx4a65c_add_72be8, Cond.selects RJx4a65c yJx4a65c_add_72be8 yJx4a65c_add_72be8, Cond.code yJx4a65c_add_72be8 cJx4a65c_add_72be8 4 none, Cond.methodLink RJx4a65c 129 yJx4a65c_grow_d5877, Cond.instanceMethod yJx4a65c_grow_d5877, Cond.selects RJx4a65c yJx4a65c_grow_d5877 yJx4a65c_grow_d5877, Cond.code yJx4a65c_grow_d5877 cJx4a65c_grow_d5877 1 (some (.array (.object "java/lang/Object"))), Cond.methodLink RJx4a65c 69 yJx4a65c_grow_92f84, Cond.instanceMethod yJx4a65c_grow_92f84, Cond.selects RJx4a65c yJx4a65c_grow_92f84 yJx4a65c_grow_92f84, Cond.code yJx4a65c_grow_92f84 cJx4a65c_grow_92f84 4 (some (.array (.object "java/lang/Object")))]
def wsX1_device_r5 : List Cond := [Cond.fieldLink RJx4a65c 39 "java/util/ArrayList" "DEFAULTCAPACITY_EMPTY_ELEMENTDATA" "[Ljava/lang/Object;", Cond.methodLink RJx4a65c 79 Lib.Math.max.name, Cond.classLink RJx4a65c 7 "java/lang/Object", Cond.methodLink RJx4a65c 73 yJ8_newLength_cabcc, Cond.static yJ8_newLength_cabcc, Cond.initialized RJ8, Cond.code yJ8_newLength_cabcc cJ8_newLength_cabcc 4 (some .int), Cond.methodLink RJ8 194 Lib.Math.max.name, Cond.constant RJ8 200 (2147483639), Cond.methodLink RJ8 201 yJ8_hugeLength_7cf53, Cond.static yJ8_hugeLength_7cf53, Cond.code yJ8_hugeLength_7cf53 cJ8_hugeLength_7cf53 3 (some .int), Cond.methodLink RJx4a65c 66 yJ7_copyOf_1904c, Cond.static yJ7_copyOf_1904c, Cond.initialized RJ7, Cond.code yJ7_copyOf_1904c cJ7_copyOf_1904c 2 (some (.array (.object "java/lang/Object"))), Cond.methodLink RJ7 86 ⟨"java/lang/Object", "getClass", "()Ljava/lang/Class;"⟩, Cond.selects "[Ljava/lang/Object;" ⟨"java/lang/Object", "getClass", "()Ljava/lang/Class;"⟩ ⟨"java/lang/Object", "getClass", "()Ljava/lang/Class;"⟩, Cond.instanceMethod ⟨"java/lang/Object", "getClass", "()Ljava/lang/Class;"⟩, Cond.native ⟨"java/lang/Object", "getClass", "()Ljava/lang/Class;"⟩, Cond.methodLink RJ7 300 yJ7_copyOf_6403c, Cond.static yJ7_copyOf_6403c, Cond.code yJ7_copyOf_6403c cJ7_copyOf_6403c 4 (some (.array (.object "java/lang/Object"))), Cond.classLink RJ7 110 "[Ljava/lang/Object;"]
def wsX1_device_r6 : List Cond := [Cond.classLink RJ7 2 "java/lang/Object", Cond.methodLink RJ7 304 Lib.Math.min.name, Cond.static Lib.Math.min.name, Cond.code Lib.Math.min.name Lib.Math.min.code 2 (some .int), Cond.methodLink RJ7 150 arraycopyName, Cond.native arraycopyName, Cond.static arraycopyName, Cond.initialized "java/lang/System", Cond.methodLink RX1 88 yX1_placeFor, Cond.instanceMethod yX1_placeFor, Cond.selects RX1 yX1_placeFor yX1_placeFor, Cond.code yX1_placeFor cX1_placeFor 4 (some .int), Cond.methodLink RX1 91 yJx4a65c_add_7a177, Cond.instanceMethod yJx4a65c_add_7a177, Cond.selects RJx4a65c yJx4a65c_add_7a177 yJx4a65c_add_7a177, Cond.code yJx4a65c_add_7a177 cJx4a65c_add_7a177 5 none, Cond.methodLink RJx4a65c 112 arraycopyName, Cond.methodLink RJx4a65c 135 yJx4a65c_rangeCheckForAdd_d00df, Cond.instanceMethod yJx4a65c_rangeCheckForAdd_d00df, Cond.selects RJx4a65c yJx4a65c_rangeCheckForAdd_d00df yJx4a65c_rangeCheckForAdd_d00df, Cond.code yJx4a65c_rangeCheckForAdd_d00df cJx4a65c_rangeCheckForAdd_d00df 2 none, Cond.methodLink RX1 97 yX1_rouse, Cond.instanceMethod yX1_rouse, Cond.selects RX1 yX1_rouse yX1_rouse]
def wsX1_device_r7 : List Cond := [Cond.code yX1_rouse cX1_rouse 4 none, Cond.fieldLink RX1 145 "DozingDevices$Device" "idle" "I", Cond.methodLink RX1 158 yX1_turn, Cond.instanceMethod yX1_turn, Cond.selects RX1 yX1_turn yX1_turn, Cond.code yX1_turn cX1_turn 3 none, Cond.fieldLink RX1 133 "DozingDevices$Device" "state" "I", Cond.fieldLink RX1 54 "DozingDevices" "turns" "I"]
def wsX1_device : List Cond := .code yX1_device cX1_device 6 (some .int) :: ((wsX1_device_r1 ++ (wsX1_device_r2 ++ (wsX1_device_r3 ++ (wsX1_device_r4 ++ (wsX1_device_r5 ++ (wsX1_device_r6 ++ wsX1_device_r7)))))) ++ wsX10 ++ wsX00 ++ wsJx4a65c0)
def wsX1_find_r1 : List Cond := [Cond.fieldLink RX1 10 "DozingDevices" "devices" "Ljava/util/ArrayList;", Cond.classLink RX1 69 "DozingDevices$Device", Cond.methodLink RX1 65 yJx4a65c_size_8abf5, Cond.instanceMethod yJx4a65c_size_8abf5, Cond.selects RJx4a65c yJx4a65c_size_8abf5 yJx4a65c_size_8abf5, Cond.initialized RJx4a65c, Cond.code yJx4a65c_size_8abf5 cJx4a65c_size_8abf5 1 (some .int), Cond.fieldLink RJx4a65c 48 "java/util/ArrayList" "size" "I", Cond.methodLink RX1 61 yX1_isWithin, Cond.static yX1_isWithin, Cond.initialized RX1, Cond.code yX1_isWithin cX1_isWithin 3 (some .boolean), Cond.methodLink RX1 129 yJx4a65c_get_915e3, Cond.instanceMethod yJx4a65c_get_915e3, Cond.selects RJx4a65c yJx4a65c_get_915e3 yJx4a65c_get_915e3, Cond.code yJx4a65c_get_915e3 cJx4a65c_get_915e3 2 (some (.object "java/lang/Object")), Cond.methodLink RJx4a65c 118 yJ15_checkIndex_7cf53, Cond.static yJ15_checkIndex_7cf53, Cond.initialized RJ15, Cond.code yJ15_checkIndex_7cf53 cJ15_checkIndex_7cf53 2 (some .int), Cond.methodLink RJ15 105 yJ3_checkIndex_8e157, Cond.static yJ3_checkIndex_8e157, Cond.initialized RJ3, Cond.code yJ3_checkIndex_8e157 cJ3_checkIndex_8e157 3 (some .int)]
def wsX1_find_r2 : List Cond := [Cond.methodLink RJx4a65c 123 yJx4a65c_elementData_915e3, Cond.instanceMethod yJx4a65c_elementData_915e3, Cond.selects RJx4a65c yJx4a65c_elementData_915e3 yJx4a65c_elementData_915e3, Cond.code yJx4a65c_elementData_915e3 cJx4a65c_elementData_915e3 2 (some (.object "java/lang/Object")), Cond.fieldLink RJx4a65c 9 "java/util/ArrayList" "elementData" "[Ljava/lang/Object;"]
def wsX1_find : List Cond := .code yX1_find cX1_find 2 (some (.object "DozingDevices$Device")) :: ((wsX1_find_r1 ++ wsX1_find_r2) ++ wsX10 ++ wsJx4a65c0)
def wsX1_use_r1 : List Cond := [Cond.fieldLink RX1 19 "DozingDevices" "phase" "I", Cond.fieldLink RX1 108 "DozingDevices$Device" "uses" "I", Cond.fieldLink RX1 54 "DozingDevices" "turns" "I", Cond.fieldLink RX1 94 "DozingDevices$Device" "ancestors" "I", Cond.methodLink RX1 104 yX1_find, Cond.instanceMethod yX1_find, Cond.selects RX1 yX1_find yX1_find, Cond.initialized RX1, Cond.code yX1_find cX1_find 2 (some (.object "DozingDevices$Device")), Cond.fieldLink RX1 10 "DozingDevices" "devices" "Ljava/util/ArrayList;", Cond.classLink RX1 69 "DozingDevices$Device", Cond.methodLink RX1 65 yJx4a65c_size_8abf5, Cond.instanceMethod yJx4a65c_size_8abf5, Cond.selects RJx4a65c yJx4a65c_size_8abf5 yJx4a65c_size_8abf5, Cond.initialized RJx4a65c, Cond.code yJx4a65c_size_8abf5 cJx4a65c_size_8abf5 1 (some .int), Cond.fieldLink RJx4a65c 48 "java/util/ArrayList" "size" "I", Cond.methodLink RX1 61 yX1_isWithin, Cond.static yX1_isWithin, Cond.code yX1_isWithin cX1_isWithin 3 (some .boolean), Cond.methodLink RX1 129 yJx4a65c_get_915e3, Cond.instanceMethod yJx4a65c_get_915e3, Cond.selects RJx4a65c yJx4a65c_get_915e3 yJx4a65c_get_915e3, Cond.code yJx4a65c_get_915e3 cJx4a65c_get_915e3 2 (some (.object "java/lang/Object"))]
def wsX1_use_r2 : List Cond := [Cond.methodLink RJx4a65c 118 yJ15_checkIndex_7cf53, Cond.static yJ15_checkIndex_7cf53, Cond.initialized RJ15, Cond.code yJ15_checkIndex_7cf53 cJ15_checkIndex_7cf53 2 (some .int), Cond.methodLink RJ15 105 yJ3_checkIndex_8e157, Cond.static yJ3_checkIndex_8e157, Cond.initialized RJ3, Cond.code yJ3_checkIndex_8e157 cJ3_checkIndex_8e157 3 (some .int), Cond.methodLink RJx4a65c 123 yJx4a65c_elementData_915e3, Cond.instanceMethod yJx4a65c_elementData_915e3, Cond.selects RJx4a65c yJx4a65c_elementData_915e3 yJx4a65c_elementData_915e3, Cond.code yJx4a65c_elementData_915e3 cJx4a65c_elementData_915e3 2 (some (.object "java/lang/Object")), Cond.fieldLink RJx4a65c 9 "java/util/ArrayList" "elementData" "[Ljava/lang/Object;", Cond.methodLink RX1 111 yX1_bit, Cond.static yX1_bit, Cond.code yX1_bit cX1_bit 1 (some .int), Cond.fieldLink RX1 101 "DozingDevices$Device" "number" "I", Cond.methodLink RX1 97 yX1_rouse, Cond.instanceMethod yX1_rouse, Cond.selects RX1 yX1_rouse yX1_rouse, Cond.code yX1_rouse cX1_rouse 4 none, Cond.fieldLink RX1 145 "DozingDevices$Device" "idle" "I", Cond.methodLink RX1 148 yX1_holds, Cond.static yX1_holds]
def wsX1_use_r3 : List Cond := [Cond.code yX1_holds cX1_holds 2 (some .boolean), Cond.methodLink RX1 158 yX1_turn, Cond.instanceMethod yX1_turn, Cond.selects RX1 yX1_turn yX1_turn, Cond.code yX1_turn cX1_turn 3 none, Cond.fieldLink RX1 133 "DozingDevices$Device" "state" "I"]
def wsX1_use : List Cond := .code yX1_use cX1_use 4 (some .int) :: ((wsX1_use_r1 ++ (wsX1_use_r2 ++ wsX1_use_r3)) ++ wsX10 ++ wsX00 ++ wsJx4a65c0)
def wsX1_release_r1 : List Cond := [Cond.fieldLink RX1 19 "DozingDevices" "phase" "I", Cond.fieldLink RX1 108 "DozingDevices$Device" "uses" "I", Cond.methodLink RX1 104 yX1_find, Cond.instanceMethod yX1_find, Cond.selects RX1 yX1_find yX1_find, Cond.initialized RX1, Cond.code yX1_find cX1_find 2 (some (.object "DozingDevices$Device")), Cond.fieldLink RX1 10 "DozingDevices" "devices" "Ljava/util/ArrayList;", Cond.classLink RX1 69 "DozingDevices$Device", Cond.methodLink RX1 65 yJx4a65c_size_8abf5, Cond.instanceMethod yJx4a65c_size_8abf5, Cond.selects RJx4a65c yJx4a65c_size_8abf5 yJx4a65c_size_8abf5, Cond.initialized RJx4a65c, Cond.code yJx4a65c_size_8abf5 cJx4a65c_size_8abf5 1 (some .int), Cond.fieldLink RJx4a65c 48 "java/util/ArrayList" "size" "I", Cond.methodLink RX1 61 yX1_isWithin, Cond.static yX1_isWithin, Cond.code yX1_isWithin cX1_isWithin 3 (some .boolean), Cond.methodLink RX1 129 yJx4a65c_get_915e3, Cond.instanceMethod yJx4a65c_get_915e3, Cond.selects RJx4a65c yJx4a65c_get_915e3 yJx4a65c_get_915e3, Cond.code yJx4a65c_get_915e3 cJx4a65c_get_915e3 2 (some (.object "java/lang/Object")), Cond.methodLink RJx4a65c 118 yJ15_checkIndex_7cf53, Cond.static yJ15_checkIndex_7cf53]
def wsX1_release_r2 : List Cond := [Cond.initialized RJ15, Cond.code yJ15_checkIndex_7cf53 cJ15_checkIndex_7cf53 2 (some .int), Cond.methodLink RJ15 105 yJ3_checkIndex_8e157, Cond.static yJ3_checkIndex_8e157, Cond.initialized RJ3, Cond.code yJ3_checkIndex_8e157 cJ3_checkIndex_8e157 3 (some .int), Cond.methodLink RJx4a65c 123 yJx4a65c_elementData_915e3, Cond.instanceMethod yJx4a65c_elementData_915e3, Cond.selects RJx4a65c yJx4a65c_elementData_915e3 yJx4a65c_elementData_915e3, Cond.code yJx4a65c_elementData_915e3 cJx4a65c_elementData_915e3 2 (some (.object "java/lang/Object")), Cond.fieldLink RJx4a65c 9 "java/util/ArrayList" "elementData" "[Ljava/lang/Object;"]
def wsX1_release : List Cond := .code yX1_release cX1_release 3 (some .int) :: ((wsX1_release_r1 ++ wsX1_release_r2) ++ wsX10 ++ wsX00 ++ wsJx4a65c0)
def wsX1_waker_r1 : List Cond := [Cond.fieldLink RX1 115 "DozingDevices$Device" "isWaker" "Z", Cond.methodLink RX1 104 yX1_find, Cond.instanceMethod yX1_find, Cond.selects RX1 yX1_find yX1_find, Cond.initialized RX1, Cond.code yX1_find cX1_find 2 (some (.object "DozingDevices$Device")), Cond.fieldLink RX1 10 "DozingDevices" "devices" "Ljava/util/ArrayList;", Cond.classLink RX1 69 "DozingDevices$Device", Cond.methodLink RX1 65 yJx4a65c_size_8abf5, Cond.instanceMethod yJx4a65c_size_8abf5, Cond.selects RJx4a65c yJx4a65c_size_8abf5 yJx4a65c_size_8abf5, Cond.initialized RJx4a65c, Cond.code yJx4a65c_size_8abf5 cJx4a65c_size_8abf5 1 (some .int), Cond.fieldLink RJx4a65c 48 "java/util/ArrayList" "size" "I", Cond.methodLink RX1 61 yX1_isWithin, Cond.static yX1_isWithin, Cond.code yX1_isWithin cX1_isWithin 3 (some .boolean), Cond.methodLink RX1 129 yJx4a65c_get_915e3, Cond.instanceMethod yJx4a65c_get_915e3, Cond.selects RJx4a65c yJx4a65c_get_915e3 yJx4a65c_get_915e3, Cond.code yJx4a65c_get_915e3 cJx4a65c_get_915e3 2 (some (.object "java/lang/Object")), Cond.methodLink RJx4a65c 118 yJ15_checkIndex_7cf53, Cond.static yJ15_checkIndex_7cf53, Cond.initialized RJ15]
def wsX1_waker_r2 : List Cond := [Cond.code yJ15_checkIndex_7cf53 cJ15_checkIndex_7cf53 2 (some .int), Cond.methodLink RJ15 105 yJ3_checkIndex_8e157, Cond.static yJ3_checkIndex_8e157, Cond.initialized RJ3, Cond.code yJ3_checkIndex_8e157 cJ3_checkIndex_8e157 3 (some .int), Cond.methodLink RJx4a65c 123 yJx4a65c_elementData_915e3, Cond.instanceMethod yJx4a65c_elementData_915e3, Cond.selects RJx4a65c yJx4a65c_elementData_915e3 yJx4a65c_elementData_915e3, Cond.code yJx4a65c_elementData_915e3 cJx4a65c_elementData_915e3 2 (some (.object "java/lang/Object")), Cond.fieldLink RJx4a65c 9 "java/util/ArrayList" "elementData" "[Ljava/lang/Object;"]
def wsX1_waker : List Cond := .code yX1_waker cX1_waker 4 (some .boolean) :: ((wsX1_waker_r1 ++ wsX1_waker_r2) ++ wsX00 ++ wsX10 ++ wsJx4a65c0)
def wsX1_refuse_r1 : List Cond := [Cond.fieldLink RX1 119 "DozingDevices$Device" "refusals" "I", Cond.methodLink RX1 104 yX1_find, Cond.instanceMethod yX1_find, Cond.selects RX1 yX1_find yX1_find, Cond.initialized RX1, Cond.code yX1_find cX1_find 2 (some (.object "DozingDevices$Device")), Cond.fieldLink RX1 10 "DozingDevices" "devices" "Ljava/util/ArrayList;", Cond.classLink RX1 69 "DozingDevices$Device", Cond.methodLink RX1 65 yJx4a65c_size_8abf5, Cond.instanceMethod yJx4a65c_size_8abf5, Cond.selects RJx4a65c yJx4a65c_size_8abf5 yJx4a65c_size_8abf5, Cond.initialized RJx4a65c, Cond.code yJx4a65c_size_8abf5 cJx4a65c_size_8abf5 1 (some .int), Cond.fieldLink RJx4a65c 48 "java/util/ArrayList" "size" "I", Cond.methodLink RX1 61 yX1_isWithin, Cond.static yX1_isWithin, Cond.code yX1_isWithin cX1_isWithin 3 (some .boolean), Cond.methodLink RX1 129 yJx4a65c_get_915e3, Cond.instanceMethod yJx4a65c_get_915e3, Cond.selects RJx4a65c yJx4a65c_get_915e3 yJx4a65c_get_915e3, Cond.code yJx4a65c_get_915e3 cJx4a65c_get_915e3 2 (some (.object "java/lang/Object")), Cond.methodLink RJx4a65c 118 yJ15_checkIndex_7cf53, Cond.static yJ15_checkIndex_7cf53, Cond.initialized RJ15]
def wsX1_refuse_r2 : List Cond := [Cond.code yJ15_checkIndex_7cf53 cJ15_checkIndex_7cf53 2 (some .int), Cond.methodLink RJ15 105 yJ3_checkIndex_8e157, Cond.static yJ3_checkIndex_8e157, Cond.initialized RJ3, Cond.code yJ3_checkIndex_8e157 cJ3_checkIndex_8e157 3 (some .int), Cond.methodLink RJx4a65c 123 yJx4a65c_elementData_915e3, Cond.instanceMethod yJx4a65c_elementData_915e3, Cond.selects RJx4a65c yJx4a65c_elementData_915e3 yJx4a65c_elementData_915e3, Cond.code yJx4a65c_elementData_915e3 cJx4a65c_elementData_915e3 2 (some (.object "java/lang/Object")), Cond.fieldLink RJx4a65c 9 "java/util/ArrayList" "elementData" "[Ljava/lang/Object;"]
def wsX1_refuse : List Cond := .code yX1_refuse cX1_refuse 4 (some .boolean) :: ((wsX1_refuse_r1 ++ wsX1_refuse_r2) ++ wsX00 ++ wsX10 ++ wsJx4a65c0)
def wsX1_makeDue : List Cond := .code yX1_makeDue cX1_makeDue 3 none :: ([.fieldLink RX1 23 "DozingDevices" "dueDevice" "LDozingDevices$Device;", .fieldLink RX1 27 "DozingDevices" "ticksLeft" "I"] ++ wsX10)
def wsX1_endDue : List Cond := .code yX1_endDue cX1_endDue 1 none :: ([.fieldLink RX1 23 "DozingDevices" "dueDevice" "LDozingDevices$Device;", .fieldLink RX1 27 "DozingDevices" "ticksLeft" "I"] ++ wsX10)
def wsX1_comeFurtherBack_r1 : List Cond := [Cond.fieldLink RX1 16 "DozingDevices" "order" "Ljava/util/ArrayList;", Cond.classLink RX1 69 "DozingDevices$Device", Cond.fieldLink RX1 133 "DozingDevices$Device" "state" "I", Cond.fieldLink RX1 136 "DozingDevices$Device" "inMind" "I", Cond.fieldLink RX1 174 "DozingDevices$Device" "up" "I", Cond.fieldLink RX1 19 "DozingDevices" "phase" "I", Cond.methodLink RX1 65 yJx4a65c_size_8abf5, Cond.instanceMethod yJx4a65c_size_8abf5, Cond.selects RJx4a65c yJx4a65c_size_8abf5 yJx4a65c_size_8abf5, Cond.initialized RJx4a65c, Cond.code yJx4a65c_size_8abf5 cJx4a65c_size_8abf5 1 (some .int), Cond.fieldLink RJx4a65c 48 "java/util/ArrayList" "size" "I", Cond.methodLink RX1 129 yJx4a65c_get_915e3, Cond.instanceMethod yJx4a65c_get_915e3, Cond.selects RJx4a65c yJx4a65c_get_915e3 yJx4a65c_get_915e3, Cond.code yJx4a65c_get_915e3 cJx4a65c_get_915e3 2 (some (.object "java/lang/Object")), Cond.methodLink RJx4a65c 118 yJ15_checkIndex_7cf53, Cond.static yJ15_checkIndex_7cf53, Cond.initialized RJ15, Cond.code yJ15_checkIndex_7cf53 cJ15_checkIndex_7cf53 2 (some .int), Cond.methodLink RJ15 105 yJ3_checkIndex_8e157, Cond.static yJ3_checkIndex_8e157, Cond.initialized RJ3, Cond.code yJ3_checkIndex_8e157 cJ3_checkIndex_8e157 3 (some .int)]
def wsX1_comeFurtherBack_r2 : List Cond := [Cond.methodLink RJx4a65c 123 yJx4a65c_elementData_915e3, Cond.instanceMethod yJx4a65c_elementData_915e3, Cond.selects RJx4a65c yJx4a65c_elementData_915e3 yJx4a65c_elementData_915e3, Cond.code yJx4a65c_elementData_915e3 cJx4a65c_elementData_915e3 2 (some (.object "java/lang/Object")), Cond.fieldLink RJx4a65c 9 "java/util/ArrayList" "elementData" "[Ljava/lang/Object;", Cond.methodLink RX1 165 yX1_makeDue, Cond.instanceMethod yX1_makeDue, Cond.selects RX1 yX1_makeDue yX1_makeDue, Cond.initialized RX1, Cond.code yX1_makeDue cX1_makeDue 3 none, Cond.fieldLink RX1 23 "DozingDevices" "dueDevice" "LDozingDevices$Device;", Cond.fieldLink RX1 27 "DozingDevices" "ticksLeft" "I", Cond.methodLink RX1 158 yX1_turn, Cond.instanceMethod yX1_turn, Cond.selects RX1 yX1_turn yX1_turn, Cond.code yX1_turn cX1_turn 3 none, Cond.fieldLink RX1 54 "DozingDevices" "turns" "I", Cond.methodLink RX1 168 yX1_endDue, Cond.instanceMethod yX1_endDue, Cond.selects RX1 yX1_endDue yX1_endDue, Cond.code yX1_endDue cX1_endDue 1 none]
def wsX1_comeFurtherBack : List Cond := .code yX1_comeFurtherBack cX1_comeFurtherBack 3 none :: ((wsX1_comeFurtherBack_r1 ++ wsX1_comeFurtherBack_r2) ++ wsX10 ++ wsX00 ++ wsJx4a65c0)
def wsX1_comeBack_r1 : List Cond := [Cond.fieldLink RX1 19 "DozingDevices" "phase" "I", Cond.methodLink RX1 171 yX1_comeFurtherBack, Cond.instanceMethod yX1_comeFurtherBack, Cond.selects RX1 yX1_comeFurtherBack yX1_comeFurtherBack, Cond.initialized RX1, Cond.code yX1_comeFurtherBack cX1_comeFurtherBack 3 none, Cond.fieldLink RX1 16 "DozingDevices" "order" "Ljava/util/ArrayList;", Cond.classLink RX1 69 "DozingDevices$Device", Cond.fieldLink RX1 133 "DozingDevices$Device" "state" "I", Cond.fieldLink RX1 136 "DozingDevices$Device" "inMind" "I", Cond.fieldLink RX1 174 "DozingDevices$Device" "up" "I", Cond.methodLink RX1 65 yJx4a65c_size_8abf5, Cond.instanceMethod yJx4a65c_size_8abf5, Cond.selects RJx4a65c yJx4a65c_size_8abf5 yJx4a65c_size_8abf5, Cond.initialized RJx4a65c, Cond.code yJx4a65c_size_8abf5 cJx4a65c_size_8abf5 1 (some .int), Cond.fieldLink RJx4a65c 48 "java/util/ArrayList" "size" "I", Cond.methodLink RX1 129 yJx4a65c_get_915e3, Cond.instanceMethod yJx4a65c_get_915e3, Cond.selects RJx4a65c yJx4a65c_get_915e3 yJx4a65c_get_915e3, Cond.code yJx4a65c_get_915e3 cJx4a65c_get_915e3 2 (some (.object "java/lang/Object")), Cond.methodLink RJx4a65c 118 yJ15_checkIndex_7cf53, Cond.static yJ15_checkIndex_7cf53, Cond.initialized RJ15]
def wsX1_comeBack_r2 : List Cond := [Cond.code yJ15_checkIndex_7cf53 cJ15_checkIndex_7cf53 2 (some .int), Cond.methodLink RJ15 105 yJ3_checkIndex_8e157, Cond.static yJ3_checkIndex_8e157, Cond.initialized RJ3, Cond.code yJ3_checkIndex_8e157 cJ3_checkIndex_8e157 3 (some .int), Cond.methodLink RJx4a65c 123 yJx4a65c_elementData_915e3, Cond.instanceMethod yJx4a65c_elementData_915e3, Cond.selects RJx4a65c yJx4a65c_elementData_915e3 yJx4a65c_elementData_915e3, Cond.code yJx4a65c_elementData_915e3 cJx4a65c_elementData_915e3 2 (some (.object "java/lang/Object")), Cond.fieldLink RJx4a65c 9 "java/util/ArrayList" "elementData" "[Ljava/lang/Object;", Cond.methodLink RX1 165 yX1_makeDue, Cond.instanceMethod yX1_makeDue, Cond.selects RX1 yX1_makeDue yX1_makeDue, Cond.code yX1_makeDue cX1_makeDue 3 none, Cond.fieldLink RX1 23 "DozingDevices" "dueDevice" "LDozingDevices$Device;", Cond.fieldLink RX1 27 "DozingDevices" "ticksLeft" "I", Cond.methodLink RX1 158 yX1_turn, Cond.instanceMethod yX1_turn, Cond.selects RX1 yX1_turn yX1_turn, Cond.code yX1_turn cX1_turn 3 none, Cond.fieldLink RX1 54 "DozingDevices" "turns" "I", Cond.methodLink RX1 168 yX1_endDue, Cond.instanceMethod yX1_endDue, Cond.selects RX1 yX1_endDue yX1_endDue]
def wsX1_comeBack_r3 : List Cond := [Cond.code yX1_endDue cX1_endDue 1 none]
def wsX1_comeBack : List Cond := .code yX1_comeBack cX1_comeBack 2 none :: ((wsX1_comeBack_r1 ++ (wsX1_comeBack_r2 ++ wsX1_comeBack_r3)) ++ wsX10 ++ wsX00 ++ wsJx4a65c0)
def wsX1_giveUp_r1 : List Cond := [Cond.fieldLink RX1 45 "DozingDevices" "givenUp" "I", Cond.fieldLink RX1 48 "DozingDevices" "reason" "I", Cond.fieldLink RX1 101 "DozingDevices$Device" "number" "I", Cond.fieldLink RX1 51 "DozingDevices" "namedDevice" "I", Cond.methodLink RX1 122 yX1_comeBack, Cond.instanceMethod yX1_comeBack, Cond.selects RX1 yX1_comeBack yX1_comeBack, Cond.initialized RX1, Cond.code yX1_comeBack cX1_comeBack 2 none, Cond.fieldLink RX1 19 "DozingDevices" "phase" "I", Cond.methodLink RX1 171 yX1_comeFurtherBack, Cond.instanceMethod yX1_comeFurtherBack, Cond.selects RX1 yX1_comeFurtherBack yX1_comeFurtherBack, Cond.code yX1_comeFurtherBack cX1_comeFurtherBack 3 none, Cond.fieldLink RX1 16 "DozingDevices" "order" "Ljava/util/ArrayList;", Cond.classLink RX1 69 "DozingDevices$Device", Cond.fieldLink RX1 133 "DozingDevices$Device" "state" "I", Cond.fieldLink RX1 136 "DozingDevices$Device" "inMind" "I", Cond.fieldLink RX1 174 "DozingDevices$Device" "up" "I", Cond.methodLink RX1 65 yJx4a65c_size_8abf5, Cond.instanceMethod yJx4a65c_size_8abf5, Cond.selects RJx4a65c yJx4a65c_size_8abf5 yJx4a65c_size_8abf5, Cond.initialized RJx4a65c, Cond.code yJx4a65c_size_8abf5 cJx4a65c_size_8abf5 1 (some .int)]
def wsX1_giveUp_r2 : List Cond := [Cond.fieldLink RJx4a65c 48 "java/util/ArrayList" "size" "I", Cond.methodLink RX1 129 yJx4a65c_get_915e3, Cond.instanceMethod yJx4a65c_get_915e3, Cond.selects RJx4a65c yJx4a65c_get_915e3 yJx4a65c_get_915e3, Cond.code yJx4a65c_get_915e3 cJx4a65c_get_915e3 2 (some (.object "java/lang/Object")), Cond.methodLink RJx4a65c 118 yJ15_checkIndex_7cf53, Cond.static yJ15_checkIndex_7cf53, Cond.initialized RJ15, Cond.code yJ15_checkIndex_7cf53 cJ15_checkIndex_7cf53 2 (some .int), Cond.methodLink RJ15 105 yJ3_checkIndex_8e157, Cond.static yJ3_checkIndex_8e157, Cond.initialized RJ3, Cond.code yJ3_checkIndex_8e157 cJ3_checkIndex_8e157 3 (some .int), Cond.methodLink RJx4a65c 123 yJx4a65c_elementData_915e3, Cond.instanceMethod yJx4a65c_elementData_915e3, Cond.selects RJx4a65c yJx4a65c_elementData_915e3 yJx4a65c_elementData_915e3, Cond.code yJx4a65c_elementData_915e3 cJx4a65c_elementData_915e3 2 (some (.object "java/lang/Object")), Cond.fieldLink RJx4a65c 9 "java/util/ArrayList" "elementData" "[Ljava/lang/Object;", Cond.methodLink RX1 165 yX1_makeDue, Cond.instanceMethod yX1_makeDue, Cond.selects RX1 yX1_makeDue yX1_makeDue, Cond.code yX1_makeDue cX1_makeDue 3 none, Cond.fieldLink RX1 23 "DozingDevices" "dueDevice" "LDozingDevices$Device;", Cond.fieldLink RX1 27 "DozingDevices" "ticksLeft" "I"]
def wsX1_giveUp_r3 : List Cond := [Cond.methodLink RX1 158 yX1_turn, Cond.instanceMethod yX1_turn, Cond.selects RX1 yX1_turn yX1_turn, Cond.code yX1_turn cX1_turn 3 none, Cond.fieldLink RX1 54 "DozingDevices" "turns" "I", Cond.methodLink RX1 168 yX1_endDue, Cond.instanceMethod yX1_endDue, Cond.selects RX1 yX1_endDue yX1_endDue, Cond.code yX1_endDue cX1_endDue 1 none]
def wsX1_giveUp : List Cond := .code yX1_giveUp cX1_giveUp 3 none :: ((wsX1_giveUp_r1 ++ (wsX1_giveUp_r2 ++ wsX1_giveUp_r3)) ++ wsX10 ++ wsX00 ++ wsJx4a65c0)
def wsX1_signal_r1 : List Cond := [Cond.fieldLink RX1 115 "DozingDevices$Device" "isWaker" "Z", Cond.fieldLink RX1 19 "DozingDevices" "phase" "I", Cond.methodLink RX1 104 yX1_find, Cond.instanceMethod yX1_find, Cond.selects RX1 yX1_find yX1_find, Cond.initialized RX1, Cond.code yX1_find cX1_find 2 (some (.object "DozingDevices$Device")), Cond.fieldLink RX1 10 "DozingDevices" "devices" "Ljava/util/ArrayList;", Cond.classLink RX1 69 "DozingDevices$Device", Cond.methodLink RX1 65 yJx4a65c_size_8abf5, Cond.instanceMethod yJx4a65c_size_8abf5, Cond.selects RJx4a65c yJx4a65c_size_8abf5 yJx4a65c_size_8abf5, Cond.initialized RJx4a65c, Cond.code yJx4a65c_size_8abf5 cJx4a65c_size_8abf5 1 (some .int), Cond.fieldLink RJx4a65c 48 "java/util/ArrayList" "size" "I", Cond.methodLink RX1 61 yX1_isWithin, Cond.static yX1_isWithin, Cond.code yX1_isWithin cX1_isWithin 3 (some .boolean), Cond.methodLink RX1 129 yJx4a65c_get_915e3, Cond.instanceMethod yJx4a65c_get_915e3, Cond.selects RJx4a65c yJx4a65c_get_915e3 yJx4a65c_get_915e3, Cond.code yJx4a65c_get_915e3 cJx4a65c_get_915e3 2 (some (.object "java/lang/Object")), Cond.methodLink RJx4a65c 118 yJ15_checkIndex_7cf53, Cond.static yJ15_checkIndex_7cf53]
def wsX1_signal_r2 : List Cond := [Cond.initialized RJ15, Cond.code yJ15_checkIndex_7cf53 cJ15_checkIndex_7cf53 2 (some .int), Cond.methodLink RJ15 105 yJ3_checkIndex_8e157, Cond.static yJ3_checkIndex_8e157, Cond.initialized RJ3, Cond.code yJ3_checkIndex_8e157 cJ3_checkIndex_8e157 3 (some .int), Cond.methodLink RJx4a65c 123 yJx4a65c_elementData_915e3, Cond.instanceMethod yJx4a65c_elementData_915e3, Cond.selects RJx4a65c yJx4a65c_elementData_915e3 yJx4a65c_elementData_915e3, Cond.code yJx4a65c_elementData_915e3 cJx4a65c_elementData_915e3 2 (some (.object "java/lang/Object")), Cond.fieldLink RJx4a65c 9 "java/util/ArrayList" "elementData" "[Ljava/lang/Object;", Cond.methodLink RX1 122 yX1_comeBack, Cond.instanceMethod yX1_comeBack, Cond.selects RX1 yX1_comeBack yX1_comeBack, Cond.code yX1_comeBack cX1_comeBack 2 none, Cond.methodLink RX1 171 yX1_comeFurtherBack, Cond.instanceMethod yX1_comeFurtherBack, Cond.selects RX1 yX1_comeFurtherBack yX1_comeFurtherBack, Cond.code yX1_comeFurtherBack cX1_comeFurtherBack 3 none, Cond.fieldLink RX1 16 "DozingDevices" "order" "Ljava/util/ArrayList;", Cond.fieldLink RX1 133 "DozingDevices$Device" "state" "I", Cond.fieldLink RX1 136 "DozingDevices$Device" "inMind" "I", Cond.fieldLink RX1 174 "DozingDevices$Device" "up" "I", Cond.methodLink RX1 165 yX1_makeDue]
def wsX1_signal_r3 : List Cond := [Cond.instanceMethod yX1_makeDue, Cond.selects RX1 yX1_makeDue yX1_makeDue, Cond.code yX1_makeDue cX1_makeDue 3 none, Cond.fieldLink RX1 23 "DozingDevices" "dueDevice" "LDozingDevices$Device;", Cond.fieldLink RX1 27 "DozingDevices" "ticksLeft" "I", Cond.methodLink RX1 158 yX1_turn, Cond.instanceMethod yX1_turn, Cond.selects RX1 yX1_turn yX1_turn, Cond.code yX1_turn cX1_turn 3 none, Cond.fieldLink RX1 54 "DozingDevices" "turns" "I", Cond.methodLink RX1 168 yX1_endDue, Cond.instanceMethod yX1_endDue, Cond.selects RX1 yX1_endDue yX1_endDue, Cond.code yX1_endDue cX1_endDue 1 none, Cond.methodLink RX1 125 yX1_giveUp, Cond.instanceMethod yX1_giveUp, Cond.selects RX1 yX1_giveUp yX1_giveUp, Cond.code yX1_giveUp cX1_giveUp 3 none, Cond.fieldLink RX1 45 "DozingDevices" "givenUp" "I", Cond.fieldLink RX1 48 "DozingDevices" "reason" "I", Cond.fieldLink RX1 101 "DozingDevices$Device" "number" "I", Cond.fieldLink RX1 51 "DozingDevices" "namedDevice" "I"]
def wsX1_signal : List Cond := .code yX1_signal cX1_signal 3 (some .int) :: ((wsX1_signal_r1 ++ (wsX1_signal_r2 ++ wsX1_signal_r3)) ++ wsX00 ++ wsX10 ++ wsJx4a65c0)
def wsX1_sinkFurther_r1 : List Cond := [Cond.fieldLink RX1 16 "DozingDevices" "order" "Ljava/util/ArrayList;", Cond.classLink RX1 69 "DozingDevices$Device", Cond.fieldLink RX1 133 "DozingDevices$Device" "state" "I", Cond.fieldLink RX1 162 "DozingDevices$Device" "down" "I", Cond.fieldLink RX1 19 "DozingDevices" "phase" "I", Cond.fieldLink RX1 42 "DozingDevices" "timesAsleep" "I", Cond.methodLink RX1 65 yJx4a65c_size_8abf5, Cond.instanceMethod yJx4a65c_size_8abf5, Cond.selects RJx4a65c yJx4a65c_size_8abf5 yJx4a65c_size_8abf5, Cond.initialized RJx4a65c, Cond.code yJx4a65c_size_8abf5 cJx4a65c_size_8abf5 1 (some .int), Cond.fieldLink RJx4a65c 48 "java/util/ArrayList" "size" "I", Cond.methodLink RX1 129 yJx4a65c_get_915e3, Cond.instanceMethod yJx4a65c_get_915e3, Cond.selects RJx4a65c yJx4a65c_get_915e3 yJx4a65c_get_915e3, Cond.code yJx4a65c_get_915e3 cJx4a65c_get_915e3 2 (some (.object "java/lang/Object")), Cond.methodLink RJx4a65c 118 yJ15_checkIndex_7cf53, Cond.static yJ15_checkIndex_7cf53, Cond.initialized RJ15, Cond.code yJ15_checkIndex_7cf53 cJ15_checkIndex_7cf53 2 (some .int), Cond.methodLink RJ15 105 yJ3_checkIndex_8e157, Cond.static yJ3_checkIndex_8e157, Cond.initialized RJ3, Cond.code yJ3_checkIndex_8e157 cJ3_checkIndex_8e157 3 (some .int)]
def wsX1_sinkFurther_r2 : List Cond := [Cond.methodLink RJx4a65c 123 yJx4a65c_elementData_915e3, Cond.instanceMethod yJx4a65c_elementData_915e3, Cond.selects RJx4a65c yJx4a65c_elementData_915e3 yJx4a65c_elementData_915e3, Cond.code yJx4a65c_elementData_915e3 cJx4a65c_elementData_915e3 2 (some (.object "java/lang/Object")), Cond.fieldLink RJx4a65c 9 "java/util/ArrayList" "elementData" "[Ljava/lang/Object;", Cond.methodLink RX1 165 yX1_makeDue, Cond.instanceMethod yX1_makeDue, Cond.selects RX1 yX1_makeDue yX1_makeDue, Cond.initialized RX1, Cond.code yX1_makeDue cX1_makeDue 3 none, Cond.fieldLink RX1 23 "DozingDevices" "dueDevice" "LDozingDevices$Device;", Cond.fieldLink RX1 27 "DozingDevices" "ticksLeft" "I", Cond.methodLink RX1 158 yX1_turn, Cond.instanceMethod yX1_turn, Cond.selects RX1 yX1_turn yX1_turn, Cond.code yX1_turn cX1_turn 3 none, Cond.fieldLink RX1 54 "DozingDevices" "turns" "I", Cond.methodLink RX1 168 yX1_endDue, Cond.instanceMethod yX1_endDue, Cond.selects RX1 yX1_endDue yX1_endDue, Cond.code yX1_endDue cX1_endDue 1 none]
def wsX1_sinkFurther : List Cond := .code yX1_sinkFurther cX1_sinkFurther 3 none :: ((wsX1_sinkFurther_r1 ++ wsX1_sinkFurther_r2) ++ wsX10 ++ wsX00 ++ wsJx4a65c0)
def wsX1_sleep_r1 : List Cond := [Cond.fieldLink RX1 19 "DozingDevices" "phase" "I", Cond.fieldLink RX1 10 "DozingDevices" "devices" "Ljava/util/ArrayList;", Cond.classLink RX1 69 "DozingDevices$Device", Cond.fieldLink RX1 133 "DozingDevices$Device" "state" "I", Cond.fieldLink RX1 136 "DozingDevices$Device" "inMind" "I", Cond.methodLink RX1 65 yJx4a65c_size_8abf5, Cond.instanceMethod yJx4a65c_size_8abf5, Cond.selects RJx4a65c yJx4a65c_size_8abf5 yJx4a65c_size_8abf5, Cond.initialized RJx4a65c, Cond.code yJx4a65c_size_8abf5 cJx4a65c_size_8abf5 1 (some .int), Cond.fieldLink RJx4a65c 48 "java/util/ArrayList" "size" "I", Cond.methodLink RX1 129 yJx4a65c_get_915e3, Cond.instanceMethod yJx4a65c_get_915e3, Cond.selects RJx4a65c yJx4a65c_get_915e3 yJx4a65c_get_915e3, Cond.code yJx4a65c_get_915e3 cJx4a65c_get_915e3 2 (some (.object "java/lang/Object")), Cond.methodLink RJx4a65c 118 yJ15_checkIndex_7cf53, Cond.static yJ15_checkIndex_7cf53, Cond.initialized RJ15, Cond.code yJ15_checkIndex_7cf53 cJ15_checkIndex_7cf53 2 (some .int), Cond.methodLink RJ15 105 yJ3_checkIndex_8e157, Cond.static yJ3_checkIndex_8e157, Cond.initialized RJ3, Cond.code yJ3_checkIndex_8e157 cJ3_checkIndex_8e157 3 (some .int), Cond.methodLink RJx4a65c 123 yJx4a65c_elementData_915e3]
def wsX1_sleep_r2 : List Cond := [Cond.instanceMethod yJx4a65c_elementData_915e3, Cond.selects RJx4a65c yJx4a65c_elementData_915e3 yJx4a65c_elementData_915e3, Cond.code yJx4a65c_elementData_915e3 cJx4a65c_elementData_915e3 2 (some (.object "java/lang/Object")), Cond.fieldLink RJx4a65c 9 "java/util/ArrayList" "elementData" "[Ljava/lang/Object;", Cond.methodLink RX1 139 yX1_sinkFurther, Cond.instanceMethod yX1_sinkFurther, Cond.selects RX1 yX1_sinkFurther yX1_sinkFurther, Cond.initialized RX1, Cond.code yX1_sinkFurther cX1_sinkFurther 3 none, Cond.fieldLink RX1 16 "DozingDevices" "order" "Ljava/util/ArrayList;", Cond.fieldLink RX1 162 "DozingDevices$Device" "down" "I", Cond.fieldLink RX1 42 "DozingDevices" "timesAsleep" "I", Cond.methodLink RX1 165 yX1_makeDue, Cond.instanceMethod yX1_makeDue, Cond.selects RX1 yX1_makeDue yX1_makeDue, Cond.code yX1_makeDue cX1_makeDue 3 none, Cond.fieldLink RX1 23 "DozingDevices" "dueDevice" "LDozingDevices$Device;", Cond.fieldLink RX1 27 "DozingDevices" "ticksLeft" "I", Cond.methodLink RX1 158 yX1_turn, Cond.instanceMethod yX1_turn, Cond.selects RX1 yX1_turn yX1_turn, Cond.code yX1_turn cX1_turn 3 none, Cond.fieldLink RX1 54 "DozingDevices" "turns" "I", Cond.methodLink RX1 168 yX1_endDue]
def wsX1_sleep_r3 : List Cond := [Cond.instanceMethod yX1_endDue, Cond.selects RX1 yX1_endDue yX1_endDue, Cond.code yX1_endDue cX1_endDue 1 none]
def wsX1_sleep : List Cond := .code yX1_sleep cX1_sleep 3 (some .int) :: ((wsX1_sleep_r1 ++ (wsX1_sleep_r2 ++ wsX1_sleep_r3)) ++ wsX10 ++ wsX00 ++ wsJx4a65c0)
def wsX1_watch : List Cond := .code yX1_watch cX1_watch 2 (some .boolean) :: ([.fieldLink RX1 33 "DozingDevices" "watchLimit" "I", .fieldLink RX1 36 "DozingDevices" "sinceKick" "I", .methodLink RX1 61 yX1_isWithin, .static yX1_isWithin, .initialized RX1, .code yX1_isWithin cX1_isWithin 3 (some .boolean)] ++ wsX10)
def wsX1_kick : List Cond := .code yX1_kick cX1_kick 2 (some .int) :: ([.fieldLink RX1 36 "DozingDevices" "sinceKick" "I"] ++ wsX10)
def wsX1_watchBites : List Cond := .code yX1_watchBites cX1_watchBites 1 (some .boolean) :: ([.fieldLink RX1 33 "DozingDevices" "watchLimit" "I", .fieldLink RX1 19 "DozingDevices" "phase" "I", .fieldLink RX1 36 "DozingDevices" "sinceKick" "I"] ++ wsX10)
def wsX1_resetAll_r1 : List Cond := [Cond.fieldLink RX1 10 "DozingDevices" "devices" "Ljava/util/ArrayList;", Cond.classLink RX1 69 "DozingDevices$Device", Cond.fieldLink RX1 108 "DozingDevices$Device" "uses" "I", Cond.fieldLink RX1 145 "DozingDevices$Device" "idle" "I", Cond.fieldLink RX1 19 "DozingDevices" "phase" "I", Cond.fieldLink RX1 51 "DozingDevices" "namedDevice" "I", Cond.fieldLink RX1 48 "DozingDevices" "reason" "I", Cond.fieldLink RX1 36 "DozingDevices" "sinceKick" "I", Cond.fieldLink RX1 39 "DozingDevices" "resets" "I", Cond.methodLink RX1 65 yJx4a65c_size_8abf5, Cond.instanceMethod yJx4a65c_size_8abf5, Cond.selects RJx4a65c yJx4a65c_size_8abf5 yJx4a65c_size_8abf5, Cond.initialized RJx4a65c, Cond.code yJx4a65c_size_8abf5 cJx4a65c_size_8abf5 1 (some .int), Cond.fieldLink RJx4a65c 48 "java/util/ArrayList" "size" "I", Cond.methodLink RX1 129 yJx4a65c_get_915e3, Cond.instanceMethod yJx4a65c_get_915e3, Cond.selects RJx4a65c yJx4a65c_get_915e3 yJx4a65c_get_915e3, Cond.code yJx4a65c_get_915e3 cJx4a65c_get_915e3 2 (some (.object "java/lang/Object")), Cond.methodLink RJx4a65c 118 yJ15_checkIndex_7cf53, Cond.static yJ15_checkIndex_7cf53, Cond.initialized RJ15, Cond.code yJ15_checkIndex_7cf53 cJ15_checkIndex_7cf53 2 (some .int), Cond.methodLink RJ15 105 yJ3_checkIndex_8e157]
def wsX1_resetAll_r2 : List Cond := [Cond.static yJ3_checkIndex_8e157, Cond.initialized RJ3, Cond.code yJ3_checkIndex_8e157 cJ3_checkIndex_8e157 3 (some .int), Cond.methodLink RJx4a65c 123 yJx4a65c_elementData_915e3, Cond.instanceMethod yJx4a65c_elementData_915e3, Cond.selects RJx4a65c yJx4a65c_elementData_915e3 yJx4a65c_elementData_915e3, Cond.code yJx4a65c_elementData_915e3 cJx4a65c_elementData_915e3 2 (some (.object "java/lang/Object")), Cond.fieldLink RJx4a65c 9 "java/util/ArrayList" "elementData" "[Ljava/lang/Object;", Cond.methodLink RX1 158 yX1_turn, Cond.instanceMethod yX1_turn, Cond.selects RX1 yX1_turn yX1_turn, Cond.initialized RX1, Cond.code yX1_turn cX1_turn 3 none, Cond.fieldLink RX1 133 "DozingDevices$Device" "state" "I", Cond.fieldLink RX1 54 "DozingDevices" "turns" "I", Cond.methodLink RX1 168 yX1_endDue, Cond.instanceMethod yX1_endDue, Cond.selects RX1 yX1_endDue yX1_endDue, Cond.code yX1_endDue cX1_endDue 1 none, Cond.fieldLink RX1 23 "DozingDevices" "dueDevice" "LDozingDevices$Device;", Cond.fieldLink RX1 27 "DozingDevices" "ticksLeft" "I"]
def wsX1_resetAll : List Cond := .code yX1_resetAll cX1_resetAll 3 none :: ((wsX1_resetAll_r1 ++ wsX1_resetAll_r2) ++ wsX10 ++ wsX00 ++ wsJx4a65c0)
def wsX1_parentsOfThoseOn_r1 : List Cond := [Cond.fieldLink RX1 10 "DozingDevices" "devices" "Ljava/util/ArrayList;", Cond.classLink RX1 69 "DozingDevices$Device", Cond.fieldLink RX1 133 "DozingDevices$Device" "state" "I", Cond.fieldLink RX1 197 "DozingDevices$Device" "parents" "I", Cond.methodLink RX1 65 yJx4a65c_size_8abf5, Cond.instanceMethod yJx4a65c_size_8abf5, Cond.selects RJx4a65c yJx4a65c_size_8abf5 yJx4a65c_size_8abf5, Cond.initialized RJx4a65c, Cond.code yJx4a65c_size_8abf5 cJx4a65c_size_8abf5 1 (some .int), Cond.fieldLink RJx4a65c 48 "java/util/ArrayList" "size" "I", Cond.methodLink RX1 129 yJx4a65c_get_915e3, Cond.instanceMethod yJx4a65c_get_915e3, Cond.selects RJx4a65c yJx4a65c_get_915e3 yJx4a65c_get_915e3, Cond.code yJx4a65c_get_915e3 cJx4a65c_get_915e3 2 (some (.object "java/lang/Object")), Cond.methodLink RJx4a65c 118 yJ15_checkIndex_7cf53, Cond.static yJ15_checkIndex_7cf53, Cond.initialized RJ15, Cond.code yJ15_checkIndex_7cf53 cJ15_checkIndex_7cf53 2 (some .int), Cond.methodLink RJ15 105 yJ3_checkIndex_8e157, Cond.static yJ3_checkIndex_8e157, Cond.initialized RJ3, Cond.code yJ3_checkIndex_8e157 cJ3_checkIndex_8e157 3 (some .int), Cond.methodLink RJx4a65c 123 yJx4a65c_elementData_915e3, Cond.instanceMethod yJx4a65c_elementData_915e3]
def wsX1_parentsOfThoseOn_r2 : List Cond := [Cond.selects RJx4a65c yJx4a65c_elementData_915e3 yJx4a65c_elementData_915e3, Cond.code yJx4a65c_elementData_915e3 cJx4a65c_elementData_915e3 2 (some (.object "java/lang/Object")), Cond.fieldLink RJx4a65c 9 "java/util/ArrayList" "elementData" "[Ljava/lang/Object;"]
def wsX1_parentsOfThoseOn : List Cond := .code yX1_parentsOfThoseOn cX1_parentsOfThoseOn 4 (some .int) :: ((wsX1_parentsOfThoseOn_r1 ++ wsX1_parentsOfThoseOn_r2) ++ wsX10 ++ wsX00 ++ wsJx4a65c0)
def wsX1_idleOneTick_r1 : List Cond := [Cond.fieldLink RX1 10 "DozingDevices" "devices" "Ljava/util/ArrayList;", Cond.classLink RX1 69 "DozingDevices$Device", Cond.fieldLink RX1 133 "DozingDevices$Device" "state" "I", Cond.fieldLink RX1 108 "DozingDevices$Device" "uses" "I", Cond.fieldLink RX1 145 "DozingDevices$Device" "idle" "I", Cond.fieldLink RX1 194 "DozingDevices$Device" "delay" "I", Cond.methodLink RX1 191 yX1_parentsOfThoseOn, Cond.instanceMethod yX1_parentsOfThoseOn, Cond.selects RX1 yX1_parentsOfThoseOn yX1_parentsOfThoseOn, Cond.initialized RX1, Cond.code yX1_parentsOfThoseOn cX1_parentsOfThoseOn 4 (some .int), Cond.fieldLink RX1 197 "DozingDevices$Device" "parents" "I", Cond.methodLink RX1 65 yJx4a65c_size_8abf5, Cond.instanceMethod yJx4a65c_size_8abf5, Cond.selects RJx4a65c yJx4a65c_size_8abf5 yJx4a65c_size_8abf5, Cond.initialized RJx4a65c, Cond.code yJx4a65c_size_8abf5 cJx4a65c_size_8abf5 1 (some .int), Cond.fieldLink RJx4a65c 48 "java/util/ArrayList" "size" "I", Cond.methodLink RX1 129 yJx4a65c_get_915e3, Cond.instanceMethod yJx4a65c_get_915e3, Cond.selects RJx4a65c yJx4a65c_get_915e3 yJx4a65c_get_915e3, Cond.code yJx4a65c_get_915e3 cJx4a65c_get_915e3 2 (some (.object "java/lang/Object")), Cond.methodLink RJx4a65c 118 yJ15_checkIndex_7cf53, Cond.static yJ15_checkIndex_7cf53]
def wsX1_idleOneTick_r2 : List Cond := [Cond.initialized RJ15, Cond.code yJ15_checkIndex_7cf53 cJ15_checkIndex_7cf53 2 (some .int), Cond.methodLink RJ15 105 yJ3_checkIndex_8e157, Cond.static yJ3_checkIndex_8e157, Cond.initialized RJ3, Cond.code yJ3_checkIndex_8e157 cJ3_checkIndex_8e157 3 (some .int), Cond.methodLink RJx4a65c 123 yJx4a65c_elementData_915e3, Cond.instanceMethod yJx4a65c_elementData_915e3, Cond.selects RJx4a65c yJx4a65c_elementData_915e3 yJx4a65c_elementData_915e3, Cond.code yJx4a65c_elementData_915e3 cJx4a65c_elementData_915e3 2 (some (.object "java/lang/Object")), Cond.fieldLink RJx4a65c 9 "java/util/ArrayList" "elementData" "[Ljava/lang/Object;", Cond.methodLink RX1 148 yX1_holds, Cond.static yX1_holds, Cond.code yX1_holds cX1_holds 2 (some .boolean), Cond.methodLink RX1 111 yX1_bit, Cond.static yX1_bit, Cond.code yX1_bit cX1_bit 1 (some .int), Cond.fieldLink RX1 101 "DozingDevices$Device" "number" "I", Cond.methodLink RX1 158 yX1_turn, Cond.instanceMethod yX1_turn, Cond.selects RX1 yX1_turn yX1_turn, Cond.code yX1_turn cX1_turn 3 none, Cond.fieldLink RX1 54 "DozingDevices" "turns" "I"]
def wsX1_idleOneTick : List Cond := .code yX1_idleOneTick cX1_idleOneTick 5 none :: ((wsX1_idleOneTick_r1 ++ wsX1_idleOneTick_r2) ++ wsX10 ++ wsX00 ++ wsJx4a65c0)
def wsX1_bringNearer_r1 : List Cond := [Cond.fieldLink RX1 27 "DozingDevices" "ticksLeft" "I", Cond.fieldLink RX1 19 "DozingDevices" "phase" "I", Cond.fieldLink RX1 119 "DozingDevices$Device" "refusals" "I", Cond.methodLink RX1 158 yX1_turn, Cond.instanceMethod yX1_turn, Cond.selects RX1 yX1_turn yX1_turn, Cond.initialized RX1, Cond.code yX1_turn cX1_turn 3 none, Cond.fieldLink RX1 133 "DozingDevices$Device" "state" "I", Cond.fieldLink RX1 54 "DozingDevices" "turns" "I", Cond.methodLink RX1 171 yX1_comeFurtherBack, Cond.instanceMethod yX1_comeFurtherBack, Cond.selects RX1 yX1_comeFurtherBack yX1_comeFurtherBack, Cond.code yX1_comeFurtherBack cX1_comeFurtherBack 3 none, Cond.fieldLink RX1 16 "DozingDevices" "order" "Ljava/util/ArrayList;", Cond.classLink RX1 69 "DozingDevices$Device", Cond.fieldLink RX1 136 "DozingDevices$Device" "inMind" "I", Cond.fieldLink RX1 174 "DozingDevices$Device" "up" "I", Cond.methodLink RX1 65 yJx4a65c_size_8abf5, Cond.instanceMethod yJx4a65c_size_8abf5, Cond.selects RJx4a65c yJx4a65c_size_8abf5 yJx4a65c_size_8abf5, Cond.initialized RJx4a65c, Cond.code yJx4a65c_size_8abf5 cJx4a65c_size_8abf5 1 (some .int), Cond.fieldLink RJx4a65c 48 "java/util/ArrayList" "size" "I"]
def wsX1_bringNearer_r2 : List Cond := [Cond.methodLink RX1 129 yJx4a65c_get_915e3, Cond.instanceMethod yJx4a65c_get_915e3, Cond.selects RJx4a65c yJx4a65c_get_915e3 yJx4a65c_get_915e3, Cond.code yJx4a65c_get_915e3 cJx4a65c_get_915e3 2 (some (.object "java/lang/Object")), Cond.methodLink RJx4a65c 118 yJ15_checkIndex_7cf53, Cond.static yJ15_checkIndex_7cf53, Cond.initialized RJ15, Cond.code yJ15_checkIndex_7cf53 cJ15_checkIndex_7cf53 2 (some .int), Cond.methodLink RJ15 105 yJ3_checkIndex_8e157, Cond.static yJ3_checkIndex_8e157, Cond.initialized RJ3, Cond.code yJ3_checkIndex_8e157 cJ3_checkIndex_8e157 3 (some .int), Cond.methodLink RJx4a65c 123 yJx4a65c_elementData_915e3, Cond.instanceMethod yJx4a65c_elementData_915e3, Cond.selects RJx4a65c yJx4a65c_elementData_915e3 yJx4a65c_elementData_915e3, Cond.code yJx4a65c_elementData_915e3 cJx4a65c_elementData_915e3 2 (some (.object "java/lang/Object")), Cond.fieldLink RJx4a65c 9 "java/util/ArrayList" "elementData" "[Ljava/lang/Object;", Cond.methodLink RX1 165 yX1_makeDue, Cond.instanceMethod yX1_makeDue, Cond.selects RX1 yX1_makeDue yX1_makeDue, Cond.code yX1_makeDue cX1_makeDue 3 none, Cond.fieldLink RX1 23 "DozingDevices" "dueDevice" "LDozingDevices$Device;", Cond.methodLink RX1 168 yX1_endDue, Cond.instanceMethod yX1_endDue]
def wsX1_bringNearer_r3 : List Cond := [Cond.selects RX1 yX1_endDue yX1_endDue, Cond.code yX1_endDue cX1_endDue 1 none, Cond.methodLink RX1 125 yX1_giveUp, Cond.instanceMethod yX1_giveUp, Cond.selects RX1 yX1_giveUp yX1_giveUp, Cond.code yX1_giveUp cX1_giveUp 3 none, Cond.fieldLink RX1 45 "DozingDevices" "givenUp" "I", Cond.fieldLink RX1 48 "DozingDevices" "reason" "I", Cond.fieldLink RX1 101 "DozingDevices$Device" "number" "I", Cond.fieldLink RX1 51 "DozingDevices" "namedDevice" "I", Cond.methodLink RX1 122 yX1_comeBack, Cond.instanceMethod yX1_comeBack, Cond.selects RX1 yX1_comeBack yX1_comeBack, Cond.code yX1_comeBack cX1_comeBack 2 none, Cond.methodLink RX1 139 yX1_sinkFurther, Cond.instanceMethod yX1_sinkFurther, Cond.selects RX1 yX1_sinkFurther yX1_sinkFurther, Cond.code yX1_sinkFurther cX1_sinkFurther 3 none, Cond.fieldLink RX1 162 "DozingDevices$Device" "down" "I", Cond.fieldLink RX1 42 "DozingDevices" "timesAsleep" "I"]
def wsX1_bringNearer : List Cond := .code yX1_bringNearer cX1_bringNearer 2 none :: ((wsX1_bringNearer_r1 ++ (wsX1_bringNearer_r2 ++ wsX1_bringNearer_r3)) ++ wsX10 ++ wsX00 ++ wsJx4a65c0)
def wsX1_passOneTick_r1 : List Cond := [Cond.fieldLink RX1 30 "DozingDevices" "time" "I", Cond.fieldLink RX1 19 "DozingDevices" "phase" "I", Cond.fieldLink RX1 23 "DozingDevices" "dueDevice" "LDozingDevices$Device;", Cond.methodLink RX1 177 yX1_watchBites, Cond.instanceMethod yX1_watchBites, Cond.selects RX1 yX1_watchBites yX1_watchBites, Cond.initialized RX1, Cond.code yX1_watchBites cX1_watchBites 1 (some .boolean), Cond.fieldLink RX1 33 "DozingDevices" "watchLimit" "I", Cond.fieldLink RX1 36 "DozingDevices" "sinceKick" "I", Cond.methodLink RX1 181 yX1_resetAll, Cond.instanceMethod yX1_resetAll, Cond.selects RX1 yX1_resetAll yX1_resetAll, Cond.code yX1_resetAll cX1_resetAll 3 none, Cond.fieldLink RX1 10 "DozingDevices" "devices" "Ljava/util/ArrayList;", Cond.classLink RX1 69 "DozingDevices$Device", Cond.fieldLink RX1 108 "DozingDevices$Device" "uses" "I", Cond.fieldLink RX1 145 "DozingDevices$Device" "idle" "I", Cond.fieldLink RX1 51 "DozingDevices" "namedDevice" "I", Cond.fieldLink RX1 48 "DozingDevices" "reason" "I", Cond.fieldLink RX1 39 "DozingDevices" "resets" "I", Cond.methodLink RX1 65 yJx4a65c_size_8abf5, Cond.instanceMethod yJx4a65c_size_8abf5, Cond.selects RJx4a65c yJx4a65c_size_8abf5 yJx4a65c_size_8abf5]
def wsX1_passOneTick_r2 : List Cond := [Cond.initialized RJx4a65c, Cond.code yJx4a65c_size_8abf5 cJx4a65c_size_8abf5 1 (some .int), Cond.fieldLink RJx4a65c 48 "java/util/ArrayList" "size" "I", Cond.methodLink RX1 129 yJx4a65c_get_915e3, Cond.instanceMethod yJx4a65c_get_915e3, Cond.selects RJx4a65c yJx4a65c_get_915e3 yJx4a65c_get_915e3, Cond.code yJx4a65c_get_915e3 cJx4a65c_get_915e3 2 (some (.object "java/lang/Object")), Cond.methodLink RJx4a65c 118 yJ15_checkIndex_7cf53, Cond.static yJ15_checkIndex_7cf53, Cond.initialized RJ15, Cond.code yJ15_checkIndex_7cf53 cJ15_checkIndex_7cf53 2 (some .int), Cond.methodLink RJ15 105 yJ3_checkIndex_8e157, Cond.static yJ3_checkIndex_8e157, Cond.initialized RJ3, Cond.code yJ3_checkIndex_8e157 cJ3_checkIndex_8e157 3 (some .int), Cond.methodLink RJx4a65c 123 yJx4a65c_elementData_915e3, Cond.instanceMethod yJx4a65c_elementData_915e3, Cond.selects RJx4a65c yJx4a65c_elementData_915e3 yJx4a65c_elementData_915e3, Cond.code yJx4a65c_elementData_915e3 cJx4a65c_elementData_915e3 2 (some (.object "java/lang/Object")), Cond.fieldLink RJx4a65c 9 "java/util/ArrayList" "elementData" "[Ljava/lang/Object;", Cond.methodLink RX1 158 yX1_turn, Cond.instanceMethod yX1_turn, Cond.selects RX1 yX1_turn yX1_turn, Cond.code yX1_turn cX1_turn 3 none]
def wsX1_passOneTick_r3 : List Cond := [Cond.fieldLink RX1 133 "DozingDevices$Device" "state" "I", Cond.fieldLink RX1 54 "DozingDevices" "turns" "I", Cond.methodLink RX1 168 yX1_endDue, Cond.instanceMethod yX1_endDue, Cond.selects RX1 yX1_endDue yX1_endDue, Cond.code yX1_endDue cX1_endDue 1 none, Cond.fieldLink RX1 27 "DozingDevices" "ticksLeft" "I", Cond.methodLink RX1 184 yX1_idleOneTick, Cond.instanceMethod yX1_idleOneTick, Cond.selects RX1 yX1_idleOneTick yX1_idleOneTick, Cond.code yX1_idleOneTick cX1_idleOneTick 5 none, Cond.fieldLink RX1 194 "DozingDevices$Device" "delay" "I", Cond.methodLink RX1 191 yX1_parentsOfThoseOn, Cond.instanceMethod yX1_parentsOfThoseOn, Cond.selects RX1 yX1_parentsOfThoseOn yX1_parentsOfThoseOn, Cond.code yX1_parentsOfThoseOn cX1_parentsOfThoseOn 4 (some .int), Cond.fieldLink RX1 197 "DozingDevices$Device" "parents" "I", Cond.methodLink RX1 148 yX1_holds, Cond.static yX1_holds, Cond.code yX1_holds cX1_holds 2 (some .boolean), Cond.methodLink RX1 111 yX1_bit, Cond.static yX1_bit, Cond.code yX1_bit cX1_bit 1 (some .int), Cond.fieldLink RX1 101 "DozingDevices$Device" "number" "I"]
def wsX1_passOneTick_r4 : List Cond := [Cond.methodLink RX1 187 yX1_bringNearer, Cond.instanceMethod yX1_bringNearer, Cond.selects RX1 yX1_bringNearer yX1_bringNearer, Cond.code yX1_bringNearer cX1_bringNearer 2 none, Cond.fieldLink RX1 119 "DozingDevices$Device" "refusals" "I", Cond.methodLink RX1 171 yX1_comeFurtherBack, Cond.instanceMethod yX1_comeFurtherBack, Cond.selects RX1 yX1_comeFurtherBack yX1_comeFurtherBack, Cond.code yX1_comeFurtherBack cX1_comeFurtherBack 3 none, Cond.fieldLink RX1 16 "DozingDevices" "order" "Ljava/util/ArrayList;", Cond.fieldLink RX1 136 "DozingDevices$Device" "inMind" "I", Cond.fieldLink RX1 174 "DozingDevices$Device" "up" "I", Cond.methodLink RX1 165 yX1_makeDue, Cond.instanceMethod yX1_makeDue, Cond.selects RX1 yX1_makeDue yX1_makeDue, Cond.code yX1_makeDue cX1_makeDue 3 none, Cond.methodLink RX1 125 yX1_giveUp, Cond.instanceMethod yX1_giveUp, Cond.selects RX1 yX1_giveUp yX1_giveUp, Cond.code yX1_giveUp cX1_giveUp 3 none, Cond.fieldLink RX1 45 "DozingDevices" "givenUp" "I", Cond.methodLink RX1 122 yX1_comeBack, Cond.instanceMethod yX1_comeBack, Cond.selects RX1 yX1_comeBack yX1_comeBack]
def wsX1_passOneTick_r5 : List Cond := [Cond.code yX1_comeBack cX1_comeBack 2 none, Cond.methodLink RX1 139 yX1_sinkFurther, Cond.instanceMethod yX1_sinkFurther, Cond.selects RX1 yX1_sinkFurther yX1_sinkFurther, Cond.code yX1_sinkFurther cX1_sinkFurther 3 none, Cond.fieldLink RX1 162 "DozingDevices$Device" "down" "I", Cond.fieldLink RX1 42 "DozingDevices" "timesAsleep" "I"]
def wsX1_passOneTick : List Cond := .code yX1_passOneTick cX1_passOneTick 1 none :: ((wsX1_passOneTick_r1 ++ (wsX1_passOneTick_r2 ++ (wsX1_passOneTick_r3 ++ (wsX1_passOneTick_r4 ++ wsX1_passOneTick_r5)))) ++ wsX10 ++ wsX00 ++ wsJx4a65c0)
def wsX1_tick_r1 : List Cond := [Cond.fieldLink RX1 54 "DozingDevices" "turns" "I", Cond.methodLink RX1 61 yX1_isWithin, Cond.static yX1_isWithin, Cond.initialized RX1, Cond.code yX1_isWithin cX1_isWithin 3 (some .boolean), Cond.methodLink RX1 142 yX1_passOneTick, Cond.instanceMethod yX1_passOneTick, Cond.selects RX1 yX1_passOneTick yX1_passOneTick, Cond.code yX1_passOneTick cX1_passOneTick 1 none, Cond.fieldLink RX1 30 "DozingDevices" "time" "I", Cond.fieldLink RX1 19 "DozingDevices" "phase" "I", Cond.fieldLink RX1 23 "DozingDevices" "dueDevice" "LDozingDevices$Device;", Cond.methodLink RX1 177 yX1_watchBites, Cond.instanceMethod yX1_watchBites, Cond.selects RX1 yX1_watchBites yX1_watchBites, Cond.code yX1_watchBites cX1_watchBites 1 (some .boolean), Cond.fieldLink RX1 33 "DozingDevices" "watchLimit" "I", Cond.fieldLink RX1 36 "DozingDevices" "sinceKick" "I", Cond.methodLink RX1 181 yX1_resetAll, Cond.instanceMethod yX1_resetAll, Cond.selects RX1 yX1_resetAll yX1_resetAll, Cond.code yX1_resetAll cX1_resetAll 3 none, Cond.fieldLink RX1 10 "DozingDevices" "devices" "Ljava/util/ArrayList;", Cond.classLink RX1 69 "DozingDevices$Device"]
def wsX1_tick_r2 : List Cond := [Cond.fieldLink RX1 108 "DozingDevices$Device" "uses" "I", Cond.fieldLink RX1 145 "DozingDevices$Device" "idle" "I", Cond.fieldLink RX1 51 "DozingDevices" "namedDevice" "I", Cond.fieldLink RX1 48 "DozingDevices" "reason" "I", Cond.fieldLink RX1 39 "DozingDevices" "resets" "I", Cond.methodLink RX1 65 yJx4a65c_size_8abf5, Cond.instanceMethod yJx4a65c_size_8abf5, Cond.selects RJx4a65c yJx4a65c_size_8abf5 yJx4a65c_size_8abf5, Cond.initialized RJx4a65c, Cond.code yJx4a65c_size_8abf5 cJx4a65c_size_8abf5 1 (some .int), Cond.fieldLink RJx4a65c 48 "java/util/ArrayList" "size" "I", Cond.methodLink RX1 129 yJx4a65c_get_915e3, Cond.instanceMethod yJx4a65c_get_915e3, Cond.selects RJx4a65c yJx4a65c_get_915e3 yJx4a65c_get_915e3, Cond.code yJx4a65c_get_915e3 cJx4a65c_get_915e3 2 (some (.object "java/lang/Object")), Cond.methodLink RJx4a65c 118 yJ15_checkIndex_7cf53, Cond.static yJ15_checkIndex_7cf53, Cond.initialized RJ15, Cond.code yJ15_checkIndex_7cf53 cJ15_checkIndex_7cf53 2 (some .int), Cond.methodLink RJ15 105 yJ3_checkIndex_8e157, Cond.static yJ3_checkIndex_8e157, Cond.initialized RJ3, Cond.code yJ3_checkIndex_8e157 cJ3_checkIndex_8e157 3 (some .int), Cond.methodLink RJx4a65c 123 yJx4a65c_elementData_915e3]
def wsX1_tick_r3 : List Cond := [Cond.instanceMethod yJx4a65c_elementData_915e3, Cond.selects RJx4a65c yJx4a65c_elementData_915e3 yJx4a65c_elementData_915e3, Cond.code yJx4a65c_elementData_915e3 cJx4a65c_elementData_915e3 2 (some (.object "java/lang/Object")), Cond.fieldLink RJx4a65c 9 "java/util/ArrayList" "elementData" "[Ljava/lang/Object;", Cond.methodLink RX1 158 yX1_turn, Cond.instanceMethod yX1_turn, Cond.selects RX1 yX1_turn yX1_turn, Cond.code yX1_turn cX1_turn 3 none, Cond.fieldLink RX1 133 "DozingDevices$Device" "state" "I", Cond.methodLink RX1 168 yX1_endDue, Cond.instanceMethod yX1_endDue, Cond.selects RX1 yX1_endDue yX1_endDue, Cond.code yX1_endDue cX1_endDue 1 none, Cond.fieldLink RX1 27 "DozingDevices" "ticksLeft" "I", Cond.methodLink RX1 184 yX1_idleOneTick, Cond.instanceMethod yX1_idleOneTick, Cond.selects RX1 yX1_idleOneTick yX1_idleOneTick, Cond.code yX1_idleOneTick cX1_idleOneTick 5 none, Cond.fieldLink RX1 194 "DozingDevices$Device" "delay" "I", Cond.methodLink RX1 191 yX1_parentsOfThoseOn, Cond.instanceMethod yX1_parentsOfThoseOn, Cond.selects RX1 yX1_parentsOfThoseOn yX1_parentsOfThoseOn, Cond.code yX1_parentsOfThoseOn cX1_parentsOfThoseOn 4 (some .int), Cond.fieldLink RX1 197 "DozingDevices$Device" "parents" "I"]
def wsX1_tick_r4 : List Cond := [Cond.methodLink RX1 148 yX1_holds, Cond.static yX1_holds, Cond.code yX1_holds cX1_holds 2 (some .boolean), Cond.methodLink RX1 111 yX1_bit, Cond.static yX1_bit, Cond.code yX1_bit cX1_bit 1 (some .int), Cond.fieldLink RX1 101 "DozingDevices$Device" "number" "I", Cond.methodLink RX1 187 yX1_bringNearer, Cond.instanceMethod yX1_bringNearer, Cond.selects RX1 yX1_bringNearer yX1_bringNearer, Cond.code yX1_bringNearer cX1_bringNearer 2 none, Cond.fieldLink RX1 119 "DozingDevices$Device" "refusals" "I", Cond.methodLink RX1 171 yX1_comeFurtherBack, Cond.instanceMethod yX1_comeFurtherBack, Cond.selects RX1 yX1_comeFurtherBack yX1_comeFurtherBack, Cond.code yX1_comeFurtherBack cX1_comeFurtherBack 3 none, Cond.fieldLink RX1 16 "DozingDevices" "order" "Ljava/util/ArrayList;", Cond.fieldLink RX1 136 "DozingDevices$Device" "inMind" "I", Cond.fieldLink RX1 174 "DozingDevices$Device" "up" "I", Cond.methodLink RX1 165 yX1_makeDue, Cond.instanceMethod yX1_makeDue, Cond.selects RX1 yX1_makeDue yX1_makeDue, Cond.code yX1_makeDue cX1_makeDue 3 none, Cond.methodLink RX1 125 yX1_giveUp]
def wsX1_tick_r5 : List Cond := [Cond.instanceMethod yX1_giveUp, Cond.selects RX1 yX1_giveUp yX1_giveUp, Cond.code yX1_giveUp cX1_giveUp 3 none, Cond.fieldLink RX1 45 "DozingDevices" "givenUp" "I", Cond.methodLink RX1 122 yX1_comeBack, Cond.instanceMethod yX1_comeBack, Cond.selects RX1 yX1_comeBack yX1_comeBack, Cond.code yX1_comeBack cX1_comeBack 2 none, Cond.methodLink RX1 139 yX1_sinkFurther, Cond.instanceMethod yX1_sinkFurther, Cond.selects RX1 yX1_sinkFurther yX1_sinkFurther, Cond.code yX1_sinkFurther cX1_sinkFurther 3 none, Cond.fieldLink RX1 162 "DozingDevices$Device" "down" "I", Cond.fieldLink RX1 42 "DozingDevices" "timesAsleep" "I"]
def wsX1_tick : List Cond := .code yX1_tick cX1_tick 4 (some .int) :: ((wsX1_tick_r1 ++ (wsX1_tick_r2 ++ (wsX1_tick_r3 ++ (wsX1_tick_r4 ++ wsX1_tick_r5)))) ++ wsX10 ++ wsX00 ++ wsJx4a65c0)
def wsX1_phase : List Cond := .code yX1_phase cX1_phase 1 (some .int) :: ([.fieldLink RX1 19 "DozingDevices" "phase" "I"] ++ wsX10)
def wsX1_state_r1 : List Cond := [Cond.fieldLink RX1 133 "DozingDevices$Device" "state" "I", Cond.methodLink RX1 104 yX1_find, Cond.instanceMethod yX1_find, Cond.selects RX1 yX1_find yX1_find, Cond.initialized RX1, Cond.code yX1_find cX1_find 2 (some (.object "DozingDevices$Device")), Cond.fieldLink RX1 10 "DozingDevices" "devices" "Ljava/util/ArrayList;", Cond.classLink RX1 69 "DozingDevices$Device", Cond.methodLink RX1 65 yJx4a65c_size_8abf5, Cond.instanceMethod yJx4a65c_size_8abf5, Cond.selects RJx4a65c yJx4a65c_size_8abf5 yJx4a65c_size_8abf5, Cond.initialized RJx4a65c, Cond.code yJx4a65c_size_8abf5 cJx4a65c_size_8abf5 1 (some .int), Cond.fieldLink RJx4a65c 48 "java/util/ArrayList" "size" "I", Cond.methodLink RX1 61 yX1_isWithin, Cond.static yX1_isWithin, Cond.code yX1_isWithin cX1_isWithin 3 (some .boolean), Cond.methodLink RX1 129 yJx4a65c_get_915e3, Cond.instanceMethod yJx4a65c_get_915e3, Cond.selects RJx4a65c yJx4a65c_get_915e3 yJx4a65c_get_915e3, Cond.code yJx4a65c_get_915e3 cJx4a65c_get_915e3 2 (some (.object "java/lang/Object")), Cond.methodLink RJx4a65c 118 yJ15_checkIndex_7cf53, Cond.static yJ15_checkIndex_7cf53, Cond.initialized RJ15]
def wsX1_state_r2 : List Cond := [Cond.code yJ15_checkIndex_7cf53 cJ15_checkIndex_7cf53 2 (some .int), Cond.methodLink RJ15 105 yJ3_checkIndex_8e157, Cond.static yJ3_checkIndex_8e157, Cond.initialized RJ3, Cond.code yJ3_checkIndex_8e157 cJ3_checkIndex_8e157 3 (some .int), Cond.methodLink RJx4a65c 123 yJx4a65c_elementData_915e3, Cond.instanceMethod yJx4a65c_elementData_915e3, Cond.selects RJx4a65c yJx4a65c_elementData_915e3 yJx4a65c_elementData_915e3, Cond.code yJx4a65c_elementData_915e3 cJx4a65c_elementData_915e3 2 (some (.object "java/lang/Object")), Cond.fieldLink RJx4a65c 9 "java/util/ArrayList" "elementData" "[Ljava/lang/Object;"]
def wsX1_state : List Cond := .code yX1_state cX1_state 3 (some .int) :: ((wsX1_state_r1 ++ wsX1_state_r2) ++ wsX00 ++ wsX10 ++ wsJx4a65c0)
def wsX1_uses_r1 : List Cond := [Cond.fieldLink RX1 108 "DozingDevices$Device" "uses" "I", Cond.methodLink RX1 104 yX1_find, Cond.instanceMethod yX1_find, Cond.selects RX1 yX1_find yX1_find, Cond.initialized RX1, Cond.code yX1_find cX1_find 2 (some (.object "DozingDevices$Device")), Cond.fieldLink RX1 10 "DozingDevices" "devices" "Ljava/util/ArrayList;", Cond.classLink RX1 69 "DozingDevices$Device", Cond.methodLink RX1 65 yJx4a65c_size_8abf5, Cond.instanceMethod yJx4a65c_size_8abf5, Cond.selects RJx4a65c yJx4a65c_size_8abf5 yJx4a65c_size_8abf5, Cond.initialized RJx4a65c, Cond.code yJx4a65c_size_8abf5 cJx4a65c_size_8abf5 1 (some .int), Cond.fieldLink RJx4a65c 48 "java/util/ArrayList" "size" "I", Cond.methodLink RX1 61 yX1_isWithin, Cond.static yX1_isWithin, Cond.code yX1_isWithin cX1_isWithin 3 (some .boolean), Cond.methodLink RX1 129 yJx4a65c_get_915e3, Cond.instanceMethod yJx4a65c_get_915e3, Cond.selects RJx4a65c yJx4a65c_get_915e3 yJx4a65c_get_915e3, Cond.code yJx4a65c_get_915e3 cJx4a65c_get_915e3 2 (some (.object "java/lang/Object")), Cond.methodLink RJx4a65c 118 yJ15_checkIndex_7cf53, Cond.static yJ15_checkIndex_7cf53, Cond.initialized RJ15]
def wsX1_uses_r2 : List Cond := [Cond.code yJ15_checkIndex_7cf53 cJ15_checkIndex_7cf53 2 (some .int), Cond.methodLink RJ15 105 yJ3_checkIndex_8e157, Cond.static yJ3_checkIndex_8e157, Cond.initialized RJ3, Cond.code yJ3_checkIndex_8e157 cJ3_checkIndex_8e157 3 (some .int), Cond.methodLink RJx4a65c 123 yJx4a65c_elementData_915e3, Cond.instanceMethod yJx4a65c_elementData_915e3, Cond.selects RJx4a65c yJx4a65c_elementData_915e3 yJx4a65c_elementData_915e3, Cond.code yJx4a65c_elementData_915e3 cJx4a65c_elementData_915e3 2 (some (.object "java/lang/Object")), Cond.fieldLink RJx4a65c 9 "java/util/ArrayList" "elementData" "[Ljava/lang/Object;"]
def wsX1_uses : List Cond := .code yX1_uses cX1_uses 3 (some .int) :: ((wsX1_uses_r1 ++ wsX1_uses_r2) ++ wsX00 ++ wsX10 ++ wsJx4a65c0)
def wsX1_idle_r1 : List Cond := [Cond.fieldLink RX1 145 "DozingDevices$Device" "idle" "I", Cond.methodLink RX1 104 yX1_find, Cond.instanceMethod yX1_find, Cond.selects RX1 yX1_find yX1_find, Cond.initialized RX1, Cond.code yX1_find cX1_find 2 (some (.object "DozingDevices$Device")), Cond.fieldLink RX1 10 "DozingDevices" "devices" "Ljava/util/ArrayList;", Cond.classLink RX1 69 "DozingDevices$Device", Cond.methodLink RX1 65 yJx4a65c_size_8abf5, Cond.instanceMethod yJx4a65c_size_8abf5, Cond.selects RJx4a65c yJx4a65c_size_8abf5 yJx4a65c_size_8abf5, Cond.initialized RJx4a65c, Cond.code yJx4a65c_size_8abf5 cJx4a65c_size_8abf5 1 (some .int), Cond.fieldLink RJx4a65c 48 "java/util/ArrayList" "size" "I", Cond.methodLink RX1 61 yX1_isWithin, Cond.static yX1_isWithin, Cond.code yX1_isWithin cX1_isWithin 3 (some .boolean), Cond.methodLink RX1 129 yJx4a65c_get_915e3, Cond.instanceMethod yJx4a65c_get_915e3, Cond.selects RJx4a65c yJx4a65c_get_915e3 yJx4a65c_get_915e3, Cond.code yJx4a65c_get_915e3 cJx4a65c_get_915e3 2 (some (.object "java/lang/Object")), Cond.methodLink RJx4a65c 118 yJ15_checkIndex_7cf53, Cond.static yJ15_checkIndex_7cf53, Cond.initialized RJ15]
def wsX1_idle_r2 : List Cond := [Cond.code yJ15_checkIndex_7cf53 cJ15_checkIndex_7cf53 2 (some .int), Cond.methodLink RJ15 105 yJ3_checkIndex_8e157, Cond.static yJ3_checkIndex_8e157, Cond.initialized RJ3, Cond.code yJ3_checkIndex_8e157 cJ3_checkIndex_8e157 3 (some .int), Cond.methodLink RJx4a65c 123 yJx4a65c_elementData_915e3, Cond.instanceMethod yJx4a65c_elementData_915e3, Cond.selects RJx4a65c yJx4a65c_elementData_915e3 yJx4a65c_elementData_915e3, Cond.code yJx4a65c_elementData_915e3 cJx4a65c_elementData_915e3 2 (some (.object "java/lang/Object")), Cond.fieldLink RJx4a65c 9 "java/util/ArrayList" "elementData" "[Ljava/lang/Object;"]
def wsX1_idle : List Cond := .code yX1_idle cX1_idle 3 (some .int) :: ((wsX1_idle_r1 ++ wsX1_idle_r2) ++ wsX00 ++ wsX10 ++ wsJx4a65c0)
def wsX1_refusals_r1 : List Cond := [Cond.fieldLink RX1 119 "DozingDevices$Device" "refusals" "I", Cond.methodLink RX1 104 yX1_find, Cond.instanceMethod yX1_find, Cond.selects RX1 yX1_find yX1_find, Cond.initialized RX1, Cond.code yX1_find cX1_find 2 (some (.object "DozingDevices$Device")), Cond.fieldLink RX1 10 "DozingDevices" "devices" "Ljava/util/ArrayList;", Cond.classLink RX1 69 "DozingDevices$Device", Cond.methodLink RX1 65 yJx4a65c_size_8abf5, Cond.instanceMethod yJx4a65c_size_8abf5, Cond.selects RJx4a65c yJx4a65c_size_8abf5 yJx4a65c_size_8abf5, Cond.initialized RJx4a65c, Cond.code yJx4a65c_size_8abf5 cJx4a65c_size_8abf5 1 (some .int), Cond.fieldLink RJx4a65c 48 "java/util/ArrayList" "size" "I", Cond.methodLink RX1 61 yX1_isWithin, Cond.static yX1_isWithin, Cond.code yX1_isWithin cX1_isWithin 3 (some .boolean), Cond.methodLink RX1 129 yJx4a65c_get_915e3, Cond.instanceMethod yJx4a65c_get_915e3, Cond.selects RJx4a65c yJx4a65c_get_915e3 yJx4a65c_get_915e3, Cond.code yJx4a65c_get_915e3 cJx4a65c_get_915e3 2 (some (.object "java/lang/Object")), Cond.methodLink RJx4a65c 118 yJ15_checkIndex_7cf53, Cond.static yJ15_checkIndex_7cf53, Cond.initialized RJ15]
def wsX1_refusals_r2 : List Cond := [Cond.code yJ15_checkIndex_7cf53 cJ15_checkIndex_7cf53 2 (some .int), Cond.methodLink RJ15 105 yJ3_checkIndex_8e157, Cond.static yJ3_checkIndex_8e157, Cond.initialized RJ3, Cond.code yJ3_checkIndex_8e157 cJ3_checkIndex_8e157 3 (some .int), Cond.methodLink RJx4a65c 123 yJx4a65c_elementData_915e3, Cond.instanceMethod yJx4a65c_elementData_915e3, Cond.selects RJx4a65c yJx4a65c_elementData_915e3 yJx4a65c_elementData_915e3, Cond.code yJx4a65c_elementData_915e3 cJx4a65c_elementData_915e3 2 (some (.object "java/lang/Object")), Cond.fieldLink RJx4a65c 9 "java/util/ArrayList" "elementData" "[Ljava/lang/Object;"]
def wsX1_refusals : List Cond := .code yX1_refusals cX1_refusals 3 (some .int) :: ((wsX1_refusals_r1 ++ wsX1_refusals_r2) ++ wsX00 ++ wsX10 ++ wsJx4a65c0)
def wsX1_due : List Cond := .code yX1_due cX1_due 1 (some .int) :: ([.fieldLink RX1 23 "DozingDevices" "dueDevice" "LDozingDevices$Device;", .fieldLink RX1 101 "DozingDevices$Device" "number" "I"] ++ wsX10 ++ wsX00)
def wsX1_left : List Cond := .code yX1_left cX1_left 1 (some .int) :: ([.fieldLink RX1 27 "DozingDevices" "ticksLeft" "I"] ++ wsX10)
def wsX1_named : List Cond := .code yX1_named cX1_named 1 (some .int) :: ([.fieldLink RX1 51 "DozingDevices" "namedDevice" "I"] ++ wsX10)
def wsX1_figure : List Cond := .code yX1_figure cX1_figure 2 (some .int) :: ([.fieldLink RX1 30 "DozingDevices" "time" "I", .fieldLink RX1 36 "DozingDevices" "sinceKick" "I", .fieldLink RX1 39 "DozingDevices" "resets" "I", .fieldLink RX1 42 "DozingDevices" "timesAsleep" "I", .fieldLink RX1 45 "DozingDevices" "givenUp" "I", .fieldLink RX1 48 "DozingDevices" "reason" "I", .fieldLink RX1 10 "DozingDevices" "devices" "Ljava/util/ArrayList;", .methodLink RX1 65 yJx4a65c_size_8abf5, .instanceMethod yJx4a65c_size_8abf5, .selects RJx4a65c yJx4a65c_size_8abf5 yJx4a65c_size_8abf5, .initialized RJx4a65c, .code yJx4a65c_size_8abf5 cJx4a65c_size_8abf5 1 (some .int), .fieldLink RJx4a65c 48 "java/util/ArrayList" "size" "I"] ++ wsX10 ++ wsJx4a65c0)
def wsX2_init : List Cond := .code yX2_init cX2_init 1 none :: ([.methodLink RX2 1 objectInit, .instanceMethod objectInit, .code objectInit ⟨#[0xb1]⟩ 1 none, .arrayClass .int, .fieldLink RX2 7 "DozingDevicesModel" "parents" "[I", .fieldLink RX2 13 "DozingDevicesModel" "downs" "[I", .fieldLink RX2 16 "DozingDevicesModel" "ups" "[I", .fieldLink RX2 19 "DozingDevicesModel" "delays" "[I", .fieldLink RX2 22 "DozingDevicesModel" "mode" "[I", .fieldLink RX2 25 "DozingDevicesModel" "mind" "[I", .fieldLink RX2 28 "DozingDevicesModel" "used" "[I", .fieldLink RX2 31 "DozingDevicesModel" "idles" "[I", .fieldLink RX2 34 "DozingDevicesModel" "nos" "[I", .arrayClass .boolean, .fieldLink RX2 37 "DozingDevicesModel" "wakes" "[Z", .fieldLink RX2 41 "DozingDevicesModel" "resting" "[Z", .fieldLink RX2 44 "DozingDevicesModel" "dueOne" "I", .fieldLink RX2 48 "DozingDevicesModel" "namedOne" "I"] ++ wsX20)
def wsX2_none : List Cond := .code yX2_none cX2_none 2 (some .boolean) :: ([.fieldLink RX2 51 "DozingDevicesModel" "count" "I"] ++ wsX20)
def wsX2_depth : List Cond := .code yX2_depth cX2_depth 6 (some .int) :: ([.fieldLink RX2 7 "DozingDevicesModel" "parents" "[I", .fieldLink RX2 51 "DozingDevicesModel" "count" "I"] ++ wsX20)
def wsX2_earlier : List Cond := .code yX2_earlier cX2_earlier 5 (some .boolean) :: ([.methodLink RX2 54 yX2_depth, .instanceMethod yX2_depth, .selects RX2 yX2_depth yX2_depth, .initialized RX2, .code yX2_depth cX2_depth 6 (some .int), .fieldLink RX2 7 "DozingDevicesModel" "parents" "[I", .fieldLink RX2 51 "DozingDevicesModel" "count" "I"] ++ wsX20)
def wsX2_line : List Cond := .code yX2_line cX2_line 4 (some .int) :: ([.fieldLink RX2 7 "DozingDevicesModel" "parents" "[I"] ++ wsX20)
def wsX2_rouse : List Cond := .code yX2_rouse cX2_rouse 4 (some .int) :: ([.fieldLink RX2 51 "DozingDevicesModel" "count" "I", .fieldLink RX2 22 "DozingDevicesModel" "mode" "[I", .fieldLink RX2 31 "DozingDevicesModel" "idles" "[I"] ++ wsX20)
def wsX2_device : List Cond := .code yX2_device cX2_device 5 (some .int) :: ([.fieldLink RX2 51 "DozingDevicesModel" "count" "I", .fieldLink RX2 58 "DozingDevicesModel" "stage" "I", .fieldLink RX2 7 "DozingDevicesModel" "parents" "[I", .fieldLink RX2 13 "DozingDevicesModel" "downs" "[I", .fieldLink RX2 16 "DozingDevicesModel" "ups" "[I", .fieldLink RX2 19 "DozingDevicesModel" "delays" "[I", .fieldLink RX2 22 "DozingDevicesModel" "mode" "[I", .fieldLink RX2 28 "DozingDevicesModel" "used" "[I", .fieldLink RX2 31 "DozingDevicesModel" "idles" "[I", .fieldLink RX2 34 "DozingDevicesModel" "nos" "[I", .fieldLink RX2 37 "DozingDevicesModel" "wakes" "[Z", .methodLink RX2 61 yX2_line, .instanceMethod yX2_line, .selects RX2 yX2_line yX2_line, .initialized RX2, .code yX2_line cX2_line 4 (some .int), .methodLink RX2 64 yX2_rouse, .instanceMethod yX2_rouse, .selects RX2 yX2_rouse yX2_rouse, .code yX2_rouse cX2_rouse 4 (some .int)] ++ wsX20)
def wsX2_use : List Cond := .code yX2_use cX2_use 2 (some .int) :: ([.fieldLink RX2 58 "DozingDevicesModel" "stage" "I", .fieldLink RX2 28 "DozingDevicesModel" "used" "[I", .methodLink RX2 67 yX2_none, .instanceMethod yX2_none, .selects RX2 yX2_none yX2_none, .initialized RX2, .code yX2_none cX2_none 2 (some .boolean), .fieldLink RX2 51 "DozingDevicesModel" "count" "I", .methodLink RX2 61 yX2_line, .instanceMethod yX2_line, .selects RX2 yX2_line yX2_line, .code yX2_line cX2_line 4 (some .int), .fieldLink RX2 7 "DozingDevicesModel" "parents" "[I", .methodLink RX2 64 yX2_rouse, .instanceMethod yX2_rouse, .selects RX2 yX2_rouse yX2_rouse, .code yX2_rouse cX2_rouse 4 (some .int), .fieldLink RX2 22 "DozingDevicesModel" "mode" "[I", .fieldLink RX2 31 "DozingDevicesModel" "idles" "[I"] ++ wsX20)
def wsX2_release : List Cond := .code yX2_release cX2_release 2 (some .int) :: ([.fieldLink RX2 58 "DozingDevicesModel" "stage" "I", .fieldLink RX2 28 "DozingDevicesModel" "used" "[I", .methodLink RX2 67 yX2_none, .instanceMethod yX2_none, .selects RX2 yX2_none yX2_none, .initialized RX2, .code yX2_none cX2_none 2 (some .boolean), .fieldLink RX2 51 "DozingDevicesModel" "count" "I"] ++ wsX20)
def wsX2_waker : List Cond := .code yX2_waker cX2_waker 3 (some .boolean) :: ([.fieldLink RX2 37 "DozingDevicesModel" "wakes" "[Z", .methodLink RX2 67 yX2_none, .instanceMethod yX2_none, .selects RX2 yX2_none yX2_none, .initialized RX2, .code yX2_none cX2_none 2 (some .boolean), .fieldLink RX2 51 "DozingDevicesModel" "count" "I"] ++ wsX20)
def wsX2_refuse : List Cond := .code yX2_refuse cX2_refuse 3 (some .boolean) :: ([.fieldLink RX2 34 "DozingDevicesModel" "nos" "[I", .methodLink RX2 67 yX2_none, .instanceMethod yX2_none, .selects RX2 yX2_none yX2_none, .initialized RX2, .code yX2_none cX2_none 2 (some .boolean), .fieldLink RX2 51 "DozingDevicesModel" "count" "I"] ++ wsX20)
def wsX2_become : List Cond := .code yX2_become cX2_become 3 none :: ([.fieldLink RX2 22 "DozingDevicesModel" "mode" "[I", .fieldLink RX2 71 "DozingDevicesModel" "changes" "I"] ++ wsX20)
def wsX2_lastAwake : List Cond := .code yX2_lastAwake cX2_lastAwake 3 (some .int) :: ([.fieldLink RX2 51 "DozingDevicesModel" "count" "I", .fieldLink RX2 22 "DozingDevicesModel" "mode" "[I", .methodLink RX2 74 yX2_earlier, .instanceMethod yX2_earlier, .selects RX2 yX2_earlier yX2_earlier, .initialized RX2, .code yX2_earlier cX2_earlier 5 (some .boolean), .methodLink RX2 54 yX2_depth, .instanceMethod yX2_depth, .selects RX2 yX2_depth yX2_depth, .code yX2_depth cX2_depth 6 (some .int), .fieldLink RX2 7 "DozingDevicesModel" "parents" "[I"] ++ wsX20)
def wsX2_firstOff : List Cond := .code yX2_firstOff cX2_firstOff 3 (some .int) :: ([.fieldLink RX2 51 "DozingDevicesModel" "count" "I", .fieldLink RX2 22 "DozingDevicesModel" "mode" "[I", .methodLink RX2 74 yX2_earlier, .instanceMethod yX2_earlier, .selects RX2 yX2_earlier yX2_earlier, .initialized RX2, .code yX2_earlier cX2_earlier 5 (some .boolean), .methodLink RX2 54 yX2_depth, .instanceMethod yX2_depth, .selects RX2 yX2_depth yX2_depth, .code yX2_depth cX2_depth 6 (some .int), .fieldLink RX2 7 "DozingDevicesModel" "parents" "[I"] ++ wsX20)
def wsX2_sink_r1 : List Cond := [Cond.fieldLink RX2 58 "DozingDevicesModel" "stage" "I", Cond.fieldLink RX2 82 "DozingDevicesModel" "asleep" "I", Cond.fieldLink RX2 22 "DozingDevicesModel" "mode" "[I", Cond.fieldLink RX2 44 "DozingDevicesModel" "dueOne" "I", Cond.fieldLink RX2 13 "DozingDevicesModel" "downs" "[I", Cond.fieldLink RX2 89 "DozingDevicesModel" "toGo" "I", Cond.methodLink RX2 78 yX2_lastAwake, Cond.instanceMethod yX2_lastAwake, Cond.selects RX2 yX2_lastAwake yX2_lastAwake, Cond.initialized RX2, Cond.code yX2_lastAwake cX2_lastAwake 3 (some .int), Cond.fieldLink RX2 51 "DozingDevicesModel" "count" "I", Cond.methodLink RX2 74 yX2_earlier, Cond.instanceMethod yX2_earlier, Cond.selects RX2 yX2_earlier yX2_earlier, Cond.code yX2_earlier cX2_earlier 5 (some .boolean), Cond.methodLink RX2 54 yX2_depth, Cond.instanceMethod yX2_depth, Cond.selects RX2 yX2_depth yX2_depth, Cond.code yX2_depth cX2_depth 6 (some .int), Cond.fieldLink RX2 7 "DozingDevicesModel" "parents" "[I", Cond.methodLink RX2 85 yX2_become, Cond.instanceMethod yX2_become, Cond.selects RX2 yX2_become yX2_become]
def wsX2_sink_r2 : List Cond := [Cond.code yX2_become cX2_become 3 none, Cond.fieldLink RX2 71 "DozingDevicesModel" "changes" "I"]
def wsX2_sink : List Cond := .code yX2_sink cX2_sink 2 none :: ((wsX2_sink_r1 ++ wsX2_sink_r2) ++ wsX20)
def wsX2_rise_r1 : List Cond := [Cond.fieldLink RX2 58 "DozingDevicesModel" "stage" "I", Cond.fieldLink RX2 25 "DozingDevicesModel" "mind" "[I", Cond.fieldLink RX2 44 "DozingDevicesModel" "dueOne" "I", Cond.fieldLink RX2 16 "DozingDevicesModel" "ups" "[I", Cond.fieldLink RX2 89 "DozingDevicesModel" "toGo" "I", Cond.methodLink RX2 92 yX2_firstOff, Cond.instanceMethod yX2_firstOff, Cond.selects RX2 yX2_firstOff yX2_firstOff, Cond.initialized RX2, Cond.code yX2_firstOff cX2_firstOff 3 (some .int), Cond.fieldLink RX2 51 "DozingDevicesModel" "count" "I", Cond.fieldLink RX2 22 "DozingDevicesModel" "mode" "[I", Cond.methodLink RX2 74 yX2_earlier, Cond.instanceMethod yX2_earlier, Cond.selects RX2 yX2_earlier yX2_earlier, Cond.code yX2_earlier cX2_earlier 5 (some .boolean), Cond.methodLink RX2 54 yX2_depth, Cond.instanceMethod yX2_depth, Cond.selects RX2 yX2_depth yX2_depth, Cond.code yX2_depth cX2_depth 6 (some .int), Cond.fieldLink RX2 7 "DozingDevicesModel" "parents" "[I", Cond.methodLink RX2 85 yX2_become, Cond.instanceMethod yX2_become, Cond.selects RX2 yX2_become yX2_become]
def wsX2_rise_r2 : List Cond := [Cond.code yX2_become cX2_become 3 none, Cond.fieldLink RX2 71 "DozingDevicesModel" "changes" "I"]
def wsX2_rise : List Cond := .code yX2_rise cX2_rise 2 none :: ((wsX2_rise_r1 ++ wsX2_rise_r2) ++ wsX20)
def wsX2_follow_r1 : List Cond := [Cond.fieldLink RX2 44 "DozingDevicesModel" "dueOne" "I", Cond.fieldLink RX2 58 "DozingDevicesModel" "stage" "I", Cond.methodLink RX2 95 yX2_sink, Cond.instanceMethod yX2_sink, Cond.selects RX2 yX2_sink yX2_sink, Cond.initialized RX2, Cond.code yX2_sink cX2_sink 2 none, Cond.fieldLink RX2 82 "DozingDevicesModel" "asleep" "I", Cond.fieldLink RX2 22 "DozingDevicesModel" "mode" "[I", Cond.fieldLink RX2 13 "DozingDevicesModel" "downs" "[I", Cond.fieldLink RX2 89 "DozingDevicesModel" "toGo" "I", Cond.methodLink RX2 78 yX2_lastAwake, Cond.instanceMethod yX2_lastAwake, Cond.selects RX2 yX2_lastAwake yX2_lastAwake, Cond.code yX2_lastAwake cX2_lastAwake 3 (some .int), Cond.fieldLink RX2 51 "DozingDevicesModel" "count" "I", Cond.methodLink RX2 74 yX2_earlier, Cond.instanceMethod yX2_earlier, Cond.selects RX2 yX2_earlier yX2_earlier, Cond.code yX2_earlier cX2_earlier 5 (some .boolean), Cond.methodLink RX2 54 yX2_depth, Cond.instanceMethod yX2_depth, Cond.selects RX2 yX2_depth yX2_depth, Cond.code yX2_depth cX2_depth 6 (some .int)]
def wsX2_follow_r2 : List Cond := [Cond.fieldLink RX2 7 "DozingDevicesModel" "parents" "[I", Cond.methodLink RX2 85 yX2_become, Cond.instanceMethod yX2_become, Cond.selects RX2 yX2_become yX2_become, Cond.code yX2_become cX2_become 3 none, Cond.fieldLink RX2 71 "DozingDevicesModel" "changes" "I", Cond.methodLink RX2 98 yX2_rise, Cond.instanceMethod yX2_rise, Cond.selects RX2 yX2_rise yX2_rise, Cond.code yX2_rise cX2_rise 2 none, Cond.fieldLink RX2 25 "DozingDevicesModel" "mind" "[I", Cond.fieldLink RX2 16 "DozingDevicesModel" "ups" "[I", Cond.methodLink RX2 92 yX2_firstOff, Cond.instanceMethod yX2_firstOff, Cond.selects RX2 yX2_firstOff yX2_firstOff, Cond.code yX2_firstOff cX2_firstOff 3 (some .int)]
def wsX2_follow : List Cond := .code yX2_follow cX2_follow 2 none :: ((wsX2_follow_r1 ++ wsX2_follow_r2) ++ wsX20)
def wsX2_giveUp : List Cond := .code yX2_giveUp cX2_giveUp 3 none :: ([.fieldLink RX2 58 "DozingDevicesModel" "stage" "I", .fieldLink RX2 44 "DozingDevicesModel" "dueOne" "I", .fieldLink RX2 48 "DozingDevicesModel" "namedOne" "I", .fieldLink RX2 101 "DozingDevicesModel" "reason" "I", .fieldLink RX2 104 "DozingDevicesModel" "givenUp" "I"] ++ wsX20)
def wsX2_sleep_r1 : List Cond := [Cond.fieldLink RX2 58 "DozingDevicesModel" "stage" "I", Cond.fieldLink RX2 51 "DozingDevicesModel" "count" "I", Cond.fieldLink RX2 25 "DozingDevicesModel" "mind" "[I", Cond.fieldLink RX2 22 "DozingDevicesModel" "mode" "[I", Cond.methodLink RX2 107 yX2_follow, Cond.instanceMethod yX2_follow, Cond.selects RX2 yX2_follow yX2_follow, Cond.initialized RX2, Cond.code yX2_follow cX2_follow 2 none, Cond.fieldLink RX2 44 "DozingDevicesModel" "dueOne" "I", Cond.methodLink RX2 95 yX2_sink, Cond.instanceMethod yX2_sink, Cond.selects RX2 yX2_sink yX2_sink, Cond.code yX2_sink cX2_sink 2 none, Cond.fieldLink RX2 82 "DozingDevicesModel" "asleep" "I", Cond.fieldLink RX2 13 "DozingDevicesModel" "downs" "[I", Cond.fieldLink RX2 89 "DozingDevicesModel" "toGo" "I", Cond.methodLink RX2 78 yX2_lastAwake, Cond.instanceMethod yX2_lastAwake, Cond.selects RX2 yX2_lastAwake yX2_lastAwake, Cond.code yX2_lastAwake cX2_lastAwake 3 (some .int), Cond.methodLink RX2 74 yX2_earlier, Cond.instanceMethod yX2_earlier, Cond.selects RX2 yX2_earlier yX2_earlier]
def wsX2_sleep_r2 : List Cond := [Cond.code yX2_earlier cX2_earlier 5 (some .boolean), Cond.methodLink RX2 54 yX2_depth, Cond.instanceMethod yX2_depth, Cond.selects RX2 yX2_depth yX2_depth, Cond.code yX2_depth cX2_depth 6 (some .int), Cond.fieldLink RX2 7 "DozingDevicesModel" "parents" "[I", Cond.methodLink RX2 85 yX2_become, Cond.instanceMethod yX2_become, Cond.selects RX2 yX2_become yX2_become, Cond.code yX2_become cX2_become 3 none, Cond.fieldLink RX2 71 "DozingDevicesModel" "changes" "I", Cond.methodLink RX2 98 yX2_rise, Cond.instanceMethod yX2_rise, Cond.selects RX2 yX2_rise yX2_rise, Cond.code yX2_rise cX2_rise 2 none, Cond.fieldLink RX2 16 "DozingDevicesModel" "ups" "[I", Cond.methodLink RX2 92 yX2_firstOff, Cond.instanceMethod yX2_firstOff, Cond.selects RX2 yX2_firstOff yX2_firstOff, Cond.code yX2_firstOff cX2_firstOff 3 (some .int)]
def wsX2_sleep : List Cond := .code yX2_sleep cX2_sleep 2 (some .int) :: ((wsX2_sleep_r1 ++ wsX2_sleep_r2) ++ wsX20)
def wsX2_signal_r1 : List Cond := [Cond.fieldLink RX2 37 "DozingDevicesModel" "wakes" "[Z", Cond.fieldLink RX2 58 "DozingDevicesModel" "stage" "I", Cond.methodLink RX2 67 yX2_none, Cond.instanceMethod yX2_none, Cond.selects RX2 yX2_none yX2_none, Cond.initialized RX2, Cond.code yX2_none cX2_none 2 (some .boolean), Cond.fieldLink RX2 51 "DozingDevicesModel" "count" "I", Cond.methodLink RX2 110 yX2_giveUp, Cond.instanceMethod yX2_giveUp, Cond.selects RX2 yX2_giveUp yX2_giveUp, Cond.code yX2_giveUp cX2_giveUp 3 none, Cond.fieldLink RX2 44 "DozingDevicesModel" "dueOne" "I", Cond.fieldLink RX2 48 "DozingDevicesModel" "namedOne" "I", Cond.fieldLink RX2 101 "DozingDevicesModel" "reason" "I", Cond.fieldLink RX2 104 "DozingDevicesModel" "givenUp" "I", Cond.methodLink RX2 107 yX2_follow, Cond.instanceMethod yX2_follow, Cond.selects RX2 yX2_follow yX2_follow, Cond.code yX2_follow cX2_follow 2 none, Cond.methodLink RX2 95 yX2_sink, Cond.instanceMethod yX2_sink, Cond.selects RX2 yX2_sink yX2_sink, Cond.code yX2_sink cX2_sink 2 none]
def wsX2_signal_r2 : List Cond := [Cond.fieldLink RX2 82 "DozingDevicesModel" "asleep" "I", Cond.fieldLink RX2 22 "DozingDevicesModel" "mode" "[I", Cond.fieldLink RX2 13 "DozingDevicesModel" "downs" "[I", Cond.fieldLink RX2 89 "DozingDevicesModel" "toGo" "I", Cond.methodLink RX2 78 yX2_lastAwake, Cond.instanceMethod yX2_lastAwake, Cond.selects RX2 yX2_lastAwake yX2_lastAwake, Cond.code yX2_lastAwake cX2_lastAwake 3 (some .int), Cond.methodLink RX2 74 yX2_earlier, Cond.instanceMethod yX2_earlier, Cond.selects RX2 yX2_earlier yX2_earlier, Cond.code yX2_earlier cX2_earlier 5 (some .boolean), Cond.methodLink RX2 54 yX2_depth, Cond.instanceMethod yX2_depth, Cond.selects RX2 yX2_depth yX2_depth, Cond.code yX2_depth cX2_depth 6 (some .int), Cond.fieldLink RX2 7 "DozingDevicesModel" "parents" "[I", Cond.methodLink RX2 85 yX2_become, Cond.instanceMethod yX2_become, Cond.selects RX2 yX2_become yX2_become, Cond.code yX2_become cX2_become 3 none, Cond.fieldLink RX2 71 "DozingDevicesModel" "changes" "I", Cond.methodLink RX2 98 yX2_rise, Cond.instanceMethod yX2_rise]
def wsX2_signal_r3 : List Cond := [Cond.selects RX2 yX2_rise yX2_rise, Cond.code yX2_rise cX2_rise 2 none, Cond.fieldLink RX2 25 "DozingDevicesModel" "mind" "[I", Cond.fieldLink RX2 16 "DozingDevicesModel" "ups" "[I", Cond.methodLink RX2 92 yX2_firstOff, Cond.instanceMethod yX2_firstOff, Cond.selects RX2 yX2_firstOff yX2_firstOff, Cond.code yX2_firstOff cX2_firstOff 3 (some .int)]
def wsX2_signal : List Cond := .code yX2_signal cX2_signal 3 (some .int) :: ((wsX2_signal_r1 ++ (wsX2_signal_r2 ++ wsX2_signal_r3)) ++ wsX20)
def wsX2_watch : List Cond := .code yX2_watch cX2_watch 2 (some .boolean) :: ([.fieldLink RX2 113 "DozingDevicesModel" "limit" "I", .fieldLink RX2 116 "DozingDevicesModel" "since" "I"] ++ wsX20)
def wsX2_kick : List Cond := .code yX2_kick cX2_kick 2 (some .int) :: ([.fieldLink RX2 116 "DozingDevicesModel" "since" "I"] ++ wsX20)
def wsX2_reset : List Cond := .code yX2_reset cX2_reset 2 none :: ([.fieldLink RX2 51 "DozingDevicesModel" "count" "I", .fieldLink RX2 22 "DozingDevicesModel" "mode" "[I", .fieldLink RX2 71 "DozingDevicesModel" "changes" "I", .fieldLink RX2 28 "DozingDevicesModel" "used" "[I", .fieldLink RX2 31 "DozingDevicesModel" "idles" "[I", .fieldLink RX2 58 "DozingDevicesModel" "stage" "I", .fieldLink RX2 44 "DozingDevicesModel" "dueOne" "I", .fieldLink RX2 48 "DozingDevicesModel" "namedOne" "I", .fieldLink RX2 101 "DozingDevicesModel" "reason" "I", .fieldLink RX2 116 "DozingDevicesModel" "since" "I", .fieldLink RX2 119 "DozingDevicesModel" "resets" "I"] ++ wsX20)
def wsX2_childOn : List Cond := .code yX2_childOn cX2_childOn 4 (some .boolean) :: ([.fieldLink RX2 51 "DozingDevicesModel" "count" "I", .fieldLink RX2 7 "DozingDevicesModel" "parents" "[I", .fieldLink RX2 22 "DozingDevicesModel" "mode" "[I"] ++ wsX20)
def wsX2_doze : List Cond := .code yX2_doze cX2_doze 2 none :: ([.fieldLink RX2 51 "DozingDevicesModel" "count" "I", .fieldLink RX2 41 "DozingDevicesModel" "resting" "[Z", .fieldLink RX2 22 "DozingDevicesModel" "mode" "[I", .fieldLink RX2 28 "DozingDevicesModel" "used" "[I", .fieldLink RX2 31 "DozingDevicesModel" "idles" "[I", .fieldLink RX2 19 "DozingDevicesModel" "delays" "[I", .methodLink RX2 122 yX2_childOn, .instanceMethod yX2_childOn, .selects RX2 yX2_childOn yX2_childOn, .initialized RX2, .code yX2_childOn cX2_childOn 4 (some .boolean), .fieldLink RX2 7 "DozingDevicesModel" "parents" "[I", .methodLink RX2 85 yX2_become, .instanceMethod yX2_become, .selects RX2 yX2_become yX2_become, .code yX2_become cX2_become 3 none, .fieldLink RX2 71 "DozingDevicesModel" "changes" "I"] ++ wsX20)
def wsX2_work_r1 : List Cond := [Cond.fieldLink RX2 89 "DozingDevicesModel" "toGo" "I", Cond.fieldLink RX2 44 "DozingDevicesModel" "dueOne" "I", Cond.fieldLink RX2 58 "DozingDevicesModel" "stage" "I", Cond.fieldLink RX2 34 "DozingDevicesModel" "nos" "[I", Cond.methodLink RX2 85 yX2_become, Cond.instanceMethod yX2_become, Cond.selects RX2 yX2_become yX2_become, Cond.initialized RX2, Cond.code yX2_become cX2_become 3 none, Cond.fieldLink RX2 22 "DozingDevicesModel" "mode" "[I", Cond.fieldLink RX2 71 "DozingDevicesModel" "changes" "I", Cond.methodLink RX2 110 yX2_giveUp, Cond.instanceMethod yX2_giveUp, Cond.selects RX2 yX2_giveUp yX2_giveUp, Cond.code yX2_giveUp cX2_giveUp 3 none, Cond.fieldLink RX2 48 "DozingDevicesModel" "namedOne" "I", Cond.fieldLink RX2 101 "DozingDevicesModel" "reason" "I", Cond.fieldLink RX2 104 "DozingDevicesModel" "givenUp" "I", Cond.methodLink RX2 107 yX2_follow, Cond.instanceMethod yX2_follow, Cond.selects RX2 yX2_follow yX2_follow, Cond.code yX2_follow cX2_follow 2 none, Cond.methodLink RX2 95 yX2_sink, Cond.instanceMethod yX2_sink]
def wsX2_work_r2 : List Cond := [Cond.selects RX2 yX2_sink yX2_sink, Cond.code yX2_sink cX2_sink 2 none, Cond.fieldLink RX2 82 "DozingDevicesModel" "asleep" "I", Cond.fieldLink RX2 13 "DozingDevicesModel" "downs" "[I", Cond.methodLink RX2 78 yX2_lastAwake, Cond.instanceMethod yX2_lastAwake, Cond.selects RX2 yX2_lastAwake yX2_lastAwake, Cond.code yX2_lastAwake cX2_lastAwake 3 (some .int), Cond.fieldLink RX2 51 "DozingDevicesModel" "count" "I", Cond.methodLink RX2 74 yX2_earlier, Cond.instanceMethod yX2_earlier, Cond.selects RX2 yX2_earlier yX2_earlier, Cond.code yX2_earlier cX2_earlier 5 (some .boolean), Cond.methodLink RX2 54 yX2_depth, Cond.instanceMethod yX2_depth, Cond.selects RX2 yX2_depth yX2_depth, Cond.code yX2_depth cX2_depth 6 (some .int), Cond.fieldLink RX2 7 "DozingDevicesModel" "parents" "[I", Cond.methodLink RX2 98 yX2_rise, Cond.instanceMethod yX2_rise, Cond.selects RX2 yX2_rise yX2_rise, Cond.code yX2_rise cX2_rise 2 none, Cond.fieldLink RX2 25 "DozingDevicesModel" "mind" "[I", Cond.fieldLink RX2 16 "DozingDevicesModel" "ups" "[I"]
def wsX2_work_r3 : List Cond := [Cond.methodLink RX2 92 yX2_firstOff, Cond.instanceMethod yX2_firstOff, Cond.selects RX2 yX2_firstOff yX2_firstOff, Cond.code yX2_firstOff cX2_firstOff 3 (some .int)]
def wsX2_work : List Cond := .code yX2_work cX2_work 2 none :: ((wsX2_work_r1 ++ (wsX2_work_r2 ++ wsX2_work_r3)) ++ wsX20)
def wsX2_once_r1 : List Cond := [Cond.fieldLink RX2 125 "DozingDevicesModel" "time" "I", Cond.fieldLink RX2 113 "DozingDevicesModel" "limit" "I", Cond.fieldLink RX2 58 "DozingDevicesModel" "stage" "I", Cond.fieldLink RX2 116 "DozingDevicesModel" "since" "I", Cond.methodLink RX2 128 yX2_reset, Cond.instanceMethod yX2_reset, Cond.selects RX2 yX2_reset yX2_reset, Cond.initialized RX2, Cond.code yX2_reset cX2_reset 2 none, Cond.fieldLink RX2 51 "DozingDevicesModel" "count" "I", Cond.fieldLink RX2 22 "DozingDevicesModel" "mode" "[I", Cond.fieldLink RX2 71 "DozingDevicesModel" "changes" "I", Cond.fieldLink RX2 28 "DozingDevicesModel" "used" "[I", Cond.fieldLink RX2 31 "DozingDevicesModel" "idles" "[I", Cond.fieldLink RX2 44 "DozingDevicesModel" "dueOne" "I", Cond.fieldLink RX2 48 "DozingDevicesModel" "namedOne" "I", Cond.fieldLink RX2 101 "DozingDevicesModel" "reason" "I", Cond.fieldLink RX2 119 "DozingDevicesModel" "resets" "I", Cond.methodLink RX2 131 yX2_doze, Cond.instanceMethod yX2_doze, Cond.selects RX2 yX2_doze yX2_doze, Cond.code yX2_doze cX2_doze 2 none, Cond.fieldLink RX2 41 "DozingDevicesModel" "resting" "[Z", Cond.fieldLink RX2 19 "DozingDevicesModel" "delays" "[I"]
def wsX2_once_r2 : List Cond := [Cond.methodLink RX2 122 yX2_childOn, Cond.instanceMethod yX2_childOn, Cond.selects RX2 yX2_childOn yX2_childOn, Cond.code yX2_childOn cX2_childOn 4 (some .boolean), Cond.fieldLink RX2 7 "DozingDevicesModel" "parents" "[I", Cond.methodLink RX2 85 yX2_become, Cond.instanceMethod yX2_become, Cond.selects RX2 yX2_become yX2_become, Cond.code yX2_become cX2_become 3 none, Cond.methodLink RX2 134 yX2_work, Cond.instanceMethod yX2_work, Cond.selects RX2 yX2_work yX2_work, Cond.code yX2_work cX2_work 2 none, Cond.fieldLink RX2 89 "DozingDevicesModel" "toGo" "I", Cond.fieldLink RX2 34 "DozingDevicesModel" "nos" "[I", Cond.methodLink RX2 110 yX2_giveUp, Cond.instanceMethod yX2_giveUp, Cond.selects RX2 yX2_giveUp yX2_giveUp, Cond.code yX2_giveUp cX2_giveUp 3 none, Cond.fieldLink RX2 104 "DozingDevicesModel" "givenUp" "I", Cond.methodLink RX2 107 yX2_follow, Cond.instanceMethod yX2_follow, Cond.selects RX2 yX2_follow yX2_follow, Cond.code yX2_follow cX2_follow 2 none]
def wsX2_once_r3 : List Cond := [Cond.methodLink RX2 95 yX2_sink, Cond.instanceMethod yX2_sink, Cond.selects RX2 yX2_sink yX2_sink, Cond.code yX2_sink cX2_sink 2 none, Cond.fieldLink RX2 82 "DozingDevicesModel" "asleep" "I", Cond.fieldLink RX2 13 "DozingDevicesModel" "downs" "[I", Cond.methodLink RX2 78 yX2_lastAwake, Cond.instanceMethod yX2_lastAwake, Cond.selects RX2 yX2_lastAwake yX2_lastAwake, Cond.code yX2_lastAwake cX2_lastAwake 3 (some .int), Cond.methodLink RX2 74 yX2_earlier, Cond.instanceMethod yX2_earlier, Cond.selects RX2 yX2_earlier yX2_earlier, Cond.code yX2_earlier cX2_earlier 5 (some .boolean), Cond.methodLink RX2 54 yX2_depth, Cond.instanceMethod yX2_depth, Cond.selects RX2 yX2_depth yX2_depth, Cond.code yX2_depth cX2_depth 6 (some .int), Cond.methodLink RX2 98 yX2_rise, Cond.instanceMethod yX2_rise, Cond.selects RX2 yX2_rise yX2_rise, Cond.code yX2_rise cX2_rise 2 none, Cond.fieldLink RX2 25 "DozingDevicesModel" "mind" "[I", Cond.fieldLink RX2 16 "DozingDevicesModel" "ups" "[I"]
def wsX2_once_r4 : List Cond := [Cond.methodLink RX2 92 yX2_firstOff, Cond.instanceMethod yX2_firstOff, Cond.selects RX2 yX2_firstOff yX2_firstOff, Cond.code yX2_firstOff cX2_firstOff 3 (some .int)]
def wsX2_once : List Cond := .code yX2_once cX2_once 1 none :: ((wsX2_once_r1 ++ (wsX2_once_r2 ++ (wsX2_once_r3 ++ wsX2_once_r4))) ++ wsX20)
def wsX2_tick_r1 : List Cond := [Cond.fieldLink RX2 71 "DozingDevicesModel" "changes" "I", Cond.methodLink RX2 137 yX2_once, Cond.instanceMethod yX2_once, Cond.selects RX2 yX2_once yX2_once, Cond.initialized RX2, Cond.code yX2_once cX2_once 1 none, Cond.fieldLink RX2 125 "DozingDevicesModel" "time" "I", Cond.fieldLink RX2 113 "DozingDevicesModel" "limit" "I", Cond.fieldLink RX2 58 "DozingDevicesModel" "stage" "I", Cond.fieldLink RX2 116 "DozingDevicesModel" "since" "I", Cond.methodLink RX2 128 yX2_reset, Cond.instanceMethod yX2_reset, Cond.selects RX2 yX2_reset yX2_reset, Cond.code yX2_reset cX2_reset 2 none, Cond.fieldLink RX2 51 "DozingDevicesModel" "count" "I", Cond.fieldLink RX2 22 "DozingDevicesModel" "mode" "[I", Cond.fieldLink RX2 28 "DozingDevicesModel" "used" "[I", Cond.fieldLink RX2 31 "DozingDevicesModel" "idles" "[I", Cond.fieldLink RX2 44 "DozingDevicesModel" "dueOne" "I", Cond.fieldLink RX2 48 "DozingDevicesModel" "namedOne" "I", Cond.fieldLink RX2 101 "DozingDevicesModel" "reason" "I", Cond.fieldLink RX2 119 "DozingDevicesModel" "resets" "I", Cond.methodLink RX2 131 yX2_doze, Cond.instanceMethod yX2_doze]
def wsX2_tick_r2 : List Cond := [Cond.selects RX2 yX2_doze yX2_doze, Cond.code yX2_doze cX2_doze 2 none, Cond.fieldLink RX2 41 "DozingDevicesModel" "resting" "[Z", Cond.fieldLink RX2 19 "DozingDevicesModel" "delays" "[I", Cond.methodLink RX2 122 yX2_childOn, Cond.instanceMethod yX2_childOn, Cond.selects RX2 yX2_childOn yX2_childOn, Cond.code yX2_childOn cX2_childOn 4 (some .boolean), Cond.fieldLink RX2 7 "DozingDevicesModel" "parents" "[I", Cond.methodLink RX2 85 yX2_become, Cond.instanceMethod yX2_become, Cond.selects RX2 yX2_become yX2_become, Cond.code yX2_become cX2_become 3 none, Cond.methodLink RX2 134 yX2_work, Cond.instanceMethod yX2_work, Cond.selects RX2 yX2_work yX2_work, Cond.code yX2_work cX2_work 2 none, Cond.fieldLink RX2 89 "DozingDevicesModel" "toGo" "I", Cond.fieldLink RX2 34 "DozingDevicesModel" "nos" "[I", Cond.methodLink RX2 110 yX2_giveUp, Cond.instanceMethod yX2_giveUp, Cond.selects RX2 yX2_giveUp yX2_giveUp, Cond.code yX2_giveUp cX2_giveUp 3 none, Cond.fieldLink RX2 104 "DozingDevicesModel" "givenUp" "I"]
def wsX2_tick_r3 : List Cond := [Cond.methodLink RX2 107 yX2_follow, Cond.instanceMethod yX2_follow, Cond.selects RX2 yX2_follow yX2_follow, Cond.code yX2_follow cX2_follow 2 none, Cond.methodLink RX2 95 yX2_sink, Cond.instanceMethod yX2_sink, Cond.selects RX2 yX2_sink yX2_sink, Cond.code yX2_sink cX2_sink 2 none, Cond.fieldLink RX2 82 "DozingDevicesModel" "asleep" "I", Cond.fieldLink RX2 13 "DozingDevicesModel" "downs" "[I", Cond.methodLink RX2 78 yX2_lastAwake, Cond.instanceMethod yX2_lastAwake, Cond.selects RX2 yX2_lastAwake yX2_lastAwake, Cond.code yX2_lastAwake cX2_lastAwake 3 (some .int), Cond.methodLink RX2 74 yX2_earlier, Cond.instanceMethod yX2_earlier, Cond.selects RX2 yX2_earlier yX2_earlier, Cond.code yX2_earlier cX2_earlier 5 (some .boolean), Cond.methodLink RX2 54 yX2_depth, Cond.instanceMethod yX2_depth, Cond.selects RX2 yX2_depth yX2_depth, Cond.code yX2_depth cX2_depth 6 (some .int), Cond.methodLink RX2 98 yX2_rise, Cond.instanceMethod yX2_rise]
def wsX2_tick_r4 : List Cond := [Cond.selects RX2 yX2_rise yX2_rise, Cond.code yX2_rise cX2_rise 2 none, Cond.fieldLink RX2 25 "DozingDevicesModel" "mind" "[I", Cond.fieldLink RX2 16 "DozingDevicesModel" "ups" "[I", Cond.methodLink RX2 92 yX2_firstOff, Cond.instanceMethod yX2_firstOff, Cond.selects RX2 yX2_firstOff yX2_firstOff, Cond.code yX2_firstOff cX2_firstOff 3 (some .int)]
def wsX2_tick : List Cond := .code yX2_tick cX2_tick 3 (some .int) :: ((wsX2_tick_r1 ++ (wsX2_tick_r2 ++ (wsX2_tick_r3 ++ wsX2_tick_r4))) ++ wsX20)
def wsX2_phase : List Cond := .code yX2_phase cX2_phase 1 (some .int) :: ([.fieldLink RX2 58 "DozingDevicesModel" "stage" "I"] ++ wsX20)
def wsX2_state : List Cond := .code yX2_state cX2_state 2 (some .int) :: ([.fieldLink RX2 22 "DozingDevicesModel" "mode" "[I", .methodLink RX2 67 yX2_none, .instanceMethod yX2_none, .selects RX2 yX2_none yX2_none, .initialized RX2, .code yX2_none cX2_none 2 (some .boolean), .fieldLink RX2 51 "DozingDevicesModel" "count" "I"] ++ wsX20)
def wsX2_uses : List Cond := .code yX2_uses cX2_uses 2 (some .int) :: ([.fieldLink RX2 28 "DozingDevicesModel" "used" "[I", .methodLink RX2 67 yX2_none, .instanceMethod yX2_none, .selects RX2 yX2_none yX2_none, .initialized RX2, .code yX2_none cX2_none 2 (some .boolean), .fieldLink RX2 51 "DozingDevicesModel" "count" "I"] ++ wsX20)
def wsX2_idle : List Cond := .code yX2_idle cX2_idle 2 (some .int) :: ([.fieldLink RX2 31 "DozingDevicesModel" "idles" "[I", .methodLink RX2 67 yX2_none, .instanceMethod yX2_none, .selects RX2 yX2_none yX2_none, .initialized RX2, .code yX2_none cX2_none 2 (some .boolean), .fieldLink RX2 51 "DozingDevicesModel" "count" "I"] ++ wsX20)
def wsX2_refusals : List Cond := .code yX2_refusals cX2_refusals 2 (some .int) :: ([.fieldLink RX2 34 "DozingDevicesModel" "nos" "[I", .methodLink RX2 67 yX2_none, .instanceMethod yX2_none, .selects RX2 yX2_none yX2_none, .initialized RX2, .code yX2_none cX2_none 2 (some .boolean), .fieldLink RX2 51 "DozingDevicesModel" "count" "I"] ++ wsX20)
def wsX2_due : List Cond := .code yX2_due cX2_due 1 (some .int) :: ([.fieldLink RX2 44 "DozingDevicesModel" "dueOne" "I"] ++ wsX20)
def wsX2_left : List Cond := .code yX2_left cX2_left 1 (some .int) :: ([.fieldLink RX2 44 "DozingDevicesModel" "dueOne" "I", .fieldLink RX2 89 "DozingDevicesModel" "toGo" "I"] ++ wsX20)
def wsX2_named : List Cond := .code yX2_named cX2_named 1 (some .int) :: ([.fieldLink RX2 48 "DozingDevicesModel" "namedOne" "I"] ++ wsX20)
def wsX2_figure : List Cond := .code yX2_figure cX2_figure 2 (some .int) :: ([.fieldLink RX2 125 "DozingDevicesModel" "time" "I", .fieldLink RX2 116 "DozingDevicesModel" "since" "I", .fieldLink RX2 119 "DozingDevicesModel" "resets" "I", .fieldLink RX2 82 "DozingDevicesModel" "asleep" "I", .fieldLink RX2 104 "DozingDevicesModel" "givenUp" "I", .fieldLink RX2 101 "DozingDevicesModel" "reason" "I", .fieldLink RX2 51 "DozingDevicesModel" "count" "I"] ++ wsX20)
def wsJ9_max_7cf53 : List Cond := .code yJ9_max_7cf53 cJ9_max_7cf53 2 (some .int) :: ([])
def wsJ9_min_7cf53 : List Cond := .code yJ9_min_7cf53 cJ9_min_7cf53 2 (some .int) :: ([])
def wsL_law_r1 : List Cond := [Cond.classLink RL 7 RX1, Cond.instantiable RX1 14, Cond.initialized RX1, Cond.classLink RL 10 RX2, Cond.instantiable RX2 24, Cond.initialized RX2, Cond.methodLink RL 9 yX1_init, Cond.instanceMethod yX1_init, Cond.code yX1_init cX1_init 1 none, Cond.methodLink RX1 1 objectInit, Cond.instanceMethod objectInit, Cond.code objectInit ⟨#[0xb1]⟩ 1 none, Cond.classLink RX1 7 RJx4a65c, Cond.instantiable RJx4a65c 3, Cond.initialized RJx4a65c, Cond.fieldLink RX1 10 "DozingDevices" "devices" "Ljava/util/ArrayList;", Cond.fieldLink RX1 16 "DozingDevices" "order" "Ljava/util/ArrayList;", Cond.fieldLink RX1 19 "DozingDevices" "phase" "I", Cond.fieldLink RX1 23 "DozingDevices" "dueDevice" "LDozingDevices$Device;", Cond.fieldLink RX1 27 "DozingDevices" "ticksLeft" "I", Cond.fieldLink RX1 30 "DozingDevices" "time" "I", Cond.fieldLink RX1 33 "DozingDevices" "watchLimit" "I", Cond.fieldLink RX1 36 "DozingDevices" "sinceKick" "I", Cond.fieldLink RX1 39 "DozingDevices" "resets" "I"]
def wsL_law_r2 : List Cond := [Cond.fieldLink RX1 42 "DozingDevices" "timesAsleep" "I", Cond.fieldLink RX1 45 "DozingDevices" "givenUp" "I", Cond.fieldLink RX1 48 "DozingDevices" "reason" "I", Cond.fieldLink RX1 51 "DozingDevices" "namedDevice" "I", Cond.fieldLink RX1 54 "DozingDevices" "turns" "I", Cond.methodLink RX1 9 yJx4a65c_init_da8c8, Cond.instanceMethod yJx4a65c_init_da8c8, Cond.code yJx4a65c_init_da8c8 cJx4a65c_init_da8c8 1 none, Cond.fieldLink RJx4a65c 39 "java/util/ArrayList" "DEFAULTCAPACITY_EMPTY_ELEMENTDATA" "[Ljava/lang/Object;", Cond.fieldLink RJx4a65c 9 "java/util/ArrayList" "elementData" "[Ljava/lang/Object;", Cond.methodLink RJx4a65c 1 yJxc12de_init_da8c8, Cond.instanceMethod yJxc12de_init_da8c8, Cond.initialized RJxc12de, Cond.code yJxc12de_init_da8c8 cJxc12de_init_da8c8 1 none, Cond.fieldLink RJxc12de 7 "java/util/AbstractList" "modCount" "I", Cond.methodLink RJxc12de 1 yJxa1e45_init_da8c8, Cond.instanceMethod yJxa1e45_init_da8c8, Cond.initialized RJxa1e45, Cond.code yJxa1e45_init_da8c8 cJxa1e45_init_da8c8 1 none, Cond.methodLink RJxa1e45 1 objectInit, Cond.methodLink RL 12 yX2_init, Cond.instanceMethod yX2_init, Cond.code yX2_init cX2_init 1 none, Cond.methodLink RX2 1 objectInit]
def wsL_law_r3 : List Cond := [Cond.arrayClass .int, Cond.fieldLink RX2 7 "DozingDevicesModel" "parents" "[I", Cond.fieldLink RX2 13 "DozingDevicesModel" "downs" "[I", Cond.fieldLink RX2 16 "DozingDevicesModel" "ups" "[I", Cond.fieldLink RX2 19 "DozingDevicesModel" "delays" "[I", Cond.fieldLink RX2 22 "DozingDevicesModel" "mode" "[I", Cond.fieldLink RX2 25 "DozingDevicesModel" "mind" "[I", Cond.fieldLink RX2 28 "DozingDevicesModel" "used" "[I", Cond.fieldLink RX2 31 "DozingDevicesModel" "idles" "[I", Cond.fieldLink RX2 34 "DozingDevicesModel" "nos" "[I", Cond.arrayClass .boolean, Cond.fieldLink RX2 37 "DozingDevicesModel" "wakes" "[Z", Cond.fieldLink RX2 41 "DozingDevicesModel" "resting" "[Z", Cond.fieldLink RX2 44 "DozingDevicesModel" "dueOne" "I", Cond.fieldLink RX2 48 "DozingDevicesModel" "namedOne" "I", Cond.methodLink RL 13 yX1_device, Cond.instanceMethod yX1_device, Cond.selects RX1 yX1_device yX1_device, Cond.code yX1_device cX1_device 6 (some .int), Cond.classLink RX1 69 RX0, Cond.instantiable RX0 13, Cond.initialized RX0, Cond.fieldLink RX1 85 "DozingDevices$Device" "depth" "I", Cond.fieldLink RX1 94 "DozingDevices$Device" "ancestors" "I"]
def wsL_law_r4 : List Cond := [Cond.fieldLink RX1 101 "DozingDevices$Device" "number" "I", Cond.methodLink RX1 57 yX1_areDevices, Cond.instanceMethod yX1_areDevices, Cond.selects RX1 yX1_areDevices yX1_areDevices, Cond.code yX1_areDevices cX1_areDevices 2 (some .boolean), Cond.methodLink RX1 65 yJx4a65c_size_8abf5, Cond.instanceMethod yJx4a65c_size_8abf5, Cond.selects RJx4a65c yJx4a65c_size_8abf5 yJx4a65c_size_8abf5, Cond.code yJx4a65c_size_8abf5 cJx4a65c_size_8abf5 1 (some .int), Cond.fieldLink RJx4a65c 48 "java/util/ArrayList" "size" "I", Cond.methodLink RX1 61 yX1_isWithin, Cond.static yX1_isWithin, Cond.code yX1_isWithin cX1_isWithin 3 (some .boolean), Cond.methodLink RX1 71 yX1_withAncestors, Cond.instanceMethod yX1_withAncestors, Cond.selects RX1 yX1_withAncestors yX1_withAncestors, Cond.code yX1_withAncestors cX1_withAncestors 5 (some .int), Cond.classLink RX1 69 "DozingDevices$Device", Cond.methodLink RX1 129 yJx4a65c_get_915e3, Cond.instanceMethod yJx4a65c_get_915e3, Cond.selects RJx4a65c yJx4a65c_get_915e3 yJx4a65c_get_915e3, Cond.code yJx4a65c_get_915e3 cJx4a65c_get_915e3 2 (some (.object "java/lang/Object")), Cond.methodLink RJx4a65c 118 yJ15_checkIndex_7cf53, Cond.static yJ15_checkIndex_7cf53]
def wsL_law_r5 : List Cond := [Cond.initialized RJ15, Cond.code yJ15_checkIndex_7cf53 cJ15_checkIndex_7cf53 2 (some .int), Cond.methodLink RJ15 105 yJ3_checkIndex_8e157, Cond.static yJ3_checkIndex_8e157, Cond.initialized RJ3, Cond.code yJ3_checkIndex_8e157 cJ3_checkIndex_8e157 3 (some .int), Cond.methodLink RJx4a65c 123 yJx4a65c_elementData_915e3, Cond.instanceMethod yJx4a65c_elementData_915e3, Cond.selects RJx4a65c yJx4a65c_elementData_915e3 yJx4a65c_elementData_915e3, Cond.code yJx4a65c_elementData_915e3 cJx4a65c_elementData_915e3 2 (some (.object "java/lang/Object")), Cond.methodLink RX1 148 yX1_holds, Cond.static yX1_holds, Cond.code yX1_holds cX1_holds 2 (some .boolean), Cond.methodLink RX1 111 yX1_bit, Cond.static yX1_bit, Cond.code yX1_bit cX1_bit 1 (some .int), Cond.methodLink RX1 75 yX1_depthUnder, Cond.instanceMethod yX1_depthUnder, Cond.selects RX1 yX1_depthUnder yX1_depthUnder, Cond.code yX1_depthUnder cX1_depthUnder 5 (some .int), Cond.methodLink RX1 152 Lib.Math.max.name, Cond.static Lib.Math.max.name, Cond.initialized "java/lang/Math", Cond.code Lib.Math.max.name Lib.Math.max.code 2 (some .int)]
def wsL_law_r6 : List Cond := [Cond.methodLink RX1 78 yX0_init, Cond.instanceMethod yX0_init, Cond.code yX0_init cX0_init 8 none, Cond.methodLink RX0 3 objectInit, Cond.fieldLink RX0 9 "DozingDevices$Device" "state" "I", Cond.fieldLink RX0 15 "DozingDevices$Device" "inMind" "I", Cond.fieldLink RX0 18 "DozingDevices$Device" "uses" "I", Cond.fieldLink RX0 21 "DozingDevices$Device" "idle" "I", Cond.fieldLink RX0 24 "DozingDevices$Device" "refusals" "I", Cond.fieldLink RX0 27 "DozingDevices$Device" "isWaker" "Z", Cond.fieldLink RX0 31 "DozingDevices$Device" "number" "I", Cond.fieldLink RX0 34 "DozingDevices$Device" "parents" "I", Cond.fieldLink RX0 37 "DozingDevices$Device" "ancestors" "I", Cond.fieldLink RX0 40 "DozingDevices$Device" "depth" "I", Cond.fieldLink RX0 43 "DozingDevices$Device" "down" "I", Cond.fieldLink RX0 46 "DozingDevices$Device" "up" "I", Cond.fieldLink RX0 49 "DozingDevices$Device" "delay" "I", Cond.methodLink RX1 81 yJx4a65c_add_9ea2d, Cond.instanceMethod yJx4a65c_add_9ea2d, Cond.selects RJx4a65c yJx4a65c_add_9ea2d yJx4a65c_add_9ea2d, Cond.code yJx4a65c_add_9ea2d cJx4a65c_add_9ea2d 2 (some .boolean), Cond.fieldLink RJx4a65c 63 "java/util/ArrayList" "modCount" "I", Cond.sameField "java/util/ArrayList" "java/util/AbstractList" "modCount" "I", Cond.methodLink RJx4a65c 131 yJx4a65c_add_72be8]
def wsL_law_r7 : List Cond := [Cond.instanceMethod yJx4a65c_add_72be8, Cond.selects RJx4a65c yJx4a65c_add_72be8 yJx4a65c_add_72be8, Cond.code yJx4a65c_add_72be8 cJx4a65c_add_72be8 4 none, Cond.methodLink RJx4a65c 129 yJx4a65c_grow_d5877, Cond.instanceMethod yJx4a65c_grow_d5877, Cond.selects RJx4a65c yJx4a65c_grow_d5877 yJx4a65c_grow_d5877, Cond.code yJx4a65c_grow_d5877 cJx4a65c_grow_d5877 1 (some (.array (.object "java/lang/Object"))), Cond.methodLink RJx4a65c 69 yJx4a65c_grow_92f84, Cond.instanceMethod yJx4a65c_grow_92f84, Cond.selects RJx4a65c yJx4a65c_grow_92f84 yJx4a65c_grow_92f84, Cond.code yJx4a65c_grow_92f84 cJx4a65c_grow_92f84 4 (some (.array (.object "java/lang/Object"))), Cond.methodLink RJx4a65c 79 Lib.Math.max.name, Cond.classLink RJx4a65c 7 "java/lang/Object", Cond.methodLink RJx4a65c 73 yJ8_newLength_cabcc, Cond.static yJ8_newLength_cabcc, Cond.initialized RJ8, Cond.code yJ8_newLength_cabcc cJ8_newLength_cabcc 4 (some .int), Cond.methodLink RJ8 194 Lib.Math.max.name, Cond.constant RJ8 200 (2147483639), Cond.methodLink RJ8 201 yJ8_hugeLength_7cf53, Cond.static yJ8_hugeLength_7cf53, Cond.code yJ8_hugeLength_7cf53 cJ8_hugeLength_7cf53 3 (some .int), Cond.methodLink RJx4a65c 66 yJ7_copyOf_1904c, Cond.static yJ7_copyOf_1904c]
def wsL_law_r8 : List Cond := [Cond.initialized RJ7, Cond.code yJ7_copyOf_1904c cJ7_copyOf_1904c 2 (some (.array (.object "java/lang/Object"))), Cond.methodLink RJ7 86 ⟨"java/lang/Object", "getClass", "()Ljava/lang/Class;"⟩, Cond.selects "[Ljava/lang/Object;" ⟨"java/lang/Object", "getClass", "()Ljava/lang/Class;"⟩ ⟨"java/lang/Object", "getClass", "()Ljava/lang/Class;"⟩, Cond.instanceMethod ⟨"java/lang/Object", "getClass", "()Ljava/lang/Class;"⟩, Cond.native ⟨"java/lang/Object", "getClass", "()Ljava/lang/Class;"⟩, Cond.methodLink RJ7 300 yJ7_copyOf_6403c, Cond.static yJ7_copyOf_6403c, Cond.code yJ7_copyOf_6403c cJ7_copyOf_6403c 4 (some (.array (.object "java/lang/Object"))), Cond.classLink RJ7 110 "[Ljava/lang/Object;", Cond.classLink RJ7 2 "java/lang/Object", Cond.methodLink RJ7 304 Lib.Math.min.name, Cond.static Lib.Math.min.name, Cond.code Lib.Math.min.name Lib.Math.min.code 2 (some .int), Cond.methodLink RJ7 150 arraycopyName, Cond.native arraycopyName, Cond.static arraycopyName, Cond.initialized "java/lang/System", Cond.methodLink RX1 88 yX1_placeFor, Cond.instanceMethod yX1_placeFor, Cond.selects RX1 yX1_placeFor yX1_placeFor, Cond.code yX1_placeFor cX1_placeFor 4 (some .int), Cond.methodLink RX1 91 yJx4a65c_add_7a177, Cond.instanceMethod yJx4a65c_add_7a177]
def wsL_law_r9 : List Cond := [Cond.selects RJx4a65c yJx4a65c_add_7a177 yJx4a65c_add_7a177, Cond.code yJx4a65c_add_7a177 cJx4a65c_add_7a177 5 none, Cond.methodLink RJx4a65c 112 arraycopyName, Cond.methodLink RJx4a65c 135 yJx4a65c_rangeCheckForAdd_d00df, Cond.instanceMethod yJx4a65c_rangeCheckForAdd_d00df, Cond.selects RJx4a65c yJx4a65c_rangeCheckForAdd_d00df yJx4a65c_rangeCheckForAdd_d00df, Cond.code yJx4a65c_rangeCheckForAdd_d00df cJx4a65c_rangeCheckForAdd_d00df 2 none, Cond.methodLink RX1 97 yX1_rouse, Cond.instanceMethod yX1_rouse, Cond.selects RX1 yX1_rouse yX1_rouse, Cond.code yX1_rouse cX1_rouse 4 none, Cond.fieldLink RX1 145 "DozingDevices$Device" "idle" "I", Cond.methodLink RX1 158 yX1_turn, Cond.instanceMethod yX1_turn, Cond.selects RX1 yX1_turn yX1_turn, Cond.code yX1_turn cX1_turn 3 none, Cond.fieldLink RX1 133 "DozingDevices$Device" "state" "I", Cond.methodLink RL 17 yX2_device, Cond.instanceMethod yX2_device, Cond.selects RX2 yX2_device yX2_device, Cond.code yX2_device cX2_device 5 (some .int), Cond.fieldLink RX2 51 "DozingDevicesModel" "count" "I", Cond.fieldLink RX2 58 "DozingDevicesModel" "stage" "I", Cond.methodLink RX2 61 yX2_line]
def wsL_law_r10 : List Cond := [Cond.instanceMethod yX2_line, Cond.selects RX2 yX2_line yX2_line, Cond.code yX2_line cX2_line 4 (some .int), Cond.methodLink RX2 64 yX2_rouse, Cond.instanceMethod yX2_rouse, Cond.selects RX2 yX2_rouse yX2_rouse, Cond.code yX2_rouse cX2_rouse 4 (some .int), Cond.methodLink RL 18 yX1_use, Cond.instanceMethod yX1_use, Cond.selects RX1 yX1_use yX1_use, Cond.code yX1_use cX1_use 4 (some .int), Cond.fieldLink RX1 108 "DozingDevices$Device" "uses" "I", Cond.methodLink RX1 104 yX1_find, Cond.instanceMethod yX1_find, Cond.selects RX1 yX1_find yX1_find, Cond.code yX1_find cX1_find 2 (some (.object "DozingDevices$Device")), Cond.methodLink RL 22 yX2_use, Cond.instanceMethod yX2_use, Cond.selects RX2 yX2_use yX2_use, Cond.code yX2_use cX2_use 2 (some .int), Cond.methodLink RX2 67 yX2_none, Cond.instanceMethod yX2_none, Cond.selects RX2 yX2_none yX2_none, Cond.code yX2_none cX2_none 2 (some .boolean)]
def wsL_law_r11 : List Cond := [Cond.methodLink RL 23 yX1_release, Cond.instanceMethod yX1_release, Cond.selects RX1 yX1_release yX1_release, Cond.code yX1_release cX1_release 3 (some .int), Cond.methodLink RL 26 yX2_release, Cond.instanceMethod yX2_release, Cond.selects RX2 yX2_release yX2_release, Cond.code yX2_release cX2_release 2 (some .int), Cond.methodLink RL 27 yX1_waker, Cond.instanceMethod yX1_waker, Cond.selects RX1 yX1_waker yX1_waker, Cond.code yX1_waker cX1_waker 4 (some .boolean), Cond.fieldLink RX1 115 "DozingDevices$Device" "isWaker" "Z", Cond.methodLink RL 31 yX2_waker, Cond.instanceMethod yX2_waker, Cond.selects RX2 yX2_waker yX2_waker, Cond.code yX2_waker cX2_waker 3 (some .boolean), Cond.methodLink RL 32 yX1_refuse, Cond.instanceMethod yX1_refuse, Cond.selects RX1 yX1_refuse yX1_refuse, Cond.code yX1_refuse cX1_refuse 4 (some .boolean), Cond.fieldLink RX1 119 "DozingDevices$Device" "refusals" "I", Cond.methodLink RL 36 yX2_refuse, Cond.instanceMethod yX2_refuse]
def wsL_law_r12 : List Cond := [Cond.selects RX2 yX2_refuse yX2_refuse, Cond.code yX2_refuse cX2_refuse 3 (some .boolean), Cond.methodLink RL 37 yX1_signal, Cond.instanceMethod yX1_signal, Cond.selects RX1 yX1_signal yX1_signal, Cond.code yX1_signal cX1_signal 3 (some .int), Cond.methodLink RX1 122 yX1_comeBack, Cond.instanceMethod yX1_comeBack, Cond.selects RX1 yX1_comeBack yX1_comeBack, Cond.code yX1_comeBack cX1_comeBack 2 none, Cond.methodLink RX1 171 yX1_comeFurtherBack, Cond.instanceMethod yX1_comeFurtherBack, Cond.selects RX1 yX1_comeFurtherBack yX1_comeFurtherBack, Cond.code yX1_comeFurtherBack cX1_comeFurtherBack 3 none, Cond.fieldLink RX1 136 "DozingDevices$Device" "inMind" "I", Cond.fieldLink RX1 174 "DozingDevices$Device" "up" "I", Cond.methodLink RX1 165 yX1_makeDue, Cond.instanceMethod yX1_makeDue, Cond.selects RX1 yX1_makeDue yX1_makeDue, Cond.code yX1_makeDue cX1_makeDue 3 none, Cond.methodLink RX1 168 yX1_endDue, Cond.instanceMethod yX1_endDue, Cond.selects RX1 yX1_endDue yX1_endDue, Cond.code yX1_endDue cX1_endDue 1 none]
def wsL_law_r13 : List Cond := [Cond.methodLink RX1 125 yX1_giveUp, Cond.instanceMethod yX1_giveUp, Cond.selects RX1 yX1_giveUp yX1_giveUp, Cond.code yX1_giveUp cX1_giveUp 3 none, Cond.methodLink RL 40 yX2_signal, Cond.instanceMethod yX2_signal, Cond.selects RX2 yX2_signal yX2_signal, Cond.code yX2_signal cX2_signal 3 (some .int), Cond.methodLink RX2 110 yX2_giveUp, Cond.instanceMethod yX2_giveUp, Cond.selects RX2 yX2_giveUp yX2_giveUp, Cond.code yX2_giveUp cX2_giveUp 3 none, Cond.fieldLink RX2 101 "DozingDevicesModel" "reason" "I", Cond.fieldLink RX2 104 "DozingDevicesModel" "givenUp" "I", Cond.methodLink RX2 107 yX2_follow, Cond.instanceMethod yX2_follow, Cond.selects RX2 yX2_follow yX2_follow, Cond.code yX2_follow cX2_follow 2 none, Cond.methodLink RX2 95 yX2_sink, Cond.instanceMethod yX2_sink, Cond.selects RX2 yX2_sink yX2_sink, Cond.code yX2_sink cX2_sink 2 none, Cond.fieldLink RX2 82 "DozingDevicesModel" "asleep" "I", Cond.fieldLink RX2 89 "DozingDevicesModel" "toGo" "I"]
def wsL_law_r14 : List Cond := [Cond.methodLink RX2 78 yX2_lastAwake, Cond.instanceMethod yX2_lastAwake, Cond.selects RX2 yX2_lastAwake yX2_lastAwake, Cond.code yX2_lastAwake cX2_lastAwake 3 (some .int), Cond.methodLink RX2 74 yX2_earlier, Cond.instanceMethod yX2_earlier, Cond.selects RX2 yX2_earlier yX2_earlier, Cond.code yX2_earlier cX2_earlier 5 (some .boolean), Cond.methodLink RX2 54 yX2_depth, Cond.instanceMethod yX2_depth, Cond.selects RX2 yX2_depth yX2_depth, Cond.code yX2_depth cX2_depth 6 (some .int), Cond.methodLink RX2 85 yX2_become, Cond.instanceMethod yX2_become, Cond.selects RX2 yX2_become yX2_become, Cond.code yX2_become cX2_become 3 none, Cond.fieldLink RX2 71 "DozingDevicesModel" "changes" "I", Cond.methodLink RX2 98 yX2_rise, Cond.instanceMethod yX2_rise, Cond.selects RX2 yX2_rise yX2_rise, Cond.code yX2_rise cX2_rise 2 none, Cond.methodLink RX2 92 yX2_firstOff, Cond.instanceMethod yX2_firstOff, Cond.selects RX2 yX2_firstOff yX2_firstOff]
def wsL_law_r15 : List Cond := [Cond.code yX2_firstOff cX2_firstOff 3 (some .int), Cond.methodLink RL 41 yX1_sleep, Cond.instanceMethod yX1_sleep, Cond.selects RX1 yX1_sleep yX1_sleep, Cond.code yX1_sleep cX1_sleep 3 (some .int), Cond.methodLink RX1 139 yX1_sinkFurther, Cond.instanceMethod yX1_sinkFurther, Cond.selects RX1 yX1_sinkFurther yX1_sinkFurther, Cond.code yX1_sinkFurther cX1_sinkFurther 3 none, Cond.fieldLink RX1 162 "DozingDevices$Device" "down" "I", Cond.methodLink RL 45 yX2_sleep, Cond.instanceMethod yX2_sleep, Cond.selects RX2 yX2_sleep yX2_sleep, Cond.code yX2_sleep cX2_sleep 2 (some .int), Cond.methodLink RL 46 yX1_watch, Cond.instanceMethod yX1_watch, Cond.selects RX1 yX1_watch yX1_watch, Cond.code yX1_watch cX1_watch 2 (some .boolean), Cond.methodLink RL 50 yX2_watch, Cond.instanceMethod yX2_watch, Cond.selects RX2 yX2_watch yX2_watch, Cond.code yX2_watch cX2_watch 2 (some .boolean), Cond.fieldLink RX2 113 "DozingDevicesModel" "limit" "I", Cond.fieldLink RX2 116 "DozingDevicesModel" "since" "I"]
def wsL_law_r16 : List Cond := [Cond.methodLink RL 51 yX1_kick, Cond.instanceMethod yX1_kick, Cond.selects RX1 yX1_kick yX1_kick, Cond.code yX1_kick cX1_kick 2 (some .int), Cond.methodLink RL 54 yX2_kick, Cond.instanceMethod yX2_kick, Cond.selects RX2 yX2_kick yX2_kick, Cond.code yX2_kick cX2_kick 2 (some .int), Cond.methodLink RL 55 yX1_tick, Cond.instanceMethod yX1_tick, Cond.selects RX1 yX1_tick yX1_tick, Cond.code yX1_tick cX1_tick 4 (some .int), Cond.methodLink RX1 142 yX1_passOneTick, Cond.instanceMethod yX1_passOneTick, Cond.selects RX1 yX1_passOneTick yX1_passOneTick, Cond.code yX1_passOneTick cX1_passOneTick 1 none, Cond.methodLink RX1 177 yX1_watchBites, Cond.instanceMethod yX1_watchBites, Cond.selects RX1 yX1_watchBites yX1_watchBites, Cond.code yX1_watchBites cX1_watchBites 1 (some .boolean), Cond.methodLink RX1 181 yX1_resetAll, Cond.instanceMethod yX1_resetAll, Cond.selects RX1 yX1_resetAll yX1_resetAll, Cond.code yX1_resetAll cX1_resetAll 3 none]
def wsL_law_r17 : List Cond := [Cond.methodLink RX1 184 yX1_idleOneTick, Cond.instanceMethod yX1_idleOneTick, Cond.selects RX1 yX1_idleOneTick yX1_idleOneTick, Cond.code yX1_idleOneTick cX1_idleOneTick 5 none, Cond.fieldLink RX1 194 "DozingDevices$Device" "delay" "I", Cond.methodLink RX1 191 yX1_parentsOfThoseOn, Cond.instanceMethod yX1_parentsOfThoseOn, Cond.selects RX1 yX1_parentsOfThoseOn yX1_parentsOfThoseOn, Cond.code yX1_parentsOfThoseOn cX1_parentsOfThoseOn 4 (some .int), Cond.fieldLink RX1 197 "DozingDevices$Device" "parents" "I", Cond.methodLink RX1 187 yX1_bringNearer, Cond.instanceMethod yX1_bringNearer, Cond.selects RX1 yX1_bringNearer yX1_bringNearer, Cond.code yX1_bringNearer cX1_bringNearer 2 none, Cond.methodLink RL 58 yX2_tick, Cond.instanceMethod yX2_tick, Cond.selects RX2 yX2_tick yX2_tick, Cond.code yX2_tick cX2_tick 3 (some .int), Cond.methodLink RX2 137 yX2_once, Cond.instanceMethod yX2_once, Cond.selects RX2 yX2_once yX2_once, Cond.code yX2_once cX2_once 1 none, Cond.fieldLink RX2 125 "DozingDevicesModel" "time" "I", Cond.methodLink RX2 128 yX2_reset]
def wsL_law_r18 : List Cond := [Cond.instanceMethod yX2_reset, Cond.selects RX2 yX2_reset yX2_reset, Cond.code yX2_reset cX2_reset 2 none, Cond.fieldLink RX2 119 "DozingDevicesModel" "resets" "I", Cond.methodLink RX2 131 yX2_doze, Cond.instanceMethod yX2_doze, Cond.selects RX2 yX2_doze yX2_doze, Cond.code yX2_doze cX2_doze 2 none, Cond.methodLink RX2 122 yX2_childOn, Cond.instanceMethod yX2_childOn, Cond.selects RX2 yX2_childOn yX2_childOn, Cond.code yX2_childOn cX2_childOn 4 (some .boolean), Cond.methodLink RX2 134 yX2_work, Cond.instanceMethod yX2_work, Cond.selects RX2 yX2_work yX2_work, Cond.code yX2_work cX2_work 2 none, Cond.methodLink RL 59 yX1_phase, Cond.instanceMethod yX1_phase, Cond.selects RX1 yX1_phase yX1_phase, Cond.code yX1_phase cX1_phase 1 (some .int), Cond.methodLink RL 62 yX2_phase, Cond.instanceMethod yX2_phase, Cond.selects RX2 yX2_phase yX2_phase, Cond.code yX2_phase cX2_phase 1 (some .int)]
def wsL_law_r19 : List Cond := [Cond.methodLink RL 63 yX1_state, Cond.instanceMethod yX1_state, Cond.selects RX1 yX1_state yX1_state, Cond.code yX1_state cX1_state 3 (some .int), Cond.methodLink RL 66 yX2_state, Cond.instanceMethod yX2_state, Cond.selects RX2 yX2_state yX2_state, Cond.code yX2_state cX2_state 2 (some .int), Cond.methodLink RL 67 yX1_uses, Cond.instanceMethod yX1_uses, Cond.selects RX1 yX1_uses yX1_uses, Cond.code yX1_uses cX1_uses 3 (some .int), Cond.methodLink RL 70 yX2_uses, Cond.instanceMethod yX2_uses, Cond.selects RX2 yX2_uses yX2_uses, Cond.code yX2_uses cX2_uses 2 (some .int), Cond.methodLink RL 71 yX1_idle, Cond.instanceMethod yX1_idle, Cond.selects RX1 yX1_idle yX1_idle, Cond.code yX1_idle cX1_idle 3 (some .int), Cond.methodLink RL 74 yX2_idle, Cond.instanceMethod yX2_idle, Cond.selects RX2 yX2_idle yX2_idle, Cond.code yX2_idle cX2_idle 2 (some .int)]
def wsL_law_r20 : List Cond := [Cond.methodLink RL 75 yX1_refusals, Cond.instanceMethod yX1_refusals, Cond.selects RX1 yX1_refusals yX1_refusals, Cond.code yX1_refusals cX1_refusals 3 (some .int), Cond.methodLink RL 78 yX2_refusals, Cond.instanceMethod yX2_refusals, Cond.selects RX2 yX2_refusals yX2_refusals, Cond.code yX2_refusals cX2_refusals 2 (some .int), Cond.methodLink RL 79 yX1_due, Cond.instanceMethod yX1_due, Cond.selects RX1 yX1_due yX1_due, Cond.code yX1_due cX1_due 1 (some .int), Cond.methodLink RL 82 yX2_due, Cond.instanceMethod yX2_due, Cond.selects RX2 yX2_due yX2_due, Cond.code yX2_due cX2_due 1 (some .int), Cond.methodLink RL 83 yX1_left, Cond.instanceMethod yX1_left, Cond.selects RX1 yX1_left yX1_left, Cond.code yX1_left cX1_left 1 (some .int), Cond.methodLink RL 86 yX2_left, Cond.instanceMethod yX2_left, Cond.selects RX2 yX2_left yX2_left, Cond.code yX2_left cX2_left 1 (some .int)]
def wsL_law_r21 : List Cond := [Cond.methodLink RL 87 yX1_named, Cond.instanceMethod yX1_named, Cond.selects RX1 yX1_named yX1_named, Cond.code yX1_named cX1_named 1 (some .int), Cond.methodLink RL 90 yX2_named, Cond.instanceMethod yX2_named, Cond.selects RX2 yX2_named yX2_named, Cond.code yX2_named cX2_named 1 (some .int), Cond.methodLink RL 91 yX1_figure, Cond.instanceMethod yX1_figure, Cond.selects RX1 yX1_figure yX1_figure, Cond.code yX1_figure cX1_figure 2 (some .int), Cond.methodLink RL 94 yX2_figure, Cond.instanceMethod yX2_figure, Cond.selects RX2 yX2_figure yX2_figure, Cond.code yX2_figure cX2_figure 2 (some .int)]
def wsL_law : List Cond := (wsL_law_r1 ++ (wsL_law_r2 ++ (wsL_law_r3 ++ (wsL_law_r4 ++ (wsL_law_r5 ++ (wsL_law_r6 ++ (wsL_law_r7 ++ (wsL_law_r8 ++ (wsL_law_r9 ++ (wsL_law_r10 ++ (wsL_law_r11 ++ (wsL_law_r12 ++ (wsL_law_r13 ++ (wsL_law_r14 ++ (wsL_law_r15 ++ (wsL_law_r16 ++ (wsL_law_r17 ++ (wsL_law_r18 ++ (wsL_law_r19 ++ (wsL_law_r20 ++ wsL_law_r21)))))))))))))))))))) ++ wsX10 ++ wsX20 ++ wsJx4a65c0 ++ wsX00 ++ ([] : List Cond)
theorem inJx145de : ∀ w ∈ wsJx145de0, w ∈ lw_tbl := by decide +kernel
theorem inJx8e188 : ∀ w ∈ wsJx8e1880, w ∈ lw_tbl := by decide +kernel
theorem inJxab1ab : ∀ w ∈ wsJxab1ab0, w ∈ lw_tbl := by decide +kernel
theorem inJ9 : ∀ w ∈ wsJ90, w ∈ lw_tbl := by decide +kernel
theorem inJ10 : ∀ w ∈ wsJ100, w ∈ lw_tbl := by decide +kernel
theorem inJxa1e45 : ∀ w ∈ wsJxa1e450, w ∈ lw_tbl := by decide +kernel
theorem inJxc12de : ∀ w ∈ wsJxc12de0, w ∈ lw_tbl := by decide +kernel
theorem inJ7 : ∀ w ∈ wsJ70, w ∈ lw_tbl := by decide +kernel
theorem inJx5ef63 : ∀ w ∈ wsJx5ef630, w ∈ lw_tbl := by decide +kernel
theorem inJxbd725 : ∀ w ∈ wsJxbd7250, w ∈ lw_tbl := by decide +kernel
theorem inJ15 : ∀ w ∈ wsJ150, w ∈ lw_tbl := by decide +kernel
theorem inJxf0a74 : ∀ w ∈ wsJxf0a740, w ∈ lw_tbl := by decide +kernel
theorem inJxa66e6 : ∀ w ∈ wsJxa66e60, w ∈ lw_tbl := by decide +kernel
theorem inJ8 : ∀ w ∈ wsJ80, w ∈ lw_tbl := by decide +kernel
theorem inJ3 : ∀ w ∈ wsJ30, w ∈ lw_tbl := by decide +kernel
theorem dX0_init_0 : decode cX0_init 0 = .ok (.aload_n 0, 1) := by decide +kernel
theorem dX0_init_1 : decode cX0_init 1 = .ok (.invokespecial 3, 3) := by decide +kernel
theorem dX0_init_4 : decode cX0_init 4 = .ok (.aload_n 0, 1) := by decide +kernel
theorem dX0_init_5 : decode cX0_init 5 = .ok (.iconst 2, 1) := by decide +kernel
theorem dX0_init_6 : decode cX0_init 6 = .ok (.putfield 9, 3) := by decide +kernel
theorem dX0_init_9 : decode cX0_init 9 = .ok (.aload_n 0, 1) := by decide +kernel
theorem dX0_init_10 : decode cX0_init 10 = .ok (.iconst 2, 1) := by decide +kernel
theorem dX0_init_11 : decode cX0_init 11 = .ok (.putfield 15, 3) := by decide +kernel
theorem dX0_init_14 : decode cX0_init 14 = .ok (.aload_n 0, 1) := by decide +kernel
theorem dX0_init_15 : decode cX0_init 15 = .ok (.iconst 0, 1) := by decide +kernel
theorem dX0_init_16 : decode cX0_init 16 = .ok (.putfield 18, 3) := by decide +kernel
theorem dX0_init_19 : decode cX0_init 19 = .ok (.aload_n 0, 1) := by decide +kernel
theorem dX0_init_20 : decode cX0_init 20 = .ok (.iconst 0, 1) := by decide +kernel
theorem dX0_init_21 : decode cX0_init 21 = .ok (.putfield 21, 3) := by decide +kernel
theorem dX0_init_24 : decode cX0_init 24 = .ok (.aload_n 0, 1) := by decide +kernel
theorem dX0_init_25 : decode cX0_init 25 = .ok (.iconst 0, 1) := by decide +kernel
theorem dX0_init_26 : decode cX0_init 26 = .ok (.putfield 24, 3) := by decide +kernel
theorem dX0_init_29 : decode cX0_init 29 = .ok (.aload_n 0, 1) := by decide +kernel
theorem dX0_init_30 : decode cX0_init 30 = .ok (.iconst 0, 1) := by decide +kernel
theorem dX0_init_31 : decode cX0_init 31 = .ok (.putfield 27, 3) := by decide +kernel
theorem dX0_init_34 : decode cX0_init 34 = .ok (.aload_n 0, 1) := by decide +kernel
theorem dX0_init_35 : decode cX0_init 35 = .ok (.iload_n 1, 1) := by decide +kernel
theorem dX0_init_36 : decode cX0_init 36 = .ok (.putfield 31, 3) := by decide +kernel
theorem dX0_init_39 : decode cX0_init 39 = .ok (.aload_n 0, 1) := by decide +kernel
theorem dX0_init_40 : decode cX0_init 40 = .ok (.iload_n 2, 1) := by decide +kernel
theorem dX0_init_41 : decode cX0_init 41 = .ok (.putfield 34, 3) := by decide +kernel
theorem dX0_init_44 : decode cX0_init 44 = .ok (.aload_n 0, 1) := by decide +kernel
theorem dX0_init_45 : decode cX0_init 45 = .ok (.iload_n 3, 1) := by decide +kernel
theorem dX0_init_46 : decode cX0_init 46 = .ok (.putfield 37, 3) := by decide +kernel
theorem dX0_init_49 : decode cX0_init 49 = .ok (.aload_n 0, 1) := by decide +kernel
theorem dX0_init_50 : decode cX0_init 50 = .ok (.iload 4, 2) := by decide +kernel
theorem dX0_init_52 : decode cX0_init 52 = .ok (.putfield 40, 3) := by decide +kernel
theorem dX0_init_55 : decode cX0_init 55 = .ok (.aload_n 0, 1) := by decide +kernel
theorem dX0_init_56 : decode cX0_init 56 = .ok (.iload 5, 2) := by decide +kernel
theorem dX0_init_58 : decode cX0_init 58 = .ok (.putfield 43, 3) := by decide +kernel
theorem dX0_init_61 : decode cX0_init 61 = .ok (.aload_n 0, 1) := by decide +kernel
theorem dX0_init_62 : decode cX0_init 62 = .ok (.iload 6, 2) := by decide +kernel
theorem dX0_init_64 : decode cX0_init 64 = .ok (.putfield 46, 3) := by decide +kernel
theorem dX0_init_67 : decode cX0_init 67 = .ok (.aload_n 0, 1) := by decide +kernel
theorem dX0_init_68 : decode cX0_init 68 = .ok (.iload 7, 2) := by decide +kernel
theorem dX0_init_70 : decode cX0_init 70 = .ok (.putfield 49, 3) := by decide +kernel
theorem dX0_init_73 : decode cX0_init 73 = .ok (.return_, 1) := by decide +kernel
set_option maxRecDepth 20000 in
theorem ggX1_init_Jx4a65c_init_da8c8 : GoodIn wsX1_init wsJx4a65c_init_da8c8 := goodIn_r _ [23, 24, 25, 26, 27, 28, 29, 30, 31, 32, 33, 34, 35, 2, 3, 36, 37, 38] (by decide +kernel) (by decide +kernel)
set_option maxRecDepth 20000 in
theorem gX1_init_Jx4a65c_init_da8c8 : GoodIn wsX1_init (wsJx4a65c_init_da8c8) := ggX1_init_Jx4a65c_init_da8c8
theorem dX1_init_0 : decode cX1_init 0 = .ok (.aload_n 0, 1) := by decide +kernel
theorem dX1_init_1 : decode cX1_init 1 = .ok (.invokespecial 1, 3) := by decide +kernel
theorem dX1_init_4 : decode cX1_init 4 = .ok (.aload_n 0, 1) := by decide +kernel
end
section
theorem dX1_init_5 : decode cX1_init 5 = .ok (.new 7, 3) := by decide +kernel
theorem dX1_init_8 : decode cX1_init 8 = .ok (.dup, 1) := by decide +kernel
theorem dX1_init_9 : decode cX1_init 9 = .ok (.invokespecial 9, 3) := by decide +kernel
theorem dX1_init_12 : decode cX1_init 12 = .ok (.putfield 10, 3) := by decide +kernel
theorem dX1_init_15 : decode cX1_init 15 = .ok (.aload_n 0, 1) := by decide +kernel
theorem dX1_init_16 : decode cX1_init 16 = .ok (.new 7, 3) := by decide +kernel
theorem dX1_init_19 : decode cX1_init 19 = .ok (.dup, 1) := by decide +kernel
theorem dX1_init_20 : decode cX1_init 20 = .ok (.invokespecial 9, 3) := by decide +kernel
theorem dX1_init_23 : decode cX1_init 23 = .ok (.putfield 16, 3) := by decide +kernel
theorem dX1_init_26 : decode cX1_init 26 = .ok (.aload_n 0, 1) := by decide +kernel
theorem dX1_init_27 : decode cX1_init 27 = .ok (.iconst 0, 1) := by decide +kernel
theorem dX1_init_28 : decode cX1_init 28 = .ok (.putfield 19, 3) := by decide +kernel
theorem dX1_init_31 : decode cX1_init 31 = .ok (.aload_n 0, 1) := by decide +kernel
theorem dX1_init_32 : decode cX1_init 32 = .ok (.aconst_null, 1) := by decide +kernel
theorem dX1_init_33 : decode cX1_init 33 = .ok (.putfield 23, 3) := by decide +kernel
theorem dX1_init_36 : decode cX1_init 36 = .ok (.aload_n 0, 1) := by decide +kernel
theorem dX1_init_37 : decode cX1_init 37 = .ok (.iconst 0, 1) := by decide +kernel
theorem dX1_init_38 : decode cX1_init 38 = .ok (.putfield 27, 3) := by decide +kernel
theorem dX1_init_41 : decode cX1_init 41 = .ok (.aload_n 0, 1) := by decide +kernel
theorem dX1_init_42 : decode cX1_init 42 = .ok (.iconst 0, 1) := by decide +kernel
theorem dX1_init_43 : decode cX1_init 43 = .ok (.putfield 30, 3) := by decide +kernel
theorem dX1_init_46 : decode cX1_init 46 = .ok (.aload_n 0, 1) := by decide +kernel
theorem dX1_init_47 : decode cX1_init 47 = .ok (.iconst 0, 1) := by decide +kernel
theorem dX1_init_48 : decode cX1_init 48 = .ok (.putfield 33, 3) := by decide +kernel
theorem dX1_init_51 : decode cX1_init 51 = .ok (.aload_n 0, 1) := by decide +kernel
theorem dX1_init_52 : decode cX1_init 52 = .ok (.iconst 0, 1) := by decide +kernel
theorem dX1_init_53 : decode cX1_init 53 = .ok (.putfield 36, 3) := by decide +kernel
theorem dX1_init_56 : decode cX1_init 56 = .ok (.aload_n 0, 1) := by decide +kernel
theorem dX1_init_57 : decode cX1_init 57 = .ok (.iconst 0, 1) := by decide +kernel
theorem dX1_init_58 : decode cX1_init 58 = .ok (.putfield 39, 3) := by decide +kernel
theorem dX1_init_61 : decode cX1_init 61 = .ok (.aload_n 0, 1) := by decide +kernel
theorem dX1_init_62 : decode cX1_init 62 = .ok (.iconst 0, 1) := by decide +kernel
theorem dX1_init_63 : decode cX1_init 63 = .ok (.putfield 42, 3) := by decide +kernel
theorem dX1_init_66 : decode cX1_init 66 = .ok (.aload_n 0, 1) := by decide +kernel
theorem dX1_init_67 : decode cX1_init 67 = .ok (.iconst 0, 1) := by decide +kernel
theorem dX1_init_68 : decode cX1_init 68 = .ok (.putfield 45, 3) := by decide +kernel
theorem dX1_init_71 : decode cX1_init 71 = .ok (.aload_n 0, 1) := by decide +kernel
theorem dX1_init_72 : decode cX1_init 72 = .ok (.iconst 0, 1) := by decide +kernel
theorem dX1_init_73 : decode cX1_init 73 = .ok (.putfield 48, 3) := by decide +kernel
theorem dX1_init_76 : decode cX1_init 76 = .ok (.aload_n 0, 1) := by decide +kernel
theorem dX1_init_77 : decode cX1_init 77 = .ok (.iconst (-1), 1) := by decide +kernel
theorem dX1_init_78 : decode cX1_init 78 = .ok (.putfield 51, 3) := by decide +kernel
theorem dX1_init_81 : decode cX1_init 81 = .ok (.aload_n 0, 1) := by decide +kernel
theorem dX1_init_82 : decode cX1_init 82 = .ok (.iconst 0, 1) := by decide +kernel
theorem dX1_init_83 : decode cX1_init 83 = .ok (.putfield 54, 3) := by decide +kernel
theorem dX1_init_86 : decode cX1_init 86 = .ok (.return_, 1) := by decide +kernel
set_option maxRecDepth 20000 in
theorem ggX1_device_X1_areDevices : GoodIn wsX1_device wsX1_areDevices := goodIn_r _ [14, 2, 15, 16, 17, 18, 19, 20, 153, 154, 155, 156, 157, 158, 159, 160, 161, 162, 163, 164, 165, 166, 180, 181, 182] (by decide +kernel) (by decide +kernel)
set_option maxRecDepth 20000 in
theorem gX1_device_X1_areDevices : GoodIn wsX1_device (wsV RX1 57 RX1 yX1_areDevices wsX1_areDevices) := goodIn_app (goodIn_of _ (by decide +kernel)) ggX1_device_X1_areDevices
set_option maxRecDepth 20000 in
theorem ggX1_device_X1_isWithin : GoodIn wsX1_device wsX1_isWithin := goodIn_r _ [23] (by decide +kernel) (by decide +kernel)
set_option maxRecDepth 20000 in
theorem gX1_device_X1_isWithin : GoodIn wsX1_device (va_wsS RX1 61 yX1_isWithin wsX1_isWithin) := goodIn_app (goodIn_of _ (by decide +kernel)) ggX1_device_X1_isWithin
set_option maxRecDepth 20000 in
theorem ggX1_device_Jx4a65c_size_8abf5 : GoodIn wsX1_device wsJx4a65c_size_8abf5 := goodIn_r _ [19, 20, 180, 181, 182] (by decide +kernel) (by decide +kernel)
set_option maxRecDepth 20000 in
theorem gX1_device_Jx4a65c_size_8abf5 : GoodIn wsX1_device (wsV RX1 65 RJx4a65c yJx4a65c_size_8abf5 wsJx4a65c_size_8abf5) := goodIn_app (goodIn_of _ (by decide +kernel)) ggX1_device_Jx4a65c_size_8abf5
set_option maxRecDepth 20000 in
theorem ggX1_device_X1_withAncestors : GoodIn wsX1_device wsX1_withAncestors := goodIn_r _ [27, 2, 28, 8, 15, 16, 17, 18, 19, 20, 29, 30, 31, 32, 33, 34, 35, 36, 37, 38, 39, 40, 41, 42, 43, 44, 45, 46, 47, 13, 48, 49, 50, 51, 9, 153, 154, 155, 156, 157, 158, 159, 160, 161, 162, 163, 164, 165, 166, 167, 168, 169, 170, 171, 172, 173, 174, 175, 176, 177, 178, 179, 180, 181, 182] (by decide +kernel) (by decide +kernel)
set_option maxRecDepth 20000 in
theorem gX1_device_X1_withAncestors : GoodIn wsX1_device (wsV RX1 71 RX1 yX1_withAncestors wsX1_withAncestors) := goodIn_app (goodIn_of _ (by decide +kernel)) ggX1_device_X1_withAncestors
set_option maxRecDepth 20000 in
theorem ggX1_device_X1_depthUnder : GoodIn wsX1_device wsX1_depthUnder := goodIn_r _ [55, 2, 28, 7, 56, 57, 58, 59, 15, 16, 17, 18, 19, 20, 29, 30, 31, 32, 33, 34, 35, 36, 37, 38, 39, 40, 41, 42, 43, 44, 45, 46, 47, 13, 48, 49, 50, 51, 9, 153, 154, 155, 156, 157, 158, 159, 160, 161, 162, 163, 164, 165, 166, 167, 168, 169, 170, 171, 172, 173, 174, 175, 176, 177, 178, 179, 180, 181, 182] (by decide +kernel) (by decide +kernel)
set_option maxRecDepth 20000 in
theorem gX1_device_X1_depthUnder : GoodIn wsX1_device (wsV RX1 75 RX1 yX1_depthUnder wsX1_depthUnder) := goodIn_app (goodIn_of _ (by decide +kernel)) ggX1_device_X1_depthUnder
set_option maxRecDepth 20000 in
theorem ggX1_device_X0_init : GoodIn wsX1_device wsX0_init := goodIn_r _ [62, 63, 64, 65, 66, 67, 68, 69, 70, 71, 72, 73, 74, 75, 76, 77, 78, 167, 168, 169, 170, 171, 172, 173, 174, 175, 176, 177, 178, 179] (by decide +kernel) (by decide +kernel)
set_option maxRecDepth 20000 in
theorem gX1_device_X0_init : GoodIn wsX1_device (wsX0_init) := ggX1_device_X0_init
set_option maxRecDepth 20000 in
theorem ggX1_device_Jx4a65c_add_9ea2d : GoodIn wsX1_device wsJx4a65c_add_9ea2d := goodIn_r _ [82, 83, 84, 45, 20, 85, 86, 87, 18, 88, 89, 90, 91, 92, 93, 94, 95, 96, 97, 98, 57, 58, 59, 99, 100, 101, 102, 103, 104, 105, 106, 107, 108, 109, 110, 111, 112, 113, 114, 115, 116, 117, 118, 119, 120, 121, 122, 123, 124, 125, 126, 127, 128, 180, 181, 182] (by decide +kernel) (by decide +kernel)
set_option maxRecDepth 20000 in
theorem gX1_device_Jx4a65c_add_9ea2d : GoodIn wsX1_device (wsV RX1 81 RJx4a65c yJx4a65c_add_9ea2d wsJx4a65c_add_9ea2d) := goodIn_app (goodIn_of _ (by decide +kernel)) ggX1_device_Jx4a65c_add_9ea2d
set_option maxRecDepth 20000 in
theorem ggX1_device_X1_placeFor : GoodIn wsX1_device wsX1_placeFor := goodIn_r _ [132, 6, 28, 7, 15, 16, 17, 18, 19, 20, 29, 30, 31, 32, 33, 34, 35, 36, 37, 38, 39, 40, 41, 42, 43, 44, 45, 153, 154, 155, 156, 157, 158, 159, 160, 161, 162, 163, 164, 165, 166, 167, 168, 169, 170, 171, 172, 173, 174, 175, 176, 177, 178, 179, 180, 181, 182] (by decide +kernel) (by decide +kernel)
set_option maxRecDepth 20000 in
theorem gX1_device_X1_placeFor : GoodIn wsX1_device (wsV RX1 88 RX1 yX1_placeFor wsX1_placeFor) := goodIn_app (goodIn_of _ (by decide +kernel)) ggX1_device_X1_placeFor
set_option maxRecDepth 20000 in
theorem ggX1_device_Jx4a65c_add_7a177 : GoodIn wsX1_device wsJx4a65c_add_7a177 := goodIn_r _ [136, 83, 84, 20, 45, 137, 126, 127, 128, 138, 139, 140, 18, 141, 89, 90, 91, 92, 93, 94, 95, 96, 97, 98, 57, 58, 59, 99, 100, 101, 102, 103, 104, 105, 106, 107, 108, 109, 110, 111, 112, 113, 114, 115, 116, 117, 118, 119, 120, 121, 122, 123, 124, 125, 180, 181, 182] (by decide +kernel) (by decide +kernel)
set_option maxRecDepth 20000 in
theorem gX1_device_Jx4a65c_add_7a177 : GoodIn wsX1_device (wsV RX1 91 RJx4a65c yJx4a65c_add_7a177 wsJx4a65c_add_7a177) := goodIn_app (goodIn_of _ (by decide +kernel)) ggX1_device_Jx4a65c_add_7a177
set_option maxRecDepth 20000 in
theorem ggX1_device_X1_rouse : GoodIn wsX1_device wsX1_rouse := goodIn_r _ [145, 2, 28, 146, 15, 16, 17, 18, 19, 20, 29, 30, 31, 32, 33, 34, 35, 36, 37, 38, 39, 40, 41, 42, 43, 44, 45, 46, 47, 13, 48, 49, 50, 51, 9, 147, 148, 149, 150, 151, 152, 153, 154, 155, 156, 157, 158, 159, 160, 161, 162, 163, 164, 165, 166, 167, 168, 169, 170, 171, 172, 173, 174, 175, 176, 177, 178, 179, 180, 181, 182] (by decide +kernel) (by decide +kernel)
set_option maxRecDepth 20000 in
theorem gX1_device_X1_rouse : GoodIn wsX1_device (wsV RX1 97 RX1 yX1_rouse wsX1_rouse) := goodIn_app (goodIn_of _ (by decide +kernel)) ggX1_device_X1_rouse
theorem dX1_device_0 : decode cX1_device 0 = .ok (.aload_n 0, 1) := by decide +kernel
theorem dX1_device_1 : decode cX1_device 1 = .ok (.iload_n 1, 1) := by decide +kernel
theorem dX1_device_2 : decode cX1_device 2 = .ok (.invokevirtual 57, 3) := by decide +kernel
theorem dX1_device_5 : decode cX1_device 5 = .ok (.ifCond .eq 34, 3) := by decide +kernel
theorem dX1_device_8 : decode cX1_device 8 = .ok (.iload_n 2, 1) := by decide +kernel
theorem dX1_device_9 : decode cX1_device 9 = .ok (.iconst 1, 1) := by decide +kernel
theorem dX1_device_10 : decode cX1_device 10 = .ok (.bipush 20, 2) := by decide +kernel
theorem dX1_device_12 : decode cX1_device 12 = .ok (.invokestatic 61, 3) := by decide +kernel
theorem dX1_device_15 : decode cX1_device 15 = .ok (.ifCond .eq 24, 3) := by decide +kernel
theorem dX1_device_18 : decode cX1_device 18 = .ok (.iload_n 3, 1) := by decide +kernel
theorem dX1_device_19 : decode cX1_device 19 = .ok (.iconst 1, 1) := by decide +kernel
theorem dX1_device_20 : decode cX1_device 20 = .ok (.bipush 20, 2) := by decide +kernel
theorem dX1_device_22 : decode cX1_device 22 = .ok (.invokestatic 61, 3) := by decide +kernel
theorem dX1_device_25 : decode cX1_device 25 = .ok (.ifCond .eq 14, 3) := by decide +kernel
theorem dX1_device_28 : decode cX1_device 28 = .ok (.iload 4, 2) := by decide +kernel
theorem dX1_device_30 : decode cX1_device 30 = .ok (.iconst 0, 1) := by decide +kernel
theorem dX1_device_31 : decode cX1_device 31 = .ok (.bipush 50, 2) := by decide +kernel
theorem dX1_device_33 : decode cX1_device 33 = .ok (.invokestatic 61, 3) := by decide +kernel
theorem dX1_device_36 : decode cX1_device 36 = .ok (.ifCond .ne 6, 3) := by decide +kernel
theorem dX1_device_39 : decode cX1_device 39 = .ok (.bipush (-2), 2) := by decide +kernel
theorem dX1_device_41 : decode cX1_device 41 = .ok (.ireturn, 1) := by decide +kernel
theorem dX1_device_42 : decode cX1_device 42 = .ok (.aload_n 0, 1) := by decide +kernel
theorem dX1_device_43 : decode cX1_device 43 = .ok (.getfield 19, 3) := by decide +kernel
theorem dX1_device_46 : decode cX1_device 46 = .ok (.ifCond .eq 6, 3) := by decide +kernel
theorem dX1_device_49 : decode cX1_device 49 = .ok (.bipush (-3), 2) := by decide +kernel
theorem dX1_device_51 : decode cX1_device 51 = .ok (.ireturn, 1) := by decide +kernel
theorem dX1_device_52 : decode cX1_device 52 = .ok (.aload_n 0, 1) := by decide +kernel
theorem dX1_device_53 : decode cX1_device 53 = .ok (.getfield 10, 3) := by decide +kernel
theorem dX1_device_56 : decode cX1_device 56 = .ok (.invokevirtual 65, 3) := by decide +kernel
theorem dX1_device_59 : decode cX1_device 59 = .ok (.bipush 12, 2) := by decide +kernel
theorem dX1_device_61 : decode cX1_device 61 = .ok (.if_icmp .lt 6, 3) := by decide +kernel
theorem dX1_device_64 : decode cX1_device 64 = .ok (.bipush (-4), 2) := by decide +kernel
theorem dX1_device_66 : decode cX1_device 66 = .ok (.ireturn, 1) := by decide +kernel
theorem dX1_device_67 : decode cX1_device 67 = .ok (.new 69, 3) := by decide +kernel
theorem dX1_device_70 : decode cX1_device 70 = .ok (.dup, 1) := by decide +kernel
theorem dX1_device_71 : decode cX1_device 71 = .ok (.aload_n 0, 1) := by decide +kernel
theorem dX1_device_72 : decode cX1_device 72 = .ok (.getfield 10, 3) := by decide +kernel
theorem dX1_device_75 : decode cX1_device 75 = .ok (.invokevirtual 65, 3) := by decide +kernel
theorem dX1_device_78 : decode cX1_device 78 = .ok (.iload_n 1, 1) := by decide +kernel
theorem dX1_device_79 : decode cX1_device 79 = .ok (.aload_n 0, 1) := by decide +kernel
theorem dX1_device_80 : decode cX1_device 80 = .ok (.iload_n 1, 1) := by decide +kernel
theorem dX1_device_81 : decode cX1_device 81 = .ok (.invokevirtual 71, 3) := by decide +kernel
theorem dX1_device_84 : decode cX1_device 84 = .ok (.aload_n 0, 1) := by decide +kernel
theorem dX1_device_85 : decode cX1_device 85 = .ok (.iload_n 1, 1) := by decide +kernel
theorem dX1_device_86 : decode cX1_device 86 = .ok (.invokevirtual 75, 3) := by decide +kernel
theorem dX1_device_89 : decode cX1_device 89 = .ok (.iload_n 2, 1) := by decide +kernel
theorem dX1_device_90 : decode cX1_device 90 = .ok (.iload_n 3, 1) := by decide +kernel
theorem dX1_device_91 : decode cX1_device 91 = .ok (.iload 4, 2) := by decide +kernel
theorem dX1_device_93 : decode cX1_device 93 = .ok (.invokespecial 78, 3) := by decide +kernel
theorem dX1_device_96 : decode cX1_device 96 = .ok (.astore 5, 2) := by decide +kernel
theorem dX1_device_98 : decode cX1_device 98 = .ok (.aload_n 0, 1) := by decide +kernel
theorem dX1_device_99 : decode cX1_device 99 = .ok (.getfield 10, 3) := by decide +kernel
theorem dX1_device_102 : decode cX1_device 102 = .ok (.aload 5, 2) := by decide +kernel
theorem dX1_device_104 : decode cX1_device 104 = .ok (.invokevirtual 81, 3) := by decide +kernel
theorem dX1_device_107 : decode cX1_device 107 = .ok (.pop, 1) := by decide +kernel
theorem dX1_device_108 : decode cX1_device 108 = .ok (.aload_n 0, 1) := by decide +kernel
theorem dX1_device_109 : decode cX1_device 109 = .ok (.getfield 16, 3) := by decide +kernel
theorem dX1_device_112 : decode cX1_device 112 = .ok (.aload_n 0, 1) := by decide +kernel
theorem dX1_device_113 : decode cX1_device 113 = .ok (.aload 5, 2) := by decide +kernel
theorem dX1_device_115 : decode cX1_device 115 = .ok (.getfield 85, 3) := by decide +kernel
theorem dX1_device_118 : decode cX1_device 118 = .ok (.invokevirtual 88, 3) := by decide +kernel
theorem dX1_device_121 : decode cX1_device 121 = .ok (.aload 5, 2) := by decide +kernel
theorem dX1_device_123 : decode cX1_device 123 = .ok (.invokevirtual 91, 3) := by decide +kernel
theorem dX1_device_126 : decode cX1_device 126 = .ok (.aload_n 0, 1) := by decide +kernel
theorem dX1_device_127 : decode cX1_device 127 = .ok (.aload 5, 2) := by decide +kernel
theorem dX1_device_129 : decode cX1_device 129 = .ok (.getfield 94, 3) := by decide +kernel
theorem dX1_device_132 : decode cX1_device 132 = .ok (.invokevirtual 97, 3) := by decide +kernel
theorem dX1_device_135 : decode cX1_device 135 = .ok (.aload 5, 2) := by decide +kernel
theorem dX1_device_137 : decode cX1_device 137 = .ok (.getfield 101, 3) := by decide +kernel
theorem dX1_device_140 : decode cX1_device 140 = .ok (.ireturn, 1) := by decide +kernel
set_option maxRecDepth 20000 in
theorem ggX1_use_X1_find : GoodIn wsX1_use wsX1_find := goodIn_r _ [9, 10, 11, 12, 13, 14, 15, 16, 17, 18, 19, 8, 20, 21, 22, 23, 24, 25, 26, 27, 28, 29, 30, 31, 32, 33, 34, 35, 36, 37, 55, 56, 57, 58, 59, 60, 61, 62, 63, 64, 65, 66, 67, 68, 82, 83, 84] (by decide +kernel) (by decide +kernel)
set_option maxRecDepth 20000 in
theorem gX1_use_X1_find : GoodIn wsX1_use (wsV RX1 104 RX1 yX1_find wsX1_find) := goodIn_app (goodIn_of _ (by decide +kernel)) ggX1_use_X1_find
set_option maxRecDepth 20000 in
theorem ggX1_use_X1_bit : GoodIn wsX1_use wsX1_bit := goodIn_r _ [40, 41, 69, 70, 71, 72, 73, 74, 75, 76, 77, 78, 79, 80, 81] (by decide +kernel) (by decide +kernel)
set_option maxRecDepth 20000 in
theorem gX1_use_X1_bit : GoodIn wsX1_use (va_wsS RX1 111 yX1_bit wsX1_bit) := goodIn_app (goodIn_of _ (by decide +kernel)) ggX1_use_X1_bit
set_option maxRecDepth 20000 in
theorem ggX1_use_X1_rouse : GoodIn wsX1_use wsX1_rouse := goodIn_r _ [45, 10, 11, 46, 12, 13, 14, 15, 16, 17, 21, 22, 23, 24, 25, 26, 27, 28, 29, 30, 31, 32, 33, 34, 35, 36, 37, 47, 48, 8, 49, 38, 39, 40, 41, 50, 51, 52, 53, 54, 3, 55, 56, 57, 58, 59, 60, 61, 62, 63, 64, 65, 66, 67, 68, 69, 70, 71, 72, 73, 74, 75, 76, 77, 78, 79, 80, 81, 82, 83, 84] (by decide +kernel) (by decide +kernel)
set_option maxRecDepth 20000 in
theorem gX1_use_X1_rouse : GoodIn wsX1_use (wsV RX1 97 RX1 yX1_rouse wsX1_rouse) := goodIn_app (goodIn_of _ (by decide +kernel)) ggX1_use_X1_rouse
theorem dX1_use_0 : decode cX1_use 0 = .ok (.aload_n 0, 1) := by decide +kernel
theorem dX1_use_1 : decode cX1_use 1 = .ok (.iload_n 1, 1) := by decide +kernel
theorem dX1_use_2 : decode cX1_use 2 = .ok (.invokevirtual 104, 3) := by decide +kernel
theorem dX1_use_5 : decode cX1_use 5 = .ok (.astore_n 2, 1) := by decide +kernel
theorem dX1_use_6 : decode cX1_use 6 = .ok (.aload_n 2, 1) := by decide +kernel
theorem dX1_use_7 : decode cX1_use 7 = .ok (.ifnonnull 6, 3) := by decide +kernel
theorem dX1_use_10 : decode cX1_use 10 = .ok (.bipush (-2), 2) := by decide +kernel
theorem dX1_use_12 : decode cX1_use 12 = .ok (.ireturn, 1) := by decide +kernel
theorem dX1_use_13 : decode cX1_use 13 = .ok (.aload_n 0, 1) := by decide +kernel
theorem dX1_use_14 : decode cX1_use 14 = .ok (.getfield 19, 3) := by decide +kernel
theorem dX1_use_17 : decode cX1_use 17 = .ok (.ifCond .eq 6, 3) := by decide +kernel
theorem dX1_use_20 : decode cX1_use 20 = .ok (.bipush (-3), 2) := by decide +kernel
theorem dX1_use_22 : decode cX1_use 22 = .ok (.ireturn, 1) := by decide +kernel
theorem dX1_use_23 : decode cX1_use 23 = .ok (.aload_n 2, 1) := by decide +kernel
theorem dX1_use_24 : decode cX1_use 24 = .ok (.dup, 1) := by decide +kernel
theorem dX1_use_25 : decode cX1_use 25 = .ok (.getfield 108, 3) := by decide +kernel
theorem dX1_use_28 : decode cX1_use 28 = .ok (.iconst 1, 1) := by decide +kernel
theorem dX1_use_29 : decode cX1_use 29 = .ok (.iadd, 1) := by decide +kernel
theorem dX1_use_30 : decode cX1_use 30 = .ok (.putfield 108, 3) := by decide +kernel
theorem dX1_use_33 : decode cX1_use 33 = .ok (.aload_n 0, 1) := by decide +kernel
theorem dX1_use_34 : decode cX1_use 34 = .ok (.getfield 54, 3) := by decide +kernel
theorem dX1_use_37 : decode cX1_use 37 = .ok (.istore_n 3, 1) := by decide +kernel
theorem dX1_use_38 : decode cX1_use 38 = .ok (.aload_n 0, 1) := by decide +kernel
theorem dX1_use_39 : decode cX1_use 39 = .ok (.aload_n 2, 1) := by decide +kernel
theorem dX1_use_40 : decode cX1_use 40 = .ok (.getfield 94, 3) := by decide +kernel
theorem dX1_use_43 : decode cX1_use 43 = .ok (.aload_n 2, 1) := by decide +kernel
theorem dX1_use_44 : decode cX1_use 44 = .ok (.invokestatic 111, 3) := by decide +kernel
theorem dX1_use_47 : decode cX1_use 47 = .ok (.ior, 1) := by decide +kernel
theorem dX1_use_48 : decode cX1_use 48 = .ok (.invokevirtual 97, 3) := by decide +kernel
theorem dX1_use_51 : decode cX1_use 51 = .ok (.aload_n 0, 1) := by decide +kernel
theorem dX1_use_52 : decode cX1_use 52 = .ok (.getfield 54, 3) := by decide +kernel
theorem dX1_use_55 : decode cX1_use 55 = .ok (.iload_n 3, 1) := by decide +kernel
theorem dX1_use_56 : decode cX1_use 56 = .ok (.isub, 1) := by decide +kernel
theorem dX1_use_57 : decode cX1_use 57 = .ok (.ireturn, 1) := by decide +kernel
set_option maxRecDepth 20000 in
theorem ggX1_release_X1_find : GoodIn wsX1_release wsX1_find := goodIn_r _ [7, 8, 9, 10, 11, 12, 13, 14, 15, 16, 17, 6, 18, 19, 20, 21, 22, 23, 24, 25, 26, 27, 28, 29, 30, 31, 32, 33, 34, 35, 36, 37, 38, 39, 40, 41, 42, 43, 44, 45, 46, 47, 48, 49, 63, 64, 65] (by decide +kernel) (by decide +kernel)
set_option maxRecDepth 20000 in
theorem gX1_release_X1_find : GoodIn wsX1_release (wsV RX1 104 RX1 yX1_find wsX1_find) := goodIn_app (goodIn_of _ (by decide +kernel)) ggX1_release_X1_find
theorem dX1_release_0 : decode cX1_release 0 = .ok (.aload_n 0, 1) := by decide +kernel
theorem dX1_release_1 : decode cX1_release 1 = .ok (.iload_n 1, 1) := by decide +kernel
theorem dX1_release_2 : decode cX1_release 2 = .ok (.invokevirtual 104, 3) := by decide +kernel
theorem dX1_release_5 : decode cX1_release 5 = .ok (.astore_n 2, 1) := by decide +kernel
theorem dX1_release_6 : decode cX1_release 6 = .ok (.aload_n 2, 1) := by decide +kernel
theorem dX1_release_7 : decode cX1_release 7 = .ok (.ifnonnull 6, 3) := by decide +kernel
theorem dX1_release_10 : decode cX1_release 10 = .ok (.bipush (-2), 2) := by decide +kernel
theorem dX1_release_12 : decode cX1_release 12 = .ok (.ireturn, 1) := by decide +kernel
theorem dX1_release_13 : decode cX1_release 13 = .ok (.aload_n 0, 1) := by decide +kernel
theorem dX1_release_14 : decode cX1_release 14 = .ok (.getfield 19, 3) := by decide +kernel
theorem dX1_release_17 : decode cX1_release 17 = .ok (.ifCond .eq 6, 3) := by decide +kernel
theorem dX1_release_20 : decode cX1_release 20 = .ok (.bipush (-3), 2) := by decide +kernel
theorem dX1_release_22 : decode cX1_release 22 = .ok (.ireturn, 1) := by decide +kernel
theorem dX1_release_23 : decode cX1_release 23 = .ok (.aload_n 2, 1) := by decide +kernel
theorem dX1_release_24 : decode cX1_release 24 = .ok (.getfield 108, 3) := by decide +kernel
theorem dX1_release_27 : decode cX1_release 27 = .ok (.ifCond .ne 5, 3) := by decide +kernel
theorem dX1_release_30 : decode cX1_release 30 = .ok (.iconst (-1), 1) := by decide +kernel
theorem dX1_release_31 : decode cX1_release 31 = .ok (.ireturn, 1) := by decide +kernel
theorem dX1_release_32 : decode cX1_release 32 = .ok (.aload_n 2, 1) := by decide +kernel
theorem dX1_release_33 : decode cX1_release 33 = .ok (.dup, 1) := by decide +kernel
theorem dX1_release_34 : decode cX1_release 34 = .ok (.getfield 108, 3) := by decide +kernel
theorem dX1_release_37 : decode cX1_release 37 = .ok (.iconst 1, 1) := by decide +kernel
theorem dX1_release_38 : decode cX1_release 38 = .ok (.isub, 1) := by decide +kernel
theorem dX1_release_39 : decode cX1_release 39 = .ok (.putfield 108, 3) := by decide +kernel
theorem dX1_release_42 : decode cX1_release 42 = .ok (.aload_n 2, 1) := by decide +kernel
theorem dX1_release_43 : decode cX1_release 43 = .ok (.getfield 108, 3) := by decide +kernel
theorem dX1_release_46 : decode cX1_release 46 = .ok (.ireturn, 1) := by decide +kernel
set_option maxRecDepth 20000 in
theorem ggX1_waker_X1_find : GoodIn wsX1_waker wsX1_find := goodIn_r _ [6, 7, 8, 9, 10, 11, 12, 13, 14, 15, 16, 5, 17, 18, 19, 20, 21, 22, 23, 24, 25, 26, 27, 28, 29, 30, 31, 32, 33, 34, 48, 49, 50, 51, 52, 53, 54, 55, 56, 57, 58, 59, 60, 61, 62, 63, 64] (by decide +kernel) (by decide +kernel)
set_option maxRecDepth 20000 in
theorem gX1_waker_X1_find : GoodIn wsX1_waker (wsV RX1 104 RX1 yX1_find wsX1_find) := goodIn_app (goodIn_of _ (by decide +kernel)) ggX1_waker_X1_find
theorem dX1_waker_0 : decode cX1_waker 0 = .ok (.aload_n 0, 1) := by decide +kernel
theorem dX1_waker_1 : decode cX1_waker 1 = .ok (.iload_n 1, 1) := by decide +kernel
theorem dX1_waker_2 : decode cX1_waker 2 = .ok (.invokevirtual 104, 3) := by decide +kernel
theorem dX1_waker_5 : decode cX1_waker 5 = .ok (.astore_n 3, 1) := by decide +kernel
theorem dX1_waker_6 : decode cX1_waker 6 = .ok (.aload_n 3, 1) := by decide +kernel
theorem dX1_waker_7 : decode cX1_waker 7 = .ok (.ifnonnull 5, 3) := by decide +kernel
theorem dX1_waker_10 : decode cX1_waker 10 = .ok (.iconst 0, 1) := by decide +kernel
theorem dX1_waker_11 : decode cX1_waker 11 = .ok (.ireturn, 1) := by decide +kernel
theorem dX1_waker_12 : decode cX1_waker 12 = .ok (.aload_n 3, 1) := by decide +kernel
theorem dX1_waker_13 : decode cX1_waker 13 = .ok (.iload_n 2, 1) := by decide +kernel
theorem dX1_waker_14 : decode cX1_waker 14 = .ok (.putfield 115, 3) := by decide +kernel
theorem dX1_waker_17 : decode cX1_waker 17 = .ok (.iconst 1, 1) := by decide +kernel
theorem dX1_waker_18 : decode cX1_waker 18 = .ok (.ireturn, 1) := by decide +kernel
set_option maxRecDepth 20000 in
theorem ggX1_refuse_X1_find : GoodIn wsX1_refuse wsX1_find := goodIn_r _ [6, 7, 8, 9, 10, 11, 12, 13, 14, 15, 16, 5, 17, 18, 19, 20, 21, 22, 23, 24, 25, 26, 27, 28, 29, 30, 31, 32, 33, 34, 48, 49, 50, 51, 52, 53, 54, 55, 56, 57, 58, 59, 60, 61, 62, 63, 64] (by decide +kernel) (by decide +kernel)
set_option maxRecDepth 20000 in
theorem gX1_refuse_X1_find : GoodIn wsX1_refuse (wsV RX1 104 RX1 yX1_find wsX1_find) := goodIn_app (goodIn_of _ (by decide +kernel)) ggX1_refuse_X1_find
set_option maxRecDepth 20000 in
theorem ggX1_refuse_X1_isWithin : GoodIn wsX1_refuse wsX1_isWithin := goodIn_r _ [17] (by decide +kernel) (by decide +kernel)
set_option maxRecDepth 20000 in
theorem gX1_refuse_X1_isWithin : GoodIn wsX1_refuse (va_wsS RX1 61 yX1_isWithin wsX1_isWithin) := goodIn_app (goodIn_of _ (by decide +kernel)) ggX1_refuse_X1_isWithin
theorem dX1_refuse_0 : decode cX1_refuse 0 = .ok (.aload_n 0, 1) := by decide +kernel
theorem dX1_refuse_1 : decode cX1_refuse 1 = .ok (.iload_n 1, 1) := by decide +kernel
theorem dX1_refuse_2 : decode cX1_refuse 2 = .ok (.invokevirtual 104, 3) := by decide +kernel
theorem dX1_refuse_5 : decode cX1_refuse 5 = .ok (.astore_n 3, 1) := by decide +kernel
theorem dX1_refuse_6 : decode cX1_refuse 6 = .ok (.aload_n 3, 1) := by decide +kernel
theorem dX1_refuse_7 : decode cX1_refuse 7 = .ok (.ifnull 13, 3) := by decide +kernel
theorem dX1_refuse_10 : decode cX1_refuse 10 = .ok (.iload_n 2, 1) := by decide +kernel
theorem dX1_refuse_11 : decode cX1_refuse 11 = .ok (.iconst 0, 1) := by decide +kernel
theorem dX1_refuse_12 : decode cX1_refuse 12 = .ok (.bipush 9, 2) := by decide +kernel
theorem dX1_refuse_14 : decode cX1_refuse 14 = .ok (.invokestatic 61, 3) := by decide +kernel
theorem dX1_refuse_17 : decode cX1_refuse 17 = .ok (.ifCond .ne 5, 3) := by decide +kernel
theorem dX1_refuse_20 : decode cX1_refuse 20 = .ok (.iconst 0, 1) := by decide +kernel
theorem dX1_refuse_21 : decode cX1_refuse 21 = .ok (.ireturn, 1) := by decide +kernel
theorem dX1_refuse_22 : decode cX1_refuse 22 = .ok (.aload_n 3, 1) := by decide +kernel
theorem dX1_refuse_23 : decode cX1_refuse 23 = .ok (.iload_n 2, 1) := by decide +kernel
theorem dX1_refuse_24 : decode cX1_refuse 24 = .ok (.putfield 119, 3) := by decide +kernel
theorem dX1_refuse_27 : decode cX1_refuse 27 = .ok (.iconst 1, 1) := by decide +kernel
theorem dX1_refuse_28 : decode cX1_refuse 28 = .ok (.ireturn, 1) := by decide +kernel
set_option maxRecDepth 20000 in
theorem ggX1_signal_X1_find : GoodIn wsX1_signal wsX1_find := goodIn_r _ [7, 8, 9, 10, 11, 12, 13, 14, 15, 16, 17, 6, 18, 19, 20, 21, 22, 23, 24, 25, 26, 27, 28, 29, 30, 31, 32, 33, 34, 35, 84, 85, 86, 87, 88, 89, 90, 91, 92, 93, 94, 95, 96, 97, 98, 99, 100] (by decide +kernel) (by decide +kernel)
set_option maxRecDepth 20000 in
theorem gX1_signal_X1_find : GoodIn wsX1_signal (wsV RX1 104 RX1 yX1_find wsX1_find) := goodIn_app (goodIn_of _ (by decide +kernel)) ggX1_signal_X1_find
set_option maxRecDepth 20000 in
theorem ggX1_signal_X1_comeBack : GoodIn wsX1_signal wsX1_comeBack := goodIn_r _ [39, 2, 40, 41, 42, 6, 43, 44, 9, 45, 46, 47, 10, 11, 12, 13, 14, 15, 19, 20, 21, 22, 23, 24, 25, 26, 27, 28, 29, 30, 31, 32, 33, 34, 35, 48, 49, 50, 51, 52, 53, 54, 55, 56, 57, 58, 59, 60, 61, 62, 84, 85, 86, 87, 88, 89, 90, 91, 92, 93, 94, 95, 96, 97, 71, 72, 73, 74, 75, 76, 77, 78, 79, 80, 81, 82, 83, 98, 99, 100] (by decide +kernel) (by decide +kernel)
set_option maxRecDepth 20000 in
theorem gX1_signal_X1_comeBack : GoodIn wsX1_signal (wsV RX1 122 RX1 yX1_comeBack wsX1_comeBack) := goodIn_app (goodIn_of _ (by decide +kernel)) ggX1_signal_X1_comeBack
set_option maxRecDepth 20000 in
theorem ggX1_signal_X1_giveUp : GoodIn wsX1_signal wsX1_giveUp := goodIn_r _ [66, 67, 68, 69, 70, 36, 37, 38, 6, 39, 2, 40, 41, 42, 43, 44, 9, 45, 46, 47, 10, 11, 12, 13, 14, 15, 19, 20, 21, 22, 23, 24, 25, 26, 27, 28, 29, 30, 31, 32, 33, 34, 35, 48, 49, 50, 51, 52, 53, 54, 55, 56, 57, 58, 59, 60, 61, 62, 84, 85, 86, 87, 88, 89, 90, 91, 92, 93, 94, 95, 96, 97, 71, 72, 73, 74, 75, 76, 77, 78, 79, 80, 81, 82, 83, 98, 99, 100] (by decide +kernel) (by decide +kernel)
set_option maxRecDepth 20000 in
theorem gX1_signal_X1_giveUp : GoodIn wsX1_signal (wsV RX1 125 RX1 yX1_giveUp wsX1_giveUp) := goodIn_app (goodIn_of _ (by decide +kernel)) ggX1_signal_X1_giveUp
theorem dX1_signal_0 : decode cX1_signal 0 = .ok (.aload_n 0, 1) := by decide +kernel
theorem dX1_signal_1 : decode cX1_signal 1 = .ok (.iload_n 1, 1) := by decide +kernel
theorem dX1_signal_2 : decode cX1_signal 2 = .ok (.invokevirtual 104, 3) := by decide +kernel
theorem dX1_signal_5 : decode cX1_signal 5 = .ok (.astore_n 2, 1) := by decide +kernel
theorem dX1_signal_6 : decode cX1_signal 6 = .ok (.aload_n 2, 1) := by decide +kernel
theorem dX1_signal_7 : decode cX1_signal 7 = .ok (.ifnonnull 6, 3) := by decide +kernel
theorem dX1_signal_10 : decode cX1_signal 10 = .ok (.bipush (-2), 2) := by decide +kernel
theorem dX1_signal_12 : decode cX1_signal 12 = .ok (.ireturn, 1) := by decide +kernel
theorem dX1_signal_13 : decode cX1_signal 13 = .ok (.aload_n 2, 1) := by decide +kernel
theorem dX1_signal_14 : decode cX1_signal 14 = .ok (.getfield 115, 3) := by decide +kernel
theorem dX1_signal_17 : decode cX1_signal 17 = .ok (.ifCond .eq 18, 3) := by decide +kernel
theorem dX1_signal_20 : decode cX1_signal 20 = .ok (.aload_n 0, 1) := by decide +kernel
theorem dX1_signal_21 : decode cX1_signal 21 = .ok (.getfield 19, 3) := by decide +kernel
theorem dX1_signal_24 : decode cX1_signal 24 = .ok (.iconst 2, 1) := by decide +kernel
theorem dX1_signal_25 : decode cX1_signal 25 = .ok (.if_icmp .ne 10, 3) := by decide +kernel
theorem dX1_signal_28 : decode cX1_signal 28 = .ok (.aload_n 0, 1) := by decide +kernel
theorem dX1_signal_29 : decode cX1_signal 29 = .ok (.iconst 3, 1) := by decide +kernel
theorem dX1_signal_30 : decode cX1_signal 30 = .ok (.invokevirtual 122, 3) := by decide +kernel
theorem dX1_signal_33 : decode cX1_signal 33 = .ok (.iconst 1, 1) := by decide +kernel
theorem dX1_signal_34 : decode cX1_signal 34 = .ok (.ireturn, 1) := by decide +kernel
theorem dX1_signal_35 : decode cX1_signal 35 = .ok (.aload_n 2, 1) := by decide +kernel
theorem dX1_signal_36 : decode cX1_signal 36 = .ok (.getfield 115, 3) := by decide +kernel
theorem dX1_signal_39 : decode cX1_signal 39 = .ok (.ifCond .eq 19, 3) := by decide +kernel
theorem dX1_signal_42 : decode cX1_signal 42 = .ok (.aload_n 0, 1) := by decide +kernel
theorem dX1_signal_43 : decode cX1_signal 43 = .ok (.getfield 19, 3) := by decide +kernel
theorem dX1_signal_46 : decode cX1_signal 46 = .ok (.iconst 1, 1) := by decide +kernel
theorem dX1_signal_47 : decode cX1_signal 47 = .ok (.if_icmp .ne 11, 3) := by decide +kernel
theorem dX1_signal_50 : decode cX1_signal 50 = .ok (.aload_n 0, 1) := by decide +kernel
theorem dX1_signal_51 : decode cX1_signal 51 = .ok (.iconst 2, 1) := by decide +kernel
theorem dX1_signal_52 : decode cX1_signal 52 = .ok (.aload_n 2, 1) := by decide +kernel
theorem dX1_signal_53 : decode cX1_signal 53 = .ok (.invokevirtual 125, 3) := by decide +kernel
theorem dX1_signal_56 : decode cX1_signal 56 = .ok (.iconst 1, 1) := by decide +kernel
theorem dX1_signal_57 : decode cX1_signal 57 = .ok (.ireturn, 1) := by decide +kernel
theorem dX1_signal_58 : decode cX1_signal 58 = .ok (.iconst 0, 1) := by decide +kernel
theorem dX1_signal_59 : decode cX1_signal 59 = .ok (.ireturn, 1) := by decide +kernel
set_option maxRecDepth 20000 in
theorem ggX1_sleep_Jx4a65c_size_8abf5 : GoodIn wsX1_sleep wsJx4a65c_size_8abf5 := goodIn_r _ [10, 11, 79, 80, 81] (by decide +kernel) (by decide +kernel)
set_option maxRecDepth 20000 in
theorem gX1_sleep_Jx4a65c_size_8abf5 : GoodIn wsX1_sleep (wsV RX1 65 RJx4a65c yJx4a65c_size_8abf5 wsJx4a65c_size_8abf5) := goodIn_app (goodIn_of _ (by decide +kernel)) ggX1_sleep_Jx4a65c_size_8abf5
set_option maxRecDepth 20000 in
theorem ggX1_sleep_Jx4a65c_get_915e3 : GoodIn wsX1_sleep wsJx4a65c_get_915e3 := goodIn_r _ [15, 11, 16, 17, 18, 19, 20, 21, 22, 23, 24, 25, 26, 9, 27, 28, 79, 80, 81] (by decide +kernel) (by decide +kernel)
set_option maxRecDepth 20000 in
theorem gX1_sleep_Jx4a65c_get_915e3 : GoodIn wsX1_sleep (wsV RX1 129 RJx4a65c yJx4a65c_get_915e3 wsJx4a65c_get_915e3) := goodIn_app (goodIn_of _ (by decide +kernel)) ggX1_sleep_Jx4a65c_get_915e3
set_option maxRecDepth 20000 in
theorem ggX1_sleep_X1_sinkFurther : GoodIn wsX1_sleep wsX1_sinkFurther := goodIn_r _ [33, 34, 3, 4, 35, 1, 36, 6, 7, 8, 9, 10, 11, 12, 13, 14, 15, 16, 17, 18, 19, 20, 21, 22, 23, 24, 25, 26, 27, 28, 37, 38, 39, 32, 40, 41, 42, 43, 44, 45, 46, 47, 48, 49, 50, 51, 52, 53, 54, 55, 56, 57, 58, 59, 60, 61, 62, 63, 64, 65, 66, 67, 68, 69, 70, 71, 72, 73, 74, 75, 76, 77, 78, 79, 80, 81] (by decide +kernel) (by decide +kernel)
set_option maxRecDepth 20000 in
theorem gX1_sleep_X1_sinkFurther : GoodIn wsX1_sleep (wsV RX1 139 RX1 yX1_sinkFurther wsX1_sinkFurther) := goodIn_app (goodIn_of _ (by decide +kernel)) ggX1_sleep_X1_sinkFurther
theorem dX1_sleep_0 : decode cX1_sleep 0 = .ok (.aload_n 0, 1) := by decide +kernel
theorem dX1_sleep_1 : decode cX1_sleep 1 = .ok (.getfield 19, 3) := by decide +kernel
theorem dX1_sleep_4 : decode cX1_sleep 4 = .ok (.ifCond .eq 6, 3) := by decide +kernel
theorem dX1_sleep_7 : decode cX1_sleep 7 = .ok (.bipush (-3), 2) := by decide +kernel
theorem dX1_sleep_9 : decode cX1_sleep 9 = .ok (.ireturn, 1) := by decide +kernel
theorem dX1_sleep_10 : decode cX1_sleep 10 = .ok (.iconst 0, 1) := by decide +kernel
theorem dX1_sleep_11 : decode cX1_sleep 11 = .ok (.istore_n 1, 1) := by decide +kernel
theorem dX1_sleep_12 : decode cX1_sleep 12 = .ok (.iload_n 1, 1) := by decide +kernel
theorem dX1_sleep_13 : decode cX1_sleep 13 = .ok (.aload_n 0, 1) := by decide +kernel
theorem dX1_sleep_14 : decode cX1_sleep 14 = .ok (.getfield 10, 3) := by decide +kernel
theorem dX1_sleep_17 : decode cX1_sleep 17 = .ok (.invokevirtual 65, 3) := by decide +kernel
theorem dX1_sleep_20 : decode cX1_sleep 20 = .ok (.if_icmp .ge 29, 3) := by decide +kernel
theorem dX1_sleep_23 : decode cX1_sleep 23 = .ok (.aload_n 0, 1) := by decide +kernel
theorem dX1_sleep_24 : decode cX1_sleep 24 = .ok (.getfield 10, 3) := by decide +kernel
theorem dX1_sleep_27 : decode cX1_sleep 27 = .ok (.iload_n 1, 1) := by decide +kernel
theorem dX1_sleep_28 : decode cX1_sleep 28 = .ok (.invokevirtual 129, 3) := by decide +kernel
theorem dX1_sleep_31 : decode cX1_sleep 31 = .ok (.checkcast 69, 3) := by decide +kernel
theorem dX1_sleep_34 : decode cX1_sleep 34 = .ok (.astore_n 2, 1) := by decide +kernel
theorem dX1_sleep_35 : decode cX1_sleep 35 = .ok (.aload_n 2, 1) := by decide +kernel
theorem dX1_sleep_36 : decode cX1_sleep 36 = .ok (.aload_n 2, 1) := by decide +kernel
theorem dX1_sleep_37 : decode cX1_sleep 37 = .ok (.getfield 133, 3) := by decide +kernel
theorem dX1_sleep_40 : decode cX1_sleep 40 = .ok (.putfield 136, 3) := by decide +kernel
theorem dX1_sleep_43 : decode cX1_sleep 43 = .ok (.iinc 1 1, 3) := by decide +kernel
theorem dX1_sleep_46 : decode cX1_sleep 46 = .ok (.goto (-34), 3) := by decide +kernel
theorem dX1_sleep_49 : decode cX1_sleep 49 = .ok (.aload_n 0, 1) := by decide +kernel
theorem dX1_sleep_50 : decode cX1_sleep 50 = .ok (.iconst 1, 1) := by decide +kernel
theorem dX1_sleep_51 : decode cX1_sleep 51 = .ok (.putfield 19, 3) := by decide +kernel
theorem dX1_sleep_54 : decode cX1_sleep 54 = .ok (.aload_n 0, 1) := by decide +kernel
theorem dX1_sleep_55 : decode cX1_sleep 55 = .ok (.invokevirtual 139, 3) := by decide +kernel
theorem dX1_sleep_58 : decode cX1_sleep 58 = .ok (.aload_n 0, 1) := by decide +kernel
theorem dX1_sleep_59 : decode cX1_sleep 59 = .ok (.getfield 19, 3) := by decide +kernel
theorem dX1_sleep_62 : decode cX1_sleep 62 = .ok (.ireturn, 1) := by decide +kernel
set_option maxRecDepth 20000 in
theorem ggX1_watch_X1_isWithin : GoodIn wsX1_watch wsX1_isWithin := goodIn_r _ [6] (by decide +kernel) (by decide +kernel)
set_option maxRecDepth 20000 in
theorem gX1_watch_X1_isWithin : GoodIn wsX1_watch (va_wsS RX1 61 yX1_isWithin wsX1_isWithin) := goodIn_app (goodIn_of _ (by decide +kernel)) ggX1_watch_X1_isWithin
theorem dX1_watch_0 : decode cX1_watch 0 = .ok (.iload_n 1, 1) := by decide +kernel
theorem dX1_watch_1 : decode cX1_watch 1 = .ok (.iconst 0, 1) := by decide +kernel
theorem dX1_watch_2 : decode cX1_watch 2 = .ok (.bipush 100, 2) := by decide +kernel
theorem dX1_watch_4 : decode cX1_watch 4 = .ok (.invokestatic 61, 3) := by decide +kernel
theorem dX1_watch_7 : decode cX1_watch 7 = .ok (.ifCond .ne 5, 3) := by decide +kernel
theorem dX1_watch_10 : decode cX1_watch 10 = .ok (.iconst 0, 1) := by decide +kernel
theorem dX1_watch_11 : decode cX1_watch 11 = .ok (.ireturn, 1) := by decide +kernel
theorem dX1_watch_12 : decode cX1_watch 12 = .ok (.aload_n 0, 1) := by decide +kernel
theorem dX1_watch_13 : decode cX1_watch 13 = .ok (.iload_n 1, 1) := by decide +kernel
theorem dX1_watch_14 : decode cX1_watch 14 = .ok (.putfield 33, 3) := by decide +kernel
theorem dX1_watch_17 : decode cX1_watch 17 = .ok (.aload_n 0, 1) := by decide +kernel
theorem dX1_watch_18 : decode cX1_watch 18 = .ok (.iconst 0, 1) := by decide +kernel
theorem dX1_watch_19 : decode cX1_watch 19 = .ok (.putfield 36, 3) := by decide +kernel
theorem dX1_watch_22 : decode cX1_watch 22 = .ok (.iconst 1, 1) := by decide +kernel
theorem dX1_watch_23 : decode cX1_watch 23 = .ok (.ireturn, 1) := by decide +kernel
theorem dX1_kick_0 : decode cX1_kick 0 = .ok (.aload_n 0, 1) := by decide +kernel
theorem dX1_kick_1 : decode cX1_kick 1 = .ok (.getfield 36, 3) := by decide +kernel
theorem dX1_kick_4 : decode cX1_kick 4 = .ok (.istore_n 1, 1) := by decide +kernel
theorem dX1_kick_5 : decode cX1_kick 5 = .ok (.aload_n 0, 1) := by decide +kernel
theorem dX1_kick_6 : decode cX1_kick 6 = .ok (.iconst 0, 1) := by decide +kernel
theorem dX1_kick_7 : decode cX1_kick 7 = .ok (.putfield 36, 3) := by decide +kernel
theorem dX1_kick_10 : decode cX1_kick 10 = .ok (.iload_n 1, 1) := by decide +kernel
theorem dX1_kick_11 : decode cX1_kick 11 = .ok (.ireturn, 1) := by decide +kernel
set_option maxRecDepth 20000 in
theorem ggX1_tick_X1_isWithin : GoodIn wsX1_tick wsX1_isWithin := goodIn_r _ [5] (by decide +kernel) (by decide +kernel)
set_option maxRecDepth 20000 in
theorem gX1_tick_X1_isWithin : GoodIn wsX1_tick (va_wsS RX1 61 yX1_isWithin wsX1_isWithin) := goodIn_app (goodIn_of _ (by decide +kernel)) ggX1_tick_X1_isWithin
set_option maxRecDepth 20000 in
theorem ggX1_tick_X1_passOneTick : GoodIn wsX1_tick wsX1_passOneTick := goodIn_r _ [9, 10, 11, 12, 13, 14, 15, 4, 16, 17, 18, 19, 20, 21, 22, 23, 24, 25, 26, 27, 28, 29, 30, 31, 32, 33, 34, 35, 36, 37, 38, 39, 40, 41, 42, 43, 44, 45, 46, 47, 48, 49, 50, 51, 52, 53, 54, 55, 56, 57, 1, 58, 59, 60, 61, 62, 63, 64, 65, 66, 67, 68, 69, 70, 71, 72, 73, 74, 75, 76, 77, 78, 79, 80, 81, 82, 83, 84, 85, 86, 87, 88, 89, 90, 91, 92, 93, 94, 95, 96, 97, 98, 99, 100, 101, 102, 103, 104, 105, 106, 107, 108, 109, 110, 111, 112, 113, 114, 115, 116, 117, 118, 119, 120, 121, 122, 123, 124, 125, 126, 127, 128, 129, 130, 131, 132, 133, 134, 135, 136, 137, 138, 139, 140] (by decide +kernel) (by decide +kernel)
set_option maxRecDepth 20000 in
theorem gX1_tick_X1_passOneTick : GoodIn wsX1_tick (wsV RX1 142 RX1 yX1_passOneTick wsX1_passOneTick) := goodIn_app (goodIn_of _ (by decide +kernel)) ggX1_tick_X1_passOneTick
theorem dX1_tick_0 : decode cX1_tick 0 = .ok (.iload_n 1, 1) := by decide +kernel
theorem dX1_tick_1 : decode cX1_tick 1 = .ok (.iconst 0, 1) := by decide +kernel
theorem dX1_tick_2 : decode cX1_tick 2 = .ok (.sipush 200, 3) := by decide +kernel
theorem dX1_tick_5 : decode cX1_tick 5 = .ok (.invokestatic 61, 3) := by decide +kernel
theorem dX1_tick_8 : decode cX1_tick 8 = .ok (.ifCond .ne 6, 3) := by decide +kernel
theorem dX1_tick_11 : decode cX1_tick 11 = .ok (.bipush (-2), 2) := by decide +kernel
theorem dX1_tick_13 : decode cX1_tick 13 = .ok (.ireturn, 1) := by decide +kernel
theorem dX1_tick_14 : decode cX1_tick 14 = .ok (.aload_n 0, 1) := by decide +kernel
theorem dX1_tick_15 : decode cX1_tick 15 = .ok (.getfield 54, 3) := by decide +kernel
theorem dX1_tick_18 : decode cX1_tick 18 = .ok (.istore_n 2, 1) := by decide +kernel
theorem dX1_tick_19 : decode cX1_tick 19 = .ok (.iconst 0, 1) := by decide +kernel
theorem dX1_tick_20 : decode cX1_tick 20 = .ok (.istore_n 3, 1) := by decide +kernel
theorem dX1_tick_21 : decode cX1_tick 21 = .ok (.iload_n 3, 1) := by decide +kernel
theorem dX1_tick_22 : decode cX1_tick 22 = .ok (.iload_n 1, 1) := by decide +kernel
theorem dX1_tick_23 : decode cX1_tick 23 = .ok (.if_icmp .ge 13, 3) := by decide +kernel
theorem dX1_tick_26 : decode cX1_tick 26 = .ok (.aload_n 0, 1) := by decide +kernel
theorem dX1_tick_27 : decode cX1_tick 27 = .ok (.invokevirtual 142, 3) := by decide +kernel
theorem dX1_tick_30 : decode cX1_tick 30 = .ok (.iinc 3 1, 3) := by decide +kernel
theorem dX1_tick_33 : decode cX1_tick 33 = .ok (.goto (-12), 3) := by decide +kernel
theorem dX1_tick_36 : decode cX1_tick 36 = .ok (.aload_n 0, 1) := by decide +kernel
theorem dX1_tick_37 : decode cX1_tick 37 = .ok (.getfield 54, 3) := by decide +kernel
theorem dX1_tick_40 : decode cX1_tick 40 = .ok (.iload_n 2, 1) := by decide +kernel
theorem dX1_tick_41 : decode cX1_tick 41 = .ok (.isub, 1) := by decide +kernel
theorem dX1_tick_42 : decode cX1_tick 42 = .ok (.ireturn, 1) := by decide +kernel
theorem dX1_phase_0 : decode cX1_phase 0 = .ok (.aload_n 0, 1) := by decide +kernel
theorem dX1_phase_1 : decode cX1_phase 1 = .ok (.getfield 19, 3) := by decide +kernel
theorem dX1_phase_4 : decode cX1_phase 4 = .ok (.ireturn, 1) := by decide +kernel
set_option maxRecDepth 20000 in
theorem ggX1_state_X1_find : GoodIn wsX1_state wsX1_find := goodIn_r _ [6, 7, 8, 9, 10, 11, 12, 13, 14, 15, 16, 5, 17, 18, 19, 20, 21, 22, 23, 24, 25, 26, 27, 28, 29, 30, 31, 32, 33, 34, 48, 49, 50, 51, 52, 53, 54, 55, 56, 57, 58, 59, 60, 61, 62, 63, 64] (by decide +kernel) (by decide +kernel)
set_option maxRecDepth 20000 in
theorem gX1_state_X1_find : GoodIn wsX1_state (wsV RX1 104 RX1 yX1_find wsX1_find) := goodIn_app (goodIn_of _ (by decide +kernel)) ggX1_state_X1_find
theorem dX1_state_0 : decode cX1_state 0 = .ok (.aload_n 0, 1) := by decide +kernel
theorem dX1_state_1 : decode cX1_state 1 = .ok (.iload_n 1, 1) := by decide +kernel
theorem dX1_state_2 : decode cX1_state 2 = .ok (.invokevirtual 104, 3) := by decide +kernel
theorem dX1_state_5 : decode cX1_state 5 = .ok (.astore_n 2, 1) := by decide +kernel
theorem dX1_state_6 : decode cX1_state 6 = .ok (.aload_n 2, 1) := by decide +kernel
theorem dX1_state_7 : decode cX1_state 7 = .ok (.ifnonnull 8, 3) := by decide +kernel
theorem dX1_state_10 : decode cX1_state 10 = .ok (.bipush (-2), 2) := by decide +kernel
theorem dX1_state_12 : decode cX1_state 12 = .ok (.goto 7, 3) := by decide +kernel
theorem dX1_state_15 : decode cX1_state 15 = .ok (.aload_n 2, 1) := by decide +kernel
theorem dX1_state_16 : decode cX1_state 16 = .ok (.getfield 133, 3) := by decide +kernel
theorem dX1_state_19 : decode cX1_state 19 = .ok (.ireturn, 1) := by decide +kernel
set_option maxRecDepth 20000 in
theorem ggX1_uses_X1_find : GoodIn wsX1_uses wsX1_find := goodIn_r _ [6, 7, 8, 9, 10, 11, 12, 13, 14, 15, 16, 5, 17, 18, 19, 20, 21, 22, 23, 24, 25, 26, 27, 28, 29, 30, 31, 32, 33, 34, 48, 49, 50, 51, 52, 53, 54, 55, 56, 57, 58, 59, 60, 61, 62, 63, 64] (by decide +kernel) (by decide +kernel)
set_option maxRecDepth 20000 in
theorem gX1_uses_X1_find : GoodIn wsX1_uses (wsV RX1 104 RX1 yX1_find wsX1_find) := goodIn_app (goodIn_of _ (by decide +kernel)) ggX1_uses_X1_find
theorem dX1_uses_0 : decode cX1_uses 0 = .ok (.aload_n 0, 1) := by decide +kernel
theorem dX1_uses_1 : decode cX1_uses 1 = .ok (.iload_n 1, 1) := by decide +kernel
theorem dX1_uses_2 : decode cX1_uses 2 = .ok (.invokevirtual 104, 3) := by decide +kernel
theorem dX1_uses_5 : decode cX1_uses 5 = .ok (.astore_n 2, 1) := by decide +kernel
theorem dX1_uses_6 : decode cX1_uses 6 = .ok (.aload_n 2, 1) := by decide +kernel
theorem dX1_uses_7 : decode cX1_uses 7 = .ok (.ifnonnull 8, 3) := by decide +kernel
theorem dX1_uses_10 : decode cX1_uses 10 = .ok (.bipush (-2), 2) := by decide +kernel
theorem dX1_uses_12 : decode cX1_uses 12 = .ok (.goto 7, 3) := by decide +kernel
theorem dX1_uses_15 : decode cX1_uses 15 = .ok (.aload_n 2, 1) := by decide +kernel
theorem dX1_uses_16 : decode cX1_uses 16 = .ok (.getfield 108, 3) := by decide +kernel
theorem dX1_uses_19 : decode cX1_uses 19 = .ok (.ireturn, 1) := by decide +kernel
set_option maxRecDepth 20000 in
theorem ggX1_idle_X1_find : GoodIn wsX1_idle wsX1_find := goodIn_r _ [6, 7, 8, 9, 10, 11, 12, 13, 14, 15, 16, 5, 17, 18, 19, 20, 21, 22, 23, 24, 25, 26, 27, 28, 29, 30, 31, 32, 33, 34, 48, 49, 50, 51, 52, 53, 54, 55, 56, 57, 58, 59, 60, 61, 62, 63, 64] (by decide +kernel) (by decide +kernel)
set_option maxRecDepth 20000 in
theorem gX1_idle_X1_find : GoodIn wsX1_idle (wsV RX1 104 RX1 yX1_find wsX1_find) := goodIn_app (goodIn_of _ (by decide +kernel)) ggX1_idle_X1_find
theorem dX1_idle_0 : decode cX1_idle 0 = .ok (.aload_n 0, 1) := by decide +kernel
theorem dX1_idle_1 : decode cX1_idle 1 = .ok (.iload_n 1, 1) := by decide +kernel
theorem dX1_idle_2 : decode cX1_idle 2 = .ok (.invokevirtual 104, 3) := by decide +kernel
theorem dX1_idle_5 : decode cX1_idle 5 = .ok (.astore_n 2, 1) := by decide +kernel
theorem dX1_idle_6 : decode cX1_idle 6 = .ok (.aload_n 2, 1) := by decide +kernel
theorem dX1_idle_7 : decode cX1_idle 7 = .ok (.ifnonnull 8, 3) := by decide +kernel
theorem dX1_idle_10 : decode cX1_idle 10 = .ok (.bipush (-2), 2) := by decide +kernel
theorem dX1_idle_12 : decode cX1_idle 12 = .ok (.goto 7, 3) := by decide +kernel
theorem dX1_idle_15 : decode cX1_idle 15 = .ok (.aload_n 2, 1) := by decide +kernel
theorem dX1_idle_16 : decode cX1_idle 16 = .ok (.getfield 145, 3) := by decide +kernel
theorem dX1_idle_19 : decode cX1_idle 19 = .ok (.ireturn, 1) := by decide +kernel
set_option maxRecDepth 20000 in
theorem ggX1_refusals_X1_find : GoodIn wsX1_refusals wsX1_find := goodIn_r _ [6, 7, 8, 9, 10, 11, 12, 13, 14, 15, 16, 5, 17, 18, 19, 20, 21, 22, 23, 24, 25, 26, 27, 28, 29, 30, 31, 32, 33, 34, 48, 49, 50, 51, 52, 53, 54, 55, 56, 57, 58, 59, 60, 61, 62, 63, 64] (by decide +kernel) (by decide +kernel)
set_option maxRecDepth 20000 in
theorem gX1_refusals_X1_find : GoodIn wsX1_refusals (wsV RX1 104 RX1 yX1_find wsX1_find) := goodIn_app (goodIn_of _ (by decide +kernel)) ggX1_refusals_X1_find
theorem dX1_refusals_0 : decode cX1_refusals 0 = .ok (.aload_n 0, 1) := by decide +kernel
theorem dX1_refusals_1 : decode cX1_refusals 1 = .ok (.iload_n 1, 1) := by decide +kernel
theorem dX1_refusals_2 : decode cX1_refusals 2 = .ok (.invokevirtual 104, 3) := by decide +kernel
theorem dX1_refusals_5 : decode cX1_refusals 5 = .ok (.astore_n 2, 1) := by decide +kernel
theorem dX1_refusals_6 : decode cX1_refusals 6 = .ok (.aload_n 2, 1) := by decide +kernel
theorem dX1_refusals_7 : decode cX1_refusals 7 = .ok (.ifnonnull 8, 3) := by decide +kernel
theorem dX1_refusals_10 : decode cX1_refusals 10 = .ok (.bipush (-2), 2) := by decide +kernel
theorem dX1_refusals_12 : decode cX1_refusals 12 = .ok (.goto 7, 3) := by decide +kernel
theorem dX1_refusals_15 : decode cX1_refusals 15 = .ok (.aload_n 2, 1) := by decide +kernel
theorem dX1_refusals_16 : decode cX1_refusals 16 = .ok (.getfield 119, 3) := by decide +kernel
theorem dX1_refusals_19 : decode cX1_refusals 19 = .ok (.ireturn, 1) := by decide +kernel
theorem dX1_due_0 : decode cX1_due 0 = .ok (.aload_n 0, 1) := by decide +kernel
theorem dX1_due_1 : decode cX1_due 1 = .ok (.getfield 23, 3) := by decide +kernel
theorem dX1_due_4 : decode cX1_due 4 = .ok (.ifnonnull 7, 3) := by decide +kernel
theorem dX1_due_7 : decode cX1_due 7 = .ok (.iconst (-1), 1) := by decide +kernel
theorem dX1_due_8 : decode cX1_due 8 = .ok (.goto 10, 3) := by decide +kernel
theorem dX1_due_11 : decode cX1_due 11 = .ok (.aload_n 0, 1) := by decide +kernel
theorem dX1_due_12 : decode cX1_due 12 = .ok (.getfield 23, 3) := by decide +kernel
theorem dX1_due_15 : decode cX1_due 15 = .ok (.getfield 101, 3) := by decide +kernel
theorem dX1_due_18 : decode cX1_due 18 = .ok (.ireturn, 1) := by decide +kernel
theorem dX1_left_0 : decode cX1_left 0 = .ok (.aload_n 0, 1) := by decide +kernel
theorem dX1_left_1 : decode cX1_left 1 = .ok (.getfield 27, 3) := by decide +kernel
theorem dX1_left_4 : decode cX1_left 4 = .ok (.ireturn, 1) := by decide +kernel
theorem dX1_named_0 : decode cX1_named 0 = .ok (.aload_n 0, 1) := by decide +kernel
theorem dX1_named_1 : decode cX1_named 1 = .ok (.getfield 51, 3) := by decide +kernel
theorem dX1_named_4 : decode cX1_named 4 = .ok (.ireturn, 1) := by decide +kernel
set_option maxRecDepth 20000 in
theorem ggX1_figure_Jx4a65c_size_8abf5 : GoodIn wsX1_figure wsJx4a65c_size_8abf5 := goodIn_r _ [12, 13, 28, 29, 30] (by decide +kernel) (by decide +kernel)
set_option maxRecDepth 20000 in
theorem gX1_figure_Jx4a65c_size_8abf5 : GoodIn wsX1_figure (wsV RX1 65 RJx4a65c yJx4a65c_size_8abf5 wsJx4a65c_size_8abf5) := goodIn_app (goodIn_of _ (by decide +kernel)) ggX1_figure_Jx4a65c_size_8abf5
theorem dX1_figure_0 : decode cX1_figure 0 = .ok (.iload_n 1, 1) := by decide +kernel
theorem dX1_figure_1 : decode cX1_figure 1 = .ok (.tableswitch 81 0 6 #[43, 48, 53, 58, 63, 68, 73], 43) := by decide +kernel
theorem dX1_figure_44 : decode cX1_figure 44 = .ok (.aload_n 0, 1) := by decide +kernel
theorem dX1_figure_45 : decode cX1_figure 45 = .ok (.getfield 30, 3) := by decide +kernel
theorem dX1_figure_48 : decode cX1_figure 48 = .ok (.ireturn, 1) := by decide +kernel
theorem dX1_figure_49 : decode cX1_figure 49 = .ok (.aload_n 0, 1) := by decide +kernel
theorem dX1_figure_50 : decode cX1_figure 50 = .ok (.getfield 36, 3) := by decide +kernel
theorem dX1_figure_53 : decode cX1_figure 53 = .ok (.ireturn, 1) := by decide +kernel
theorem dX1_figure_54 : decode cX1_figure 54 = .ok (.aload_n 0, 1) := by decide +kernel
theorem dX1_figure_55 : decode cX1_figure 55 = .ok (.getfield 39, 3) := by decide +kernel
theorem dX1_figure_58 : decode cX1_figure 58 = .ok (.ireturn, 1) := by decide +kernel
theorem dX1_figure_59 : decode cX1_figure 59 = .ok (.aload_n 0, 1) := by decide +kernel
theorem dX1_figure_60 : decode cX1_figure 60 = .ok (.getfield 42, 3) := by decide +kernel
theorem dX1_figure_63 : decode cX1_figure 63 = .ok (.ireturn, 1) := by decide +kernel
theorem dX1_figure_64 : decode cX1_figure 64 = .ok (.aload_n 0, 1) := by decide +kernel
theorem dX1_figure_65 : decode cX1_figure 65 = .ok (.getfield 45, 3) := by decide +kernel
theorem dX1_figure_68 : decode cX1_figure 68 = .ok (.ireturn, 1) := by decide +kernel
theorem dX1_figure_69 : decode cX1_figure 69 = .ok (.aload_n 0, 1) := by decide +kernel
theorem dX1_figure_70 : decode cX1_figure 70 = .ok (.getfield 48, 3) := by decide +kernel
theorem dX1_figure_73 : decode cX1_figure 73 = .ok (.ireturn, 1) := by decide +kernel
theorem dX1_figure_74 : decode cX1_figure 74 = .ok (.aload_n 0, 1) := by decide +kernel
theorem dX1_figure_75 : decode cX1_figure 75 = .ok (.getfield 10, 3) := by decide +kernel
theorem dX1_figure_78 : decode cX1_figure 78 = .ok (.invokevirtual 65, 3) := by decide +kernel
theorem dX1_figure_81 : decode cX1_figure 81 = .ok (.ireturn, 1) := by decide +kernel
theorem dX1_figure_82 : decode cX1_figure 82 = .ok (.bipush (-2), 2) := by decide +kernel
theorem dX1_figure_84 : decode cX1_figure 84 = .ok (.ireturn, 1) := by decide +kernel
theorem dX1_isWithin_0 : decode cX1_isWithin 0 = .ok (.iload_n 0, 1) := by decide +kernel
theorem dX1_isWithin_1 : decode cX1_isWithin 1 = .ok (.iload_n 1, 1) := by decide +kernel
theorem dX1_isWithin_2 : decode cX1_isWithin 2 = .ok (.if_icmp .lt 12, 3) := by decide +kernel
theorem dX1_isWithin_5 : decode cX1_isWithin 5 = .ok (.iload_n 0, 1) := by decide +kernel
theorem dX1_isWithin_6 : decode cX1_isWithin 6 = .ok (.iload_n 2, 1) := by decide +kernel
theorem dX1_isWithin_7 : decode cX1_isWithin 7 = .ok (.if_icmp .gt 7, 3) := by decide +kernel
theorem dX1_isWithin_10 : decode cX1_isWithin 10 = .ok (.iconst 1, 1) := by decide +kernel
theorem dX1_isWithin_11 : decode cX1_isWithin 11 = .ok (.goto 4, 3) := by decide +kernel
theorem dX1_isWithin_14 : decode cX1_isWithin 14 = .ok (.iconst 0, 1) := by decide +kernel
theorem dX1_isWithin_15 : decode cX1_isWithin 15 = .ok (.ireturn, 1) := by decide +kernel
theorem dX1_bit_0 : decode cX1_bit 0 = .ok (.iconst 1, 1) := by decide +kernel
theorem dX1_bit_1 : decode cX1_bit 1 = .ok (.aload_n 0, 1) := by decide +kernel
theorem dX1_bit_2 : decode cX1_bit 2 = .ok (.getfield 101, 3) := by decide +kernel
theorem dX1_bit_5 : decode cX1_bit 5 = .ok (.ishl, 1) := by decide +kernel
theorem dX1_bit_6 : decode cX1_bit 6 = .ok (.ireturn, 1) := by decide +kernel
set_option maxRecDepth 20000 in
theorem ggX1_holds_X1_bit : GoodIn wsX1_holds wsX1_bit := goodIn_r _ [4, 5, 6, 7, 8, 9, 10, 11, 12, 13, 14, 15, 16, 17, 18] (by decide +kernel) (by decide +kernel)
set_option maxRecDepth 20000 in
theorem gX1_holds_X1_bit : GoodIn wsX1_holds (va_wsS RX1 111 yX1_bit wsX1_bit) := goodIn_app (goodIn_of _ (by decide +kernel)) ggX1_holds_X1_bit
theorem dX1_holds_0 : decode cX1_holds 0 = .ok (.iload_n 0, 1) := by decide +kernel
theorem dX1_holds_1 : decode cX1_holds 1 = .ok (.aload_n 1, 1) := by decide +kernel
theorem dX1_holds_2 : decode cX1_holds 2 = .ok (.invokestatic 111, 3) := by decide +kernel
theorem dX1_holds_5 : decode cX1_holds 5 = .ok (.iand, 1) := by decide +kernel
theorem dX1_holds_6 : decode cX1_holds 6 = .ok (.ifCond .eq 7, 3) := by decide +kernel
theorem dX1_holds_9 : decode cX1_holds 9 = .ok (.iconst 1, 1) := by decide +kernel
theorem dX1_holds_10 : decode cX1_holds 10 = .ok (.goto 4, 3) := by decide +kernel
theorem dX1_holds_13 : decode cX1_holds 13 = .ok (.iconst 0, 1) := by decide +kernel
theorem dX1_holds_14 : decode cX1_holds 14 = .ok (.ireturn, 1) := by decide +kernel
set_option maxRecDepth 20000 in
theorem ggX1_find_Jx4a65c_size_8abf5 : GoodIn wsX1_find wsJx4a65c_size_8abf5 := goodIn_r _ [7, 8, 44, 45, 46] (by decide +kernel) (by decide +kernel)
set_option maxRecDepth 20000 in
theorem gX1_find_Jx4a65c_size_8abf5 : GoodIn wsX1_find (wsV RX1 65 RJx4a65c yJx4a65c_size_8abf5 wsJx4a65c_size_8abf5) := goodIn_app (goodIn_of _ (by decide +kernel)) ggX1_find_Jx4a65c_size_8abf5
set_option maxRecDepth 20000 in
theorem ggX1_find_X1_isWithin : GoodIn wsX1_find wsX1_isWithin := goodIn_r _ [12] (by decide +kernel) (by decide +kernel)
set_option maxRecDepth 20000 in
theorem gX1_find_X1_isWithin : GoodIn wsX1_find (va_wsS RX1 61 yX1_isWithin wsX1_isWithin) := goodIn_app (goodIn_of _ (by decide +kernel)) ggX1_find_X1_isWithin
set_option maxRecDepth 20000 in
theorem ggX1_find_Jx4a65c_get_915e3 : GoodIn wsX1_find wsJx4a65c_get_915e3 := goodIn_r _ [16, 8, 17, 18, 19, 20, 21, 22, 23, 24, 25, 26, 27, 6, 28, 29, 44, 45, 46] (by decide +kernel) (by decide +kernel)
set_option maxRecDepth 20000 in
theorem gX1_find_Jx4a65c_get_915e3 : GoodIn wsX1_find (wsV RX1 129 RJx4a65c yJx4a65c_get_915e3 wsJx4a65c_get_915e3) := goodIn_app (goodIn_of _ (by decide +kernel)) ggX1_find_Jx4a65c_get_915e3
theorem dX1_find_0 : decode cX1_find 0 = .ok (.iload_n 1, 1) := by decide +kernel
theorem dX1_find_1 : decode cX1_find 1 = .ok (.iconst 0, 1) := by decide +kernel
theorem dX1_find_2 : decode cX1_find 2 = .ok (.aload_n 0, 1) := by decide +kernel
theorem dX1_find_3 : decode cX1_find 3 = .ok (.getfield 10, 3) := by decide +kernel
theorem dX1_find_6 : decode cX1_find 6 = .ok (.invokevirtual 65, 3) := by decide +kernel
theorem dX1_find_9 : decode cX1_find 9 = .ok (.iconst 1, 1) := by decide +kernel
theorem dX1_find_10 : decode cX1_find 10 = .ok (.isub, 1) := by decide +kernel
theorem dX1_find_11 : decode cX1_find 11 = .ok (.invokestatic 61, 3) := by decide +kernel
theorem dX1_find_14 : decode cX1_find 14 = .ok (.ifCond .eq 17, 3) := by decide +kernel
theorem dX1_find_17 : decode cX1_find 17 = .ok (.aload_n 0, 1) := by decide +kernel
theorem dX1_find_18 : decode cX1_find 18 = .ok (.getfield 10, 3) := by decide +kernel
theorem dX1_find_21 : decode cX1_find 21 = .ok (.iload_n 1, 1) := by decide +kernel
theorem dX1_find_22 : decode cX1_find 22 = .ok (.invokevirtual 129, 3) := by decide +kernel
theorem dX1_find_25 : decode cX1_find 25 = .ok (.checkcast 69, 3) := by decide +kernel
theorem dX1_find_28 : decode cX1_find 28 = .ok (.goto 4, 3) := by decide +kernel
theorem dX1_find_31 : decode cX1_find 31 = .ok (.aconst_null, 1) := by decide +kernel
theorem dX1_find_32 : decode cX1_find 32 = .ok (.areturn, 1) := by decide +kernel
set_option maxRecDepth 20000 in
theorem ggX1_areDevices_Jx4a65c_size_8abf5 : GoodIn wsX1_areDevices wsJx4a65c_size_8abf5 := goodIn_r _ [6, 7, 22, 23, 24] (by decide +kernel) (by decide +kernel)
set_option maxRecDepth 20000 in
theorem gX1_areDevices_Jx4a65c_size_8abf5 : GoodIn wsX1_areDevices (wsV RX1 65 RJx4a65c yJx4a65c_size_8abf5 wsJx4a65c_size_8abf5) := goodIn_app (goodIn_of _ (by decide +kernel)) ggX1_areDevices_Jx4a65c_size_8abf5
theorem dX1_areDevices_0 : decode cX1_areDevices 0 = .ok (.iload_n 1, 1) := by decide +kernel
theorem dX1_areDevices_1 : decode cX1_areDevices 1 = .ok (.ifCond .lt 19, 3) := by decide +kernel
theorem dX1_areDevices_4 : decode cX1_areDevices 4 = .ok (.iload_n 1, 1) := by decide +kernel
theorem dX1_areDevices_5 : decode cX1_areDevices 5 = .ok (.aload_n 0, 1) := by decide +kernel
theorem dX1_areDevices_6 : decode cX1_areDevices 6 = .ok (.getfield 10, 3) := by decide +kernel
theorem dX1_areDevices_9 : decode cX1_areDevices 9 = .ok (.invokevirtual 65, 3) := by decide +kernel
theorem dX1_areDevices_12 : decode cX1_areDevices 12 = .ok (.ishr, 1) := by decide +kernel
theorem dX1_areDevices_13 : decode cX1_areDevices 13 = .ok (.ifCond .ne 7, 3) := by decide +kernel
theorem dX1_areDevices_16 : decode cX1_areDevices 16 = .ok (.iconst 1, 1) := by decide +kernel
theorem dX1_areDevices_17 : decode cX1_areDevices 17 = .ok (.goto 4, 3) := by decide +kernel
theorem dX1_areDevices_20 : decode cX1_areDevices 20 = .ok (.iconst 0, 1) := by decide +kernel
theorem dX1_areDevices_21 : decode cX1_areDevices 21 = .ok (.ireturn, 1) := by decide +kernel
set_option maxRecDepth 20000 in
theorem ggX1_withAncestors_Jx4a65c_size_8abf5 : GoodIn wsX1_withAncestors wsJx4a65c_size_8abf5 := goodIn_r _ [8, 9, 62, 63, 64] (by decide +kernel) (by decide +kernel)
set_option maxRecDepth 20000 in
theorem gX1_withAncestors_Jx4a65c_size_8abf5 : GoodIn wsX1_withAncestors (wsV RX1 65 RJx4a65c yJx4a65c_size_8abf5 wsJx4a65c_size_8abf5) := goodIn_app (goodIn_of _ (by decide +kernel)) ggX1_withAncestors_Jx4a65c_size_8abf5
set_option maxRecDepth 20000 in
theorem ggX1_withAncestors_Jx4a65c_get_915e3 : GoodIn wsX1_withAncestors wsJx4a65c_get_915e3 := goodIn_r _ [13, 9, 14, 15, 16, 17, 18, 19, 20, 21, 22, 23, 24, 7, 25, 26, 62, 63, 64] (by decide +kernel) (by decide +kernel)
set_option maxRecDepth 20000 in
theorem gX1_withAncestors_Jx4a65c_get_915e3 : GoodIn wsX1_withAncestors (wsV RX1 129 RJx4a65c yJx4a65c_get_915e3 wsJx4a65c_get_915e3) := goodIn_app (goodIn_of _ (by decide +kernel)) ggX1_withAncestors_Jx4a65c_get_915e3
set_option maxRecDepth 20000 in
theorem ggX1_withAncestors_X1_holds : GoodIn wsX1_withAncestors wsX1_holds := goodIn_r _ [30, 31, 32, 29, 33, 34, 49, 50, 51, 52, 53, 54, 55, 56, 57, 58, 59, 60, 61] (by decide +kernel) (by decide +kernel)
set_option maxRecDepth 20000 in
theorem gX1_withAncestors_X1_holds : GoodIn wsX1_withAncestors (va_wsS RX1 148 yX1_holds wsX1_holds) := goodIn_app (goodIn_of _ (by decide +kernel)) ggX1_withAncestors_X1_holds
theorem dX1_withAncestors_0 : decode cX1_withAncestors 0 = .ok (.iload_n 1, 1) := by decide +kernel
theorem dX1_withAncestors_1 : decode cX1_withAncestors 1 = .ok (.istore_n 2, 1) := by decide +kernel
theorem dX1_withAncestors_2 : decode cX1_withAncestors 2 = .ok (.iconst 0, 1) := by decide +kernel
theorem dX1_withAncestors_3 : decode cX1_withAncestors 3 = .ok (.istore_n 3, 1) := by decide +kernel
theorem dX1_withAncestors_4 : decode cX1_withAncestors 4 = .ok (.iload_n 3, 1) := by decide +kernel
theorem dX1_withAncestors_5 : decode cX1_withAncestors 5 = .ok (.aload_n 0, 1) := by decide +kernel
theorem dX1_withAncestors_6 : decode cX1_withAncestors 6 = .ok (.getfield 10, 3) := by decide +kernel
theorem dX1_withAncestors_9 : decode cX1_withAncestors 9 = .ok (.invokevirtual 65, 3) := by decide +kernel
theorem dX1_withAncestors_12 : decode cX1_withAncestors 12 = .ok (.if_icmp .ge 39, 3) := by decide +kernel
theorem dX1_withAncestors_15 : decode cX1_withAncestors 15 = .ok (.aload_n 0, 1) := by decide +kernel
theorem dX1_withAncestors_16 : decode cX1_withAncestors 16 = .ok (.getfield 10, 3) := by decide +kernel
theorem dX1_withAncestors_19 : decode cX1_withAncestors 19 = .ok (.iload_n 3, 1) := by decide +kernel
theorem dX1_withAncestors_20 : decode cX1_withAncestors 20 = .ok (.invokevirtual 129, 3) := by decide +kernel
theorem dX1_withAncestors_23 : decode cX1_withAncestors 23 = .ok (.checkcast 69, 3) := by decide +kernel
theorem dX1_withAncestors_26 : decode cX1_withAncestors 26 = .ok (.astore 4, 2) := by decide +kernel
theorem dX1_withAncestors_28 : decode cX1_withAncestors 28 = .ok (.iload_n 1, 1) := by decide +kernel
theorem dX1_withAncestors_29 : decode cX1_withAncestors 29 = .ok (.aload 4, 2) := by decide +kernel
theorem dX1_withAncestors_31 : decode cX1_withAncestors 31 = .ok (.invokestatic 148, 3) := by decide +kernel
theorem dX1_withAncestors_34 : decode cX1_withAncestors 34 = .ok (.ifCond .eq 11, 3) := by decide +kernel
theorem dX1_withAncestors_37 : decode cX1_withAncestors 37 = .ok (.iload_n 2, 1) := by decide +kernel
theorem dX1_withAncestors_38 : decode cX1_withAncestors 38 = .ok (.aload 4, 2) := by decide +kernel
theorem dX1_withAncestors_40 : decode cX1_withAncestors 40 = .ok (.getfield 94, 3) := by decide +kernel
theorem dX1_withAncestors_43 : decode cX1_withAncestors 43 = .ok (.ior, 1) := by decide +kernel
theorem dX1_withAncestors_44 : decode cX1_withAncestors 44 = .ok (.istore_n 2, 1) := by decide +kernel
theorem dX1_withAncestors_45 : decode cX1_withAncestors 45 = .ok (.iinc 3 1, 3) := by decide +kernel
theorem dX1_withAncestors_48 : decode cX1_withAncestors 48 = .ok (.goto (-44), 3) := by decide +kernel
theorem dX1_withAncestors_51 : decode cX1_withAncestors 51 = .ok (.iload_n 2, 1) := by decide +kernel
theorem dX1_withAncestors_52 : decode cX1_withAncestors 52 = .ok (.ireturn, 1) := by decide +kernel
set_option maxRecDepth 20000 in
theorem ggX1_depthUnder_Jx4a65c_size_8abf5 : GoodIn wsX1_depthUnder wsJx4a65c_size_8abf5 := goodIn_r _ [12, 13, 66, 67, 68] (by decide +kernel) (by decide +kernel)
set_option maxRecDepth 20000 in
theorem gX1_depthUnder_Jx4a65c_size_8abf5 : GoodIn wsX1_depthUnder (wsV RX1 65 RJx4a65c yJx4a65c_size_8abf5 wsJx4a65c_size_8abf5) := goodIn_app (goodIn_of _ (by decide +kernel)) ggX1_depthUnder_Jx4a65c_size_8abf5
set_option maxRecDepth 20000 in
theorem ggX1_depthUnder_Jx4a65c_get_915e3 : GoodIn wsX1_depthUnder wsJx4a65c_get_915e3 := goodIn_r _ [17, 13, 18, 19, 20, 21, 22, 23, 24, 25, 26, 27, 28, 11, 29, 30, 66, 67, 68] (by decide +kernel) (by decide +kernel)
set_option maxRecDepth 20000 in
theorem gX1_depthUnder_Jx4a65c_get_915e3 : GoodIn wsX1_depthUnder (wsV RX1 129 RJx4a65c yJx4a65c_get_915e3 wsJx4a65c_get_915e3) := goodIn_app (goodIn_of _ (by decide +kernel)) ggX1_depthUnder_Jx4a65c_get_915e3
set_option maxRecDepth 20000 in
theorem ggX1_depthUnder_X1_holds : GoodIn wsX1_depthUnder wsX1_holds := goodIn_r _ [34, 35, 36, 33, 37, 38, 53, 54, 55, 56, 57, 58, 59, 60, 61, 62, 63, 64, 65] (by decide +kernel) (by decide +kernel)
set_option maxRecDepth 20000 in
theorem gX1_depthUnder_X1_holds : GoodIn wsX1_depthUnder (va_wsS RX1 148 yX1_holds wsX1_holds) := goodIn_app (goodIn_of _ (by decide +kernel)) ggX1_depthUnder_X1_holds
theorem dX1_depthUnder_0 : decode cX1_depthUnder 0 = .ok (.iconst 0, 1) := by decide +kernel
theorem dX1_depthUnder_1 : decode cX1_depthUnder 1 = .ok (.istore_n 2, 1) := by decide +kernel
theorem dX1_depthUnder_2 : decode cX1_depthUnder 2 = .ok (.iconst 0, 1) := by decide +kernel
theorem dX1_depthUnder_3 : decode cX1_depthUnder 3 = .ok (.istore_n 3, 1) := by decide +kernel
theorem dX1_depthUnder_4 : decode cX1_depthUnder 4 = .ok (.iload_n 3, 1) := by decide +kernel
theorem dX1_depthUnder_5 : decode cX1_depthUnder 5 = .ok (.aload_n 0, 1) := by decide +kernel
theorem dX1_depthUnder_6 : decode cX1_depthUnder 6 = .ok (.getfield 10, 3) := by decide +kernel
theorem dX1_depthUnder_9 : decode cX1_depthUnder 9 = .ok (.invokevirtual 65, 3) := by decide +kernel
theorem dX1_depthUnder_12 : decode cX1_depthUnder 12 = .ok (.if_icmp .ge 43, 3) := by decide +kernel
theorem dX1_depthUnder_15 : decode cX1_depthUnder 15 = .ok (.aload_n 0, 1) := by decide +kernel
theorem dX1_depthUnder_16 : decode cX1_depthUnder 16 = .ok (.getfield 10, 3) := by decide +kernel
theorem dX1_depthUnder_19 : decode cX1_depthUnder 19 = .ok (.iload_n 3, 1) := by decide +kernel
theorem dX1_depthUnder_20 : decode cX1_depthUnder 20 = .ok (.invokevirtual 129, 3) := by decide +kernel
theorem dX1_depthUnder_23 : decode cX1_depthUnder 23 = .ok (.checkcast 69, 3) := by decide +kernel
theorem dX1_depthUnder_26 : decode cX1_depthUnder 26 = .ok (.astore 4, 2) := by decide +kernel
theorem dX1_depthUnder_28 : decode cX1_depthUnder 28 = .ok (.iload_n 1, 1) := by decide +kernel
theorem dX1_depthUnder_29 : decode cX1_depthUnder 29 = .ok (.aload 4, 2) := by decide +kernel
theorem dX1_depthUnder_31 : decode cX1_depthUnder 31 = .ok (.invokestatic 148, 3) := by decide +kernel
theorem dX1_depthUnder_34 : decode cX1_depthUnder 34 = .ok (.ifCond .eq 15, 3) := by decide +kernel
theorem dX1_depthUnder_37 : decode cX1_depthUnder 37 = .ok (.iload_n 2, 1) := by decide +kernel
theorem dX1_depthUnder_38 : decode cX1_depthUnder 38 = .ok (.aload 4, 2) := by decide +kernel
theorem dX1_depthUnder_40 : decode cX1_depthUnder 40 = .ok (.getfield 85, 3) := by decide +kernel
theorem dX1_depthUnder_43 : decode cX1_depthUnder 43 = .ok (.iconst 1, 1) := by decide +kernel
theorem dX1_depthUnder_44 : decode cX1_depthUnder 44 = .ok (.iadd, 1) := by decide +kernel
theorem dX1_depthUnder_45 : decode cX1_depthUnder 45 = .ok (.invokestatic 152, 3) := by decide +kernel
theorem dX1_depthUnder_48 : decode cX1_depthUnder 48 = .ok (.istore_n 2, 1) := by decide +kernel
theorem dX1_depthUnder_49 : decode cX1_depthUnder 49 = .ok (.iinc 3 1, 3) := by decide +kernel
theorem dX1_depthUnder_52 : decode cX1_depthUnder 52 = .ok (.goto (-48), 3) := by decide +kernel
theorem dX1_depthUnder_55 : decode cX1_depthUnder 55 = .ok (.iload_n 2, 1) := by decide +kernel
theorem dX1_depthUnder_56 : decode cX1_depthUnder 56 = .ok (.ireturn, 1) := by decide +kernel
set_option maxRecDepth 20000 in
theorem ggX1_placeFor_Jx4a65c_size_8abf5 : GoodIn wsX1_placeFor wsJx4a65c_size_8abf5 := goodIn_r _ [8, 9, 54, 55, 56] (by decide +kernel) (by decide +kernel)
set_option maxRecDepth 20000 in
theorem gX1_placeFor_Jx4a65c_size_8abf5 : GoodIn wsX1_placeFor (wsV RX1 65 RJx4a65c yJx4a65c_size_8abf5 wsJx4a65c_size_8abf5) := goodIn_app (goodIn_of _ (by decide +kernel)) ggX1_placeFor_Jx4a65c_size_8abf5
set_option maxRecDepth 20000 in
theorem ggX1_placeFor_Jx4a65c_get_915e3 : GoodIn wsX1_placeFor wsJx4a65c_get_915e3 := goodIn_r _ [13, 9, 14, 15, 16, 17, 18, 19, 20, 21, 22, 23, 24, 7, 25, 26, 54, 55, 56] (by decide +kernel) (by decide +kernel)
set_option maxRecDepth 20000 in
theorem gX1_placeFor_Jx4a65c_get_915e3 : GoodIn wsX1_placeFor (wsV RX1 129 RJx4a65c yJx4a65c_get_915e3 wsJx4a65c_get_915e3) := goodIn_app (goodIn_of _ (by decide +kernel)) ggX1_placeFor_Jx4a65c_get_915e3
theorem dX1_placeFor_0 : decode cX1_placeFor 0 = .ok (.iconst 0, 1) := by decide +kernel
theorem dX1_placeFor_1 : decode cX1_placeFor 1 = .ok (.istore_n 2, 1) := by decide +kernel
theorem dX1_placeFor_2 : decode cX1_placeFor 2 = .ok (.iconst 0, 1) := by decide +kernel
theorem dX1_placeFor_3 : decode cX1_placeFor 3 = .ok (.istore_n 3, 1) := by decide +kernel
theorem dX1_placeFor_4 : decode cX1_placeFor 4 = .ok (.iload_n 3, 1) := by decide +kernel
theorem dX1_placeFor_5 : decode cX1_placeFor 5 = .ok (.aload_n 0, 1) := by decide +kernel
theorem dX1_placeFor_6 : decode cX1_placeFor 6 = .ok (.getfield 16, 3) := by decide +kernel
theorem dX1_placeFor_9 : decode cX1_placeFor 9 = .ok (.invokevirtual 65, 3) := by decide +kernel
theorem dX1_placeFor_12 : decode cX1_placeFor 12 = .ok (.if_icmp .ge 31, 3) := by decide +kernel
theorem dX1_placeFor_15 : decode cX1_placeFor 15 = .ok (.aload_n 0, 1) := by decide +kernel
theorem dX1_placeFor_16 : decode cX1_placeFor 16 = .ok (.getfield 16, 3) := by decide +kernel
theorem dX1_placeFor_19 : decode cX1_placeFor 19 = .ok (.iload_n 3, 1) := by decide +kernel
theorem dX1_placeFor_20 : decode cX1_placeFor 20 = .ok (.invokevirtual 129, 3) := by decide +kernel
theorem dX1_placeFor_23 : decode cX1_placeFor 23 = .ok (.checkcast 69, 3) := by decide +kernel
theorem dX1_placeFor_26 : decode cX1_placeFor 26 = .ok (.getfield 85, 3) := by decide +kernel
theorem dX1_placeFor_29 : decode cX1_placeFor 29 = .ok (.iload_n 1, 1) := by decide +kernel
theorem dX1_placeFor_30 : decode cX1_placeFor 30 = .ok (.if_icmp .gt 7, 3) := by decide +kernel
theorem dX1_placeFor_33 : decode cX1_placeFor 33 = .ok (.iload_n 3, 1) := by decide +kernel
theorem dX1_placeFor_34 : decode cX1_placeFor 34 = .ok (.iconst 1, 1) := by decide +kernel
theorem dX1_placeFor_35 : decode cX1_placeFor 35 = .ok (.iadd, 1) := by decide +kernel
theorem dX1_placeFor_36 : decode cX1_placeFor 36 = .ok (.istore_n 2, 1) := by decide +kernel
theorem dX1_placeFor_37 : decode cX1_placeFor 37 = .ok (.iinc 3 1, 3) := by decide +kernel
theorem dX1_placeFor_40 : decode cX1_placeFor 40 = .ok (.goto (-36), 3) := by decide +kernel
theorem dX1_placeFor_43 : decode cX1_placeFor 43 = .ok (.iload_n 2, 1) := by decide +kernel
theorem dX1_placeFor_44 : decode cX1_placeFor 44 = .ok (.ireturn, 1) := by decide +kernel
theorem dX1_turn_0 : decode cX1_turn 0 = .ok (.aload_n 1, 1) := by decide +kernel
theorem dX1_turn_1 : decode cX1_turn 1 = .ok (.getfield 133, 3) := by decide +kernel
theorem dX1_turn_4 : decode cX1_turn 4 = .ok (.iload_n 2, 1) := by decide +kernel
theorem dX1_turn_5 : decode cX1_turn 5 = .ok (.if_icmp .eq 18, 3) := by decide +kernel
theorem dX1_turn_8 : decode cX1_turn 8 = .ok (.aload_n 1, 1) := by decide +kernel
theorem dX1_turn_9 : decode cX1_turn 9 = .ok (.iload_n 2, 1) := by decide +kernel
theorem dX1_turn_10 : decode cX1_turn 10 = .ok (.putfield 133, 3) := by decide +kernel
theorem dX1_turn_13 : decode cX1_turn 13 = .ok (.aload_n 0, 1) := by decide +kernel
theorem dX1_turn_14 : decode cX1_turn 14 = .ok (.dup, 1) := by decide +kernel
theorem dX1_turn_15 : decode cX1_turn 15 = .ok (.getfield 54, 3) := by decide +kernel
theorem dX1_turn_18 : decode cX1_turn 18 = .ok (.iconst 1, 1) := by decide +kernel
theorem dX1_turn_19 : decode cX1_turn 19 = .ok (.iadd, 1) := by decide +kernel
theorem dX1_turn_20 : decode cX1_turn 20 = .ok (.putfield 54, 3) := by decide +kernel
theorem dX1_turn_23 : decode cX1_turn 23 = .ok (.return_, 1) := by decide +kernel
set_option maxRecDepth 20000 in
theorem ggX1_rouse_Jx4a65c_size_8abf5 : GoodIn wsX1_rouse wsJx4a65c_size_8abf5 := goodIn_r _ [8, 9, 68, 69, 70] (by decide +kernel) (by decide +kernel)
set_option maxRecDepth 20000 in
theorem gX1_rouse_Jx4a65c_size_8abf5 : GoodIn wsX1_rouse (wsV RX1 65 RJx4a65c yJx4a65c_size_8abf5 wsJx4a65c_size_8abf5) := goodIn_app (goodIn_of _ (by decide +kernel)) ggX1_rouse_Jx4a65c_size_8abf5
set_option maxRecDepth 20000 in
theorem ggX1_rouse_Jx4a65c_get_915e3 : GoodIn wsX1_rouse wsJx4a65c_get_915e3 := goodIn_r _ [13, 9, 14, 15, 16, 17, 18, 19, 20, 21, 22, 23, 24, 7, 25, 26, 68, 69, 70] (by decide +kernel) (by decide +kernel)
set_option maxRecDepth 20000 in
theorem gX1_rouse_Jx4a65c_get_915e3 : GoodIn wsX1_rouse (wsV RX1 129 RJx4a65c yJx4a65c_get_915e3 wsJx4a65c_get_915e3) := goodIn_app (goodIn_of _ (by decide +kernel)) ggX1_rouse_Jx4a65c_get_915e3
set_option maxRecDepth 20000 in
theorem ggX1_rouse_X1_holds : GoodIn wsX1_rouse wsX1_holds := goodIn_r _ [30, 31, 32, 29, 33, 34, 55, 56, 57, 58, 59, 60, 61, 62, 63, 64, 65, 66, 67] (by decide +kernel) (by decide +kernel)
set_option maxRecDepth 20000 in
theorem gX1_rouse_X1_holds : GoodIn wsX1_rouse (va_wsS RX1 148 yX1_holds wsX1_holds) := goodIn_app (goodIn_of _ (by decide +kernel)) ggX1_rouse_X1_holds
set_option maxRecDepth 20000 in
theorem ggX1_rouse_X1_turn : GoodIn wsX1_rouse wsX1_turn := goodIn_r _ [38, 39, 40, 55, 56, 57, 58, 59, 60, 61, 62, 63, 64, 65, 66, 67, 41, 42, 43, 44, 45, 46, 47, 48, 49, 50, 51, 52, 53, 54] (by decide +kernel) (by decide +kernel)
set_option maxRecDepth 20000 in
theorem gX1_rouse_X1_turn : GoodIn wsX1_rouse (wsV RX1 158 RX1 yX1_turn wsX1_turn) := goodIn_app (goodIn_of _ (by decide +kernel)) ggX1_rouse_X1_turn
theorem dX1_rouse_0 : decode cX1_rouse 0 = .ok (.iconst 0, 1) := by decide +kernel
theorem dX1_rouse_1 : decode cX1_rouse 1 = .ok (.istore_n 2, 1) := by decide +kernel
theorem dX1_rouse_2 : decode cX1_rouse 2 = .ok (.iload_n 2, 1) := by decide +kernel
theorem dX1_rouse_3 : decode cX1_rouse 3 = .ok (.aload_n 0, 1) := by decide +kernel
theorem dX1_rouse_4 : decode cX1_rouse 4 = .ok (.getfield 10, 3) := by decide +kernel
theorem dX1_rouse_7 : decode cX1_rouse 7 = .ok (.invokevirtual 65, 3) := by decide +kernel
theorem dX1_rouse_10 : decode cX1_rouse 10 = .ok (.if_icmp .ge 40, 3) := by decide +kernel
theorem dX1_rouse_13 : decode cX1_rouse 13 = .ok (.aload_n 0, 1) := by decide +kernel
theorem dX1_rouse_14 : decode cX1_rouse 14 = .ok (.getfield 10, 3) := by decide +kernel
theorem dX1_rouse_17 : decode cX1_rouse 17 = .ok (.iload_n 2, 1) := by decide +kernel
theorem dX1_rouse_18 : decode cX1_rouse 18 = .ok (.invokevirtual 129, 3) := by decide +kernel
theorem dX1_rouse_21 : decode cX1_rouse 21 = .ok (.checkcast 69, 3) := by decide +kernel
theorem dX1_rouse_24 : decode cX1_rouse 24 = .ok (.astore_n 3, 1) := by decide +kernel
theorem dX1_rouse_25 : decode cX1_rouse 25 = .ok (.iload_n 1, 1) := by decide +kernel
theorem dX1_rouse_26 : decode cX1_rouse 26 = .ok (.aload_n 3, 1) := by decide +kernel
theorem dX1_rouse_27 : decode cX1_rouse 27 = .ok (.invokestatic 148, 3) := by decide +kernel
theorem dX1_rouse_30 : decode cX1_rouse 30 = .ok (.ifCond .eq 14, 3) := by decide +kernel
theorem dX1_rouse_33 : decode cX1_rouse 33 = .ok (.aload_n 0, 1) := by decide +kernel
theorem dX1_rouse_34 : decode cX1_rouse 34 = .ok (.aload_n 3, 1) := by decide +kernel
theorem dX1_rouse_35 : decode cX1_rouse 35 = .ok (.iconst 2, 1) := by decide +kernel
theorem dX1_rouse_36 : decode cX1_rouse 36 = .ok (.invokevirtual 158, 3) := by decide +kernel
theorem dX1_rouse_39 : decode cX1_rouse 39 = .ok (.aload_n 3, 1) := by decide +kernel
theorem dX1_rouse_40 : decode cX1_rouse 40 = .ok (.iconst 0, 1) := by decide +kernel
theorem dX1_rouse_41 : decode cX1_rouse 41 = .ok (.putfield 145, 3) := by decide +kernel
theorem dX1_rouse_44 : decode cX1_rouse 44 = .ok (.iinc 2 1, 3) := by decide +kernel
theorem dX1_rouse_47 : decode cX1_rouse 47 = .ok (.goto (-45), 3) := by decide +kernel
theorem dX1_rouse_50 : decode cX1_rouse 50 = .ok (.return_, 1) := by decide +kernel
theorem dX1_makeDue_0 : decode cX1_makeDue 0 = .ok (.aload_n 0, 1) := by decide +kernel
theorem dX1_makeDue_1 : decode cX1_makeDue 1 = .ok (.aload_n 1, 1) := by decide +kernel
theorem dX1_makeDue_2 : decode cX1_makeDue 2 = .ok (.putfield 23, 3) := by decide +kernel
theorem dX1_makeDue_5 : decode cX1_makeDue 5 = .ok (.aload_n 0, 1) := by decide +kernel
theorem dX1_makeDue_6 : decode cX1_makeDue 6 = .ok (.iload_n 2, 1) := by decide +kernel
theorem dX1_makeDue_7 : decode cX1_makeDue 7 = .ok (.putfield 27, 3) := by decide +kernel
theorem dX1_makeDue_10 : decode cX1_makeDue 10 = .ok (.return_, 1) := by decide +kernel
theorem dX1_endDue_0 : decode cX1_endDue 0 = .ok (.aload_n 0, 1) := by decide +kernel
theorem dX1_endDue_1 : decode cX1_endDue 1 = .ok (.aconst_null, 1) := by decide +kernel
theorem dX1_endDue_2 : decode cX1_endDue 2 = .ok (.putfield 23, 3) := by decide +kernel
theorem dX1_endDue_5 : decode cX1_endDue 5 = .ok (.aload_n 0, 1) := by decide +kernel
theorem dX1_endDue_6 : decode cX1_endDue 6 = .ok (.iconst 0, 1) := by decide +kernel
theorem dX1_endDue_7 : decode cX1_endDue 7 = .ok (.putfield 27, 3) := by decide +kernel
theorem dX1_endDue_10 : decode cX1_endDue 10 = .ok (.return_, 1) := by decide +kernel
set_option maxRecDepth 20000 in
theorem ggX1_sinkFurther_Jx4a65c_size_8abf5 : GoodIn wsX1_sinkFurther wsJx4a65c_size_8abf5 := goodIn_r _ [11, 12, 73, 74, 75] (by decide +kernel) (by decide +kernel)
set_option maxRecDepth 20000 in
theorem gX1_sinkFurther_Jx4a65c_size_8abf5 : GoodIn wsX1_sinkFurther (wsV RX1 65 RJx4a65c yJx4a65c_size_8abf5 wsJx4a65c_size_8abf5) := goodIn_app (goodIn_of _ (by decide +kernel)) ggX1_sinkFurther_Jx4a65c_size_8abf5
set_option maxRecDepth 20000 in
theorem ggX1_sinkFurther_Jx4a65c_get_915e3 : GoodIn wsX1_sinkFurther wsJx4a65c_get_915e3 := goodIn_r _ [16, 12, 17, 18, 19, 20, 21, 22, 23, 24, 25, 26, 27, 10, 28, 29, 73, 74, 75] (by decide +kernel) (by decide +kernel)
set_option maxRecDepth 20000 in
theorem gX1_sinkFurther_Jx4a65c_get_915e3 : GoodIn wsX1_sinkFurther (wsV RX1 129 RJx4a65c yJx4a65c_get_915e3 wsJx4a65c_get_915e3) := goodIn_app (goodIn_of _ (by decide +kernel)) ggX1_sinkFurther_Jx4a65c_get_915e3
set_option maxRecDepth 20000 in
theorem ggX1_sinkFurther_X1_makeDue : GoodIn wsX1_sinkFurther wsX1_makeDue := goodIn_r _ [34, 35, 36, 46, 47, 48, 49, 50, 51, 52, 53, 54, 55, 56, 57, 58, 59] (by decide +kernel) (by decide +kernel)
set_option maxRecDepth 20000 in
theorem gX1_sinkFurther_X1_makeDue : GoodIn wsX1_sinkFurther (wsV RX1 165 RX1 yX1_makeDue wsX1_makeDue) := goodIn_app (goodIn_of _ (by decide +kernel)) ggX1_sinkFurther_X1_makeDue
set_option maxRecDepth 20000 in
theorem ggX1_sinkFurther_X1_turn : GoodIn wsX1_sinkFurther wsX1_turn := goodIn_r _ [40, 3, 41, 60, 61, 62, 63, 64, 65, 66, 67, 68, 69, 70, 71, 72, 46, 47, 48, 49, 50, 51, 52, 53, 54, 55, 56, 57, 58, 59] (by decide +kernel) (by decide +kernel)
set_option maxRecDepth 20000 in
theorem gX1_sinkFurther_X1_turn : GoodIn wsX1_sinkFurther (wsV RX1 158 RX1 yX1_turn wsX1_turn) := goodIn_app (goodIn_of _ (by decide +kernel)) ggX1_sinkFurther_X1_turn
set_option maxRecDepth 20000 in
theorem ggX1_sinkFurther_X1_endDue : GoodIn wsX1_sinkFurther wsX1_endDue := goodIn_r _ [45, 35, 36, 46, 47, 48, 49, 50, 51, 52, 53, 54, 55, 56, 57, 58, 59] (by decide +kernel) (by decide +kernel)
set_option maxRecDepth 20000 in
theorem gX1_sinkFurther_X1_endDue : GoodIn wsX1_sinkFurther (wsV RX1 168 RX1 yX1_endDue wsX1_endDue) := goodIn_app (goodIn_of _ (by decide +kernel)) ggX1_sinkFurther_X1_endDue
theorem dX1_sinkFurther_0 : decode cX1_sinkFurther 0 = .ok (.aload_n 0, 1) := by decide +kernel
theorem dX1_sinkFurther_1 : decode cX1_sinkFurther 1 = .ok (.getfield 16, 3) := by decide +kernel
theorem dX1_sinkFurther_4 : decode cX1_sinkFurther 4 = .ok (.invokevirtual 65, 3) := by decide +kernel
theorem dX1_sinkFurther_7 : decode cX1_sinkFurther 7 = .ok (.iconst 1, 1) := by decide +kernel
theorem dX1_sinkFurther_8 : decode cX1_sinkFurther 8 = .ok (.isub, 1) := by decide +kernel
theorem dX1_sinkFurther_9 : decode cX1_sinkFurther 9 = .ok (.istore_n 1, 1) := by decide +kernel
theorem dX1_sinkFurther_10 : decode cX1_sinkFurther 10 = .ok (.iload_n 1, 1) := by decide +kernel
theorem dX1_sinkFurther_11 : decode cX1_sinkFurther 11 = .ok (.ifCond .lt 45, 3) := by decide +kernel
theorem dX1_sinkFurther_14 : decode cX1_sinkFurther 14 = .ok (.aload_n 0, 1) := by decide +kernel
theorem dX1_sinkFurther_15 : decode cX1_sinkFurther 15 = .ok (.getfield 16, 3) := by decide +kernel
theorem dX1_sinkFurther_18 : decode cX1_sinkFurther 18 = .ok (.iload_n 1, 1) := by decide +kernel
theorem dX1_sinkFurther_19 : decode cX1_sinkFurther 19 = .ok (.invokevirtual 129, 3) := by decide +kernel
theorem dX1_sinkFurther_22 : decode cX1_sinkFurther 22 = .ok (.checkcast 69, 3) := by decide +kernel
theorem dX1_sinkFurther_25 : decode cX1_sinkFurther 25 = .ok (.astore_n 2, 1) := by decide +kernel
theorem dX1_sinkFurther_26 : decode cX1_sinkFurther 26 = .ok (.aload_n 2, 1) := by decide +kernel
theorem dX1_sinkFurther_27 : decode cX1_sinkFurther 27 = .ok (.getfield 133, 3) := by decide +kernel
theorem dX1_sinkFurther_30 : decode cX1_sinkFurther 30 = .ok (.iconst 2, 1) := by decide +kernel
theorem dX1_sinkFurther_31 : decode cX1_sinkFurther 31 = .ok (.if_icmp .ne 13, 3) := by decide +kernel
theorem dX1_sinkFurther_34 : decode cX1_sinkFurther 34 = .ok (.aload_n 0, 1) := by decide +kernel
theorem dX1_sinkFurther_35 : decode cX1_sinkFurther 35 = .ok (.aload_n 2, 1) := by decide +kernel
theorem dX1_sinkFurther_36 : decode cX1_sinkFurther 36 = .ok (.aload_n 2, 1) := by decide +kernel
theorem dX1_sinkFurther_37 : decode cX1_sinkFurther 37 = .ok (.getfield 162, 3) := by decide +kernel
theorem dX1_sinkFurther_40 : decode cX1_sinkFurther 40 = .ok (.invokevirtual 165, 3) := by decide +kernel
theorem dX1_sinkFurther_43 : decode cX1_sinkFurther 43 = .ok (.return_, 1) := by decide +kernel
theorem dX1_sinkFurther_44 : decode cX1_sinkFurther 44 = .ok (.aload_n 0, 1) := by decide +kernel
theorem dX1_sinkFurther_45 : decode cX1_sinkFurther 45 = .ok (.aload_n 2, 1) := by decide +kernel
theorem dX1_sinkFurther_46 : decode cX1_sinkFurther 46 = .ok (.iconst 0, 1) := by decide +kernel
theorem dX1_sinkFurther_47 : decode cX1_sinkFurther 47 = .ok (.invokevirtual 158, 3) := by decide +kernel
theorem dX1_sinkFurther_50 : decode cX1_sinkFurther 50 = .ok (.iinc 1 (-1), 3) := by decide +kernel
theorem dX1_sinkFurther_53 : decode cX1_sinkFurther 53 = .ok (.goto (-43), 3) := by decide +kernel
theorem dX1_sinkFurther_56 : decode cX1_sinkFurther 56 = .ok (.aload_n 0, 1) := by decide +kernel
theorem dX1_sinkFurther_57 : decode cX1_sinkFurther 57 = .ok (.invokevirtual 168, 3) := by decide +kernel
theorem dX1_sinkFurther_60 : decode cX1_sinkFurther 60 = .ok (.aload_n 0, 1) := by decide +kernel
theorem dX1_sinkFurther_61 : decode cX1_sinkFurther 61 = .ok (.iconst 2, 1) := by decide +kernel
theorem dX1_sinkFurther_62 : decode cX1_sinkFurther 62 = .ok (.putfield 19, 3) := by decide +kernel
theorem dX1_sinkFurther_65 : decode cX1_sinkFurther 65 = .ok (.aload_n 0, 1) := by decide +kernel
theorem dX1_sinkFurther_66 : decode cX1_sinkFurther 66 = .ok (.dup, 1) := by decide +kernel
theorem dX1_sinkFurther_67 : decode cX1_sinkFurther 67 = .ok (.getfield 42, 3) := by decide +kernel
theorem dX1_sinkFurther_70 : decode cX1_sinkFurther 70 = .ok (.iconst 1, 1) := by decide +kernel
theorem dX1_sinkFurther_71 : decode cX1_sinkFurther 71 = .ok (.iadd, 1) := by decide +kernel
theorem dX1_sinkFurther_72 : decode cX1_sinkFurther 72 = .ok (.putfield 42, 3) := by decide +kernel
theorem dX1_sinkFurther_75 : decode cX1_sinkFurther 75 = .ok (.return_, 1) := by decide +kernel
set_option maxRecDepth 20000 in
theorem ggX1_giveUp_X1_comeBack : GoodIn wsX1_giveUp wsX1_comeBack := goodIn_r _ [9, 10, 11, 12, 13, 8, 14, 15, 16, 17, 18, 19, 20, 21, 22, 23, 24, 25, 26, 27, 28, 29, 30, 31, 32, 33, 34, 35, 36, 37, 38, 39, 40, 41, 42, 43, 44, 45, 46, 47, 48, 49, 50, 51, 52, 53, 54, 55, 56, 57, 58, 59, 60, 61, 62, 63, 64, 65, 66, 67, 68, 69, 70, 71, 72, 73, 74, 75, 76, 77, 78, 79, 80, 81, 82, 83, 84, 85, 86, 87] (by decide +kernel) (by decide +kernel)
set_option maxRecDepth 20000 in
theorem gX1_giveUp_X1_comeBack : GoodIn wsX1_giveUp (wsV RX1 122 RX1 yX1_comeBack wsX1_comeBack) := goodIn_app (goodIn_of _ (by decide +kernel)) ggX1_giveUp_X1_comeBack
theorem dX1_giveUp_0 : decode cX1_giveUp 0 = .ok (.aload_n 0, 1) := by decide +kernel
theorem dX1_giveUp_1 : decode cX1_giveUp 1 = .ok (.dup, 1) := by decide +kernel
theorem dX1_giveUp_2 : decode cX1_giveUp 2 = .ok (.getfield 45, 3) := by decide +kernel
theorem dX1_giveUp_5 : decode cX1_giveUp 5 = .ok (.iconst 1, 1) := by decide +kernel
theorem dX1_giveUp_6 : decode cX1_giveUp 6 = .ok (.iadd, 1) := by decide +kernel
theorem dX1_giveUp_7 : decode cX1_giveUp 7 = .ok (.putfield 45, 3) := by decide +kernel
theorem dX1_giveUp_10 : decode cX1_giveUp 10 = .ok (.aload_n 0, 1) := by decide +kernel
theorem dX1_giveUp_11 : decode cX1_giveUp 11 = .ok (.iload_n 1, 1) := by decide +kernel
theorem dX1_giveUp_12 : decode cX1_giveUp 12 = .ok (.putfield 48, 3) := by decide +kernel
theorem dX1_giveUp_15 : decode cX1_giveUp 15 = .ok (.aload_n 0, 1) := by decide +kernel
theorem dX1_giveUp_16 : decode cX1_giveUp 16 = .ok (.aload_n 2, 1) := by decide +kernel
theorem dX1_giveUp_17 : decode cX1_giveUp 17 = .ok (.getfield 101, 3) := by decide +kernel
theorem dX1_giveUp_20 : decode cX1_giveUp 20 = .ok (.putfield 51, 3) := by decide +kernel
theorem dX1_giveUp_23 : decode cX1_giveUp 23 = .ok (.aload_n 0, 1) := by decide +kernel
theorem dX1_giveUp_24 : decode cX1_giveUp 24 = .ok (.iconst 4, 1) := by decide +kernel
theorem dX1_giveUp_25 : decode cX1_giveUp 25 = .ok (.invokevirtual 122, 3) := by decide +kernel
theorem dX1_giveUp_28 : decode cX1_giveUp 28 = .ok (.return_, 1) := by decide +kernel
set_option maxRecDepth 20000 in
theorem ggX1_comeBack_X1_comeFurtherBack : GoodIn wsX1_comeBack wsX1_comeFurtherBack := goodIn_r _ [6, 7, 8, 9, 10, 11, 1, 12, 13, 14, 15, 16, 17, 18, 19, 20, 21, 22, 23, 24, 25, 26, 27, 28, 29, 30, 31, 32, 33, 34, 35, 36, 37, 5, 38, 39, 40, 41, 42, 43, 44, 45, 46, 47, 48, 49, 50, 51, 52, 53, 54, 55, 56, 57, 58, 59, 60, 61, 62, 63, 64, 65, 66, 67, 68, 69, 70, 71, 72, 73, 74, 75, 76, 77, 78, 79] (by decide +kernel) (by decide +kernel)
set_option maxRecDepth 20000 in
theorem gX1_comeBack_X1_comeFurtherBack : GoodIn wsX1_comeBack (wsV RX1 171 RX1 yX1_comeFurtherBack wsX1_comeFurtherBack) := goodIn_app (goodIn_of _ (by decide +kernel)) ggX1_comeBack_X1_comeFurtherBack
theorem dX1_comeBack_0 : decode cX1_comeBack 0 = .ok (.aload_n 0, 1) := by decide +kernel
theorem dX1_comeBack_1 : decode cX1_comeBack 1 = .ok (.iload_n 1, 1) := by decide +kernel
theorem dX1_comeBack_2 : decode cX1_comeBack 2 = .ok (.putfield 19, 3) := by decide +kernel
theorem dX1_comeBack_5 : decode cX1_comeBack 5 = .ok (.aload_n 0, 1) := by decide +kernel
theorem dX1_comeBack_6 : decode cX1_comeBack 6 = .ok (.invokevirtual 171, 3) := by decide +kernel
theorem dX1_comeBack_9 : decode cX1_comeBack 9 = .ok (.return_, 1) := by decide +kernel
set_option maxRecDepth 20000 in
theorem ggX1_comeFurtherBack_Jx4a65c_size_8abf5 : GoodIn wsX1_comeFurtherBack wsJx4a65c_size_8abf5 := goodIn_r _ [11, 12, 73, 74, 75] (by decide +kernel) (by decide +kernel)
set_option maxRecDepth 20000 in
theorem gX1_comeFurtherBack_Jx4a65c_size_8abf5 : GoodIn wsX1_comeFurtherBack (wsV RX1 65 RJx4a65c yJx4a65c_size_8abf5 wsJx4a65c_size_8abf5) := goodIn_app (goodIn_of _ (by decide +kernel)) ggX1_comeFurtherBack_Jx4a65c_size_8abf5
set_option maxRecDepth 20000 in
theorem ggX1_comeFurtherBack_Jx4a65c_get_915e3 : GoodIn wsX1_comeFurtherBack wsJx4a65c_get_915e3 := goodIn_r _ [16, 12, 17, 18, 19, 20, 21, 22, 23, 24, 25, 26, 27, 10, 28, 29, 73, 74, 75] (by decide +kernel) (by decide +kernel)
set_option maxRecDepth 20000 in
theorem gX1_comeFurtherBack_Jx4a65c_get_915e3 : GoodIn wsX1_comeFurtherBack (wsV RX1 129 RJx4a65c yJx4a65c_get_915e3 wsJx4a65c_get_915e3) := goodIn_app (goodIn_of _ (by decide +kernel)) ggX1_comeFurtherBack_Jx4a65c_get_915e3
set_option maxRecDepth 20000 in
theorem ggX1_comeFurtherBack_X1_makeDue : GoodIn wsX1_comeFurtherBack wsX1_makeDue := goodIn_r _ [34, 35, 36, 46, 47, 48, 49, 50, 51, 52, 53, 54, 55, 56, 57, 58, 59] (by decide +kernel) (by decide +kernel)
set_option maxRecDepth 20000 in
theorem gX1_comeFurtherBack_X1_makeDue : GoodIn wsX1_comeFurtherBack (wsV RX1 165 RX1 yX1_makeDue wsX1_makeDue) := goodIn_app (goodIn_of _ (by decide +kernel)) ggX1_comeFurtherBack_X1_makeDue
set_option maxRecDepth 20000 in
theorem ggX1_comeFurtherBack_X1_turn : GoodIn wsX1_comeFurtherBack wsX1_turn := goodIn_r _ [40, 3, 41, 60, 61, 62, 63, 64, 65, 66, 67, 68, 69, 70, 71, 72, 46, 47, 48, 49, 50, 51, 52, 53, 54, 55, 56, 57, 58, 59] (by decide +kernel) (by decide +kernel)
set_option maxRecDepth 20000 in
theorem gX1_comeFurtherBack_X1_turn : GoodIn wsX1_comeFurtherBack (wsV RX1 158 RX1 yX1_turn wsX1_turn) := goodIn_app (goodIn_of _ (by decide +kernel)) ggX1_comeFurtherBack_X1_turn
set_option maxRecDepth 20000 in
theorem ggX1_comeFurtherBack_X1_endDue : GoodIn wsX1_comeFurtherBack wsX1_endDue := goodIn_r _ [45, 35, 36, 46, 47, 48, 49, 50, 51, 52, 53, 54, 55, 56, 57, 58, 59] (by decide +kernel) (by decide +kernel)
set_option maxRecDepth 20000 in
theorem gX1_comeFurtherBack_X1_endDue : GoodIn wsX1_comeFurtherBack (wsV RX1 168 RX1 yX1_endDue wsX1_endDue) := goodIn_app (goodIn_of _ (by decide +kernel)) ggX1_comeFurtherBack_X1_endDue
theorem dX1_comeFurtherBack_0 : decode cX1_comeFurtherBack 0 = .ok (.iconst 0, 1) := by decide +kernel
theorem dX1_comeFurtherBack_1 : decode cX1_comeFurtherBack 1 = .ok (.istore_n 1, 1) := by decide +kernel
theorem dX1_comeFurtherBack_2 : decode cX1_comeFurtherBack 2 = .ok (.iload_n 1, 1) := by decide +kernel
theorem dX1_comeFurtherBack_3 : decode cX1_comeFurtherBack 3 = .ok (.aload_n 0, 1) := by decide +kernel
theorem dX1_comeFurtherBack_4 : decode cX1_comeFurtherBack 4 = .ok (.getfield 16, 3) := by decide +kernel
theorem dX1_comeFurtherBack_7 : decode cX1_comeFurtherBack 7 = .ok (.invokevirtual 65, 3) := by decide +kernel
theorem dX1_comeFurtherBack_10 : decode cX1_comeFurtherBack 10 = .ok (.if_icmp .ge 55, 3) := by decide +kernel
theorem dX1_comeFurtherBack_13 : decode cX1_comeFurtherBack 13 = .ok (.aload_n 0, 1) := by decide +kernel
theorem dX1_comeFurtherBack_14 : decode cX1_comeFurtherBack 14 = .ok (.getfield 16, 3) := by decide +kernel
theorem dX1_comeFurtherBack_17 : decode cX1_comeFurtherBack 17 = .ok (.iload_n 1, 1) := by decide +kernel
theorem dX1_comeFurtherBack_18 : decode cX1_comeFurtherBack 18 = .ok (.invokevirtual 129, 3) := by decide +kernel
theorem dX1_comeFurtherBack_21 : decode cX1_comeFurtherBack 21 = .ok (.checkcast 69, 3) := by decide +kernel
theorem dX1_comeFurtherBack_24 : decode cX1_comeFurtherBack 24 = .ok (.astore_n 2, 1) := by decide +kernel
theorem dX1_comeFurtherBack_25 : decode cX1_comeFurtherBack 25 = .ok (.aload_n 2, 1) := by decide +kernel
theorem dX1_comeFurtherBack_26 : decode cX1_comeFurtherBack 26 = .ok (.getfield 133, 3) := by decide +kernel
theorem dX1_comeFurtherBack_29 : decode cX1_comeFurtherBack 29 = .ok (.ifCond .ne 30, 3) := by decide +kernel
theorem dX1_comeFurtherBack_32 : decode cX1_comeFurtherBack 32 = .ok (.aload_n 2, 1) := by decide +kernel
theorem dX1_comeFurtherBack_33 : decode cX1_comeFurtherBack 33 = .ok (.getfield 136, 3) := by decide +kernel
theorem dX1_comeFurtherBack_36 : decode cX1_comeFurtherBack 36 = .ok (.iconst 2, 1) := by decide +kernel
theorem dX1_comeFurtherBack_37 : decode cX1_comeFurtherBack 37 = .ok (.if_icmp .ne 13, 3) := by decide +kernel
theorem dX1_comeFurtherBack_40 : decode cX1_comeFurtherBack 40 = .ok (.aload_n 0, 1) := by decide +kernel
theorem dX1_comeFurtherBack_41 : decode cX1_comeFurtherBack 41 = .ok (.aload_n 2, 1) := by decide +kernel
theorem dX1_comeFurtherBack_42 : decode cX1_comeFurtherBack 42 = .ok (.aload_n 2, 1) := by decide +kernel
theorem dX1_comeFurtherBack_43 : decode cX1_comeFurtherBack 43 = .ok (.getfield 174, 3) := by decide +kernel
theorem dX1_comeFurtherBack_46 : decode cX1_comeFurtherBack 46 = .ok (.invokevirtual 165, 3) := by decide +kernel
theorem dX1_comeFurtherBack_49 : decode cX1_comeFurtherBack 49 = .ok (.return_, 1) := by decide +kernel
theorem dX1_comeFurtherBack_50 : decode cX1_comeFurtherBack 50 = .ok (.aload_n 0, 1) := by decide +kernel
theorem dX1_comeFurtherBack_51 : decode cX1_comeFurtherBack 51 = .ok (.aload_n 2, 1) := by decide +kernel
theorem dX1_comeFurtherBack_52 : decode cX1_comeFurtherBack 52 = .ok (.aload_n 2, 1) := by decide +kernel
theorem dX1_comeFurtherBack_53 : decode cX1_comeFurtherBack 53 = .ok (.getfield 136, 3) := by decide +kernel
theorem dX1_comeFurtherBack_56 : decode cX1_comeFurtherBack 56 = .ok (.invokevirtual 158, 3) := by decide +kernel
theorem dX1_comeFurtherBack_59 : decode cX1_comeFurtherBack 59 = .ok (.iinc 1 1, 3) := by decide +kernel
theorem dX1_comeFurtherBack_62 : decode cX1_comeFurtherBack 62 = .ok (.goto (-60), 3) := by decide +kernel
theorem dX1_comeFurtherBack_65 : decode cX1_comeFurtherBack 65 = .ok (.aload_n 0, 1) := by decide +kernel
theorem dX1_comeFurtherBack_66 : decode cX1_comeFurtherBack 66 = .ok (.invokevirtual 168, 3) := by decide +kernel
theorem dX1_comeFurtherBack_69 : decode cX1_comeFurtherBack 69 = .ok (.aload_n 0, 1) := by decide +kernel
theorem dX1_comeFurtherBack_70 : decode cX1_comeFurtherBack 70 = .ok (.iconst 0, 1) := by decide +kernel
theorem dX1_comeFurtherBack_71 : decode cX1_comeFurtherBack 71 = .ok (.putfield 19, 3) := by decide +kernel
theorem dX1_comeFurtherBack_74 : decode cX1_comeFurtherBack 74 = .ok (.return_, 1) := by decide +kernel
set_option maxRecDepth 20000 in
theorem ggX1_passOneTick_X1_watchBites : GoodIn wsX1_passOneTick wsX1_watchBites := goodIn_r _ [8, 9, 2, 10, 104, 105, 106, 107, 108, 109, 110, 111, 112, 113, 114, 115, 116, 117] (by decide +kernel) (by decide +kernel)
set_option maxRecDepth 20000 in
theorem gX1_passOneTick_X1_watchBites : GoodIn wsX1_passOneTick (wsV RX1 177 RX1 yX1_watchBites wsX1_watchBites) := goodIn_app (goodIn_of _ (by decide +kernel)) ggX1_passOneTick_X1_watchBites
set_option maxRecDepth 20000 in
theorem ggX1_passOneTick_X1_resetAll : GoodIn wsX1_passOneTick wsX1_resetAll := goodIn_r _ [14, 15, 16, 17, 18, 2, 19, 20, 10, 21, 22, 23, 24, 25, 26, 27, 28, 29, 30, 31, 32, 33, 34, 35, 36, 37, 38, 39, 40, 41, 42, 43, 44, 45, 46, 47, 7, 48, 49, 50, 51, 52, 53, 54, 3, 55, 104, 105, 106, 107, 108, 109, 110, 111, 112, 113, 114, 115, 116, 117, 118, 119, 120, 121, 122, 123, 124, 125, 126, 127, 128, 129, 130, 131, 132, 133] (by decide +kernel) (by decide +kernel)
set_option maxRecDepth 20000 in
theorem gX1_passOneTick_X1_resetAll : GoodIn wsX1_passOneTick (wsV RX1 181 RX1 yX1_resetAll wsX1_resetAll) := goodIn_app (goodIn_of _ (by decide +kernel)) ggX1_passOneTick_X1_resetAll
set_option maxRecDepth 20000 in
theorem ggX1_passOneTick_X1_idleOneTick : GoodIn wsX1_passOneTick wsX1_idleOneTick := goodIn_r _ [59, 15, 16, 49, 17, 18, 60, 61, 62, 63, 7, 64, 65, 22, 23, 24, 25, 26, 27, 28, 29, 30, 31, 32, 33, 34, 35, 36, 37, 38, 39, 40, 41, 42, 43, 44, 66, 67, 68, 69, 70, 71, 72, 45, 46, 47, 48, 50, 104, 105, 106, 107, 108, 109, 110, 111, 112, 113, 114, 115, 116, 117, 118, 119, 120, 121, 122, 123, 124, 125, 126, 127, 128, 129, 130, 131, 132, 133] (by decide +kernel) (by decide +kernel)
set_option maxRecDepth 20000 in
theorem gX1_passOneTick_X1_idleOneTick : GoodIn wsX1_passOneTick (wsV RX1 184 RX1 yX1_idleOneTick wsX1_idleOneTick) := goodIn_app (goodIn_of _ (by decide +kernel)) ggX1_passOneTick_X1_idleOneTick
set_option maxRecDepth 20000 in
theorem ggX1_passOneTick_X1_bringNearer : GoodIn wsX1_passOneTick wsX1_bringNearer := goodIn_r _ [76, 55, 2, 77, 45, 46, 47, 7, 48, 49, 50, 78, 79, 80, 81, 82, 16, 83, 84, 22, 23, 24, 25, 26, 27, 28, 29, 30, 31, 32, 33, 34, 35, 36, 37, 38, 39, 40, 41, 42, 43, 44, 85, 86, 87, 88, 3, 51, 52, 53, 54, 89, 90, 91, 92, 93, 20, 72, 19, 94, 95, 96, 97, 98, 99, 100, 101, 102, 103, 104, 105, 106, 107, 108, 109, 110, 111, 112, 113, 114, 115, 116, 117, 118, 119, 120, 121, 122, 123, 124, 125, 126, 127, 128, 129, 130, 131, 132, 133] (by decide +kernel) (by decide +kernel)
set_option maxRecDepth 20000 in
theorem gX1_passOneTick_X1_bringNearer : GoodIn wsX1_passOneTick (wsV RX1 187 RX1 yX1_bringNearer wsX1_bringNearer) := goodIn_app (goodIn_of _ (by decide +kernel)) ggX1_passOneTick_X1_bringNearer
theorem dX1_passOneTick_0 : decode cX1_passOneTick 0 = .ok (.aload_n 0, 1) := by decide +kernel
theorem dX1_passOneTick_1 : decode cX1_passOneTick 1 = .ok (.dup, 1) := by decide +kernel
theorem dX1_passOneTick_2 : decode cX1_passOneTick 2 = .ok (.getfield 30, 3) := by decide +kernel
theorem dX1_passOneTick_5 : decode cX1_passOneTick 5 = .ok (.iconst 1, 1) := by decide +kernel
theorem dX1_passOneTick_6 : decode cX1_passOneTick 6 = .ok (.iadd, 1) := by decide +kernel
theorem dX1_passOneTick_7 : decode cX1_passOneTick 7 = .ok (.putfield 30, 3) := by decide +kernel
theorem dX1_passOneTick_10 : decode cX1_passOneTick 10 = .ok (.aload_n 0, 1) := by decide +kernel
theorem dX1_passOneTick_11 : decode cX1_passOneTick 11 = .ok (.invokevirtual 177, 3) := by decide +kernel
theorem dX1_passOneTick_14 : decode cX1_passOneTick 14 = .ok (.ifCond .eq 10, 3) := by decide +kernel
theorem dX1_passOneTick_17 : decode cX1_passOneTick 17 = .ok (.aload_n 0, 1) := by decide +kernel
theorem dX1_passOneTick_18 : decode cX1_passOneTick 18 = .ok (.invokevirtual 181, 3) := by decide +kernel
theorem dX1_passOneTick_21 : decode cX1_passOneTick 21 = .ok (.goto 32, 3) := by decide +kernel
theorem dX1_passOneTick_24 : decode cX1_passOneTick 24 = .ok (.aload_n 0, 1) := by decide +kernel
theorem dX1_passOneTick_25 : decode cX1_passOneTick 25 = .ok (.getfield 19, 3) := by decide +kernel
theorem dX1_passOneTick_28 : decode cX1_passOneTick 28 = .ok (.ifCond .ne 10, 3) := by decide +kernel
theorem dX1_passOneTick_31 : decode cX1_passOneTick 31 = .ok (.aload_n 0, 1) := by decide +kernel
theorem dX1_passOneTick_32 : decode cX1_passOneTick 32 = .ok (.invokevirtual 184, 3) := by decide +kernel
theorem dX1_passOneTick_35 : decode cX1_passOneTick 35 = .ok (.goto 18, 3) := by decide +kernel
theorem dX1_passOneTick_38 : decode cX1_passOneTick 38 = .ok (.aload_n 0, 1) := by decide +kernel
theorem dX1_passOneTick_39 : decode cX1_passOneTick 39 = .ok (.getfield 23, 3) := by decide +kernel
theorem dX1_passOneTick_42 : decode cX1_passOneTick 42 = .ok (.ifnull 11, 3) := by decide +kernel
theorem dX1_passOneTick_45 : decode cX1_passOneTick 45 = .ok (.aload_n 0, 1) := by decide +kernel
theorem dX1_passOneTick_46 : decode cX1_passOneTick 46 = .ok (.aload_n 0, 1) := by decide +kernel
theorem dX1_passOneTick_47 : decode cX1_passOneTick 47 = .ok (.getfield 23, 3) := by decide +kernel
theorem dX1_passOneTick_50 : decode cX1_passOneTick 50 = .ok (.invokevirtual 187, 3) := by decide +kernel
theorem dX1_passOneTick_53 : decode cX1_passOneTick 53 = .ok (.return_, 1) := by decide +kernel
theorem dX1_watchBites_0 : decode cX1_watchBites 0 = .ok (.aload_n 0, 1) := by decide +kernel
theorem dX1_watchBites_1 : decode cX1_watchBites 1 = .ok (.getfield 33, 3) := by decide +kernel
theorem dX1_watchBites_4 : decode cX1_watchBites 4 = .ok (.ifCond .eq 11, 3) := by decide +kernel
theorem dX1_watchBites_7 : decode cX1_watchBites 7 = .ok (.aload_n 0, 1) := by decide +kernel
theorem dX1_watchBites_8 : decode cX1_watchBites 8 = .ok (.getfield 19, 3) := by decide +kernel
theorem dX1_watchBites_11 : decode cX1_watchBites 11 = .ok (.iconst 2, 1) := by decide +kernel
theorem dX1_watchBites_12 : decode cX1_watchBites 12 = .ok (.if_icmp .ne 5, 3) := by decide +kernel
theorem dX1_watchBites_15 : decode cX1_watchBites 15 = .ok (.iconst 0, 1) := by decide +kernel
theorem dX1_watchBites_16 : decode cX1_watchBites 16 = .ok (.ireturn, 1) := by decide +kernel
theorem dX1_watchBites_17 : decode cX1_watchBites 17 = .ok (.aload_n 0, 1) := by decide +kernel
theorem dX1_watchBites_18 : decode cX1_watchBites 18 = .ok (.dup, 1) := by decide +kernel
theorem dX1_watchBites_19 : decode cX1_watchBites 19 = .ok (.getfield 36, 3) := by decide +kernel
theorem dX1_watchBites_22 : decode cX1_watchBites 22 = .ok (.iconst 1, 1) := by decide +kernel
theorem dX1_watchBites_23 : decode cX1_watchBites 23 = .ok (.iadd, 1) := by decide +kernel
theorem dX1_watchBites_24 : decode cX1_watchBites 24 = .ok (.putfield 36, 3) := by decide +kernel
theorem dX1_watchBites_27 : decode cX1_watchBites 27 = .ok (.aload_n 0, 1) := by decide +kernel
theorem dX1_watchBites_28 : decode cX1_watchBites 28 = .ok (.getfield 36, 3) := by decide +kernel
theorem dX1_watchBites_31 : decode cX1_watchBites 31 = .ok (.aload_n 0, 1) := by decide +kernel
theorem dX1_watchBites_32 : decode cX1_watchBites 32 = .ok (.getfield 33, 3) := by decide +kernel
theorem dX1_watchBites_35 : decode cX1_watchBites 35 = .ok (.if_icmp .le 7, 3) := by decide +kernel
theorem dX1_watchBites_38 : decode cX1_watchBites 38 = .ok (.iconst 1, 1) := by decide +kernel
theorem dX1_watchBites_39 : decode cX1_watchBites 39 = .ok (.goto 4, 3) := by decide +kernel
theorem dX1_watchBites_42 : decode cX1_watchBites 42 = .ok (.iconst 0, 1) := by decide +kernel
theorem dX1_watchBites_43 : decode cX1_watchBites 43 = .ok (.ireturn, 1) := by decide +kernel
set_option maxRecDepth 20000 in
theorem ggX1_resetAll_Jx4a65c_size_8abf5 : GoodIn wsX1_resetAll wsJx4a65c_size_8abf5 := goodIn_r _ [14, 15, 73, 74, 75] (by decide +kernel) (by decide +kernel)
set_option maxRecDepth 20000 in
theorem gX1_resetAll_Jx4a65c_size_8abf5 : GoodIn wsX1_resetAll (wsV RX1 65 RJx4a65c yJx4a65c_size_8abf5 wsJx4a65c_size_8abf5) := goodIn_app (goodIn_of _ (by decide +kernel)) ggX1_resetAll_Jx4a65c_size_8abf5
set_option maxRecDepth 20000 in
theorem ggX1_resetAll_Jx4a65c_get_915e3 : GoodIn wsX1_resetAll wsJx4a65c_get_915e3 := goodIn_r _ [19, 15, 20, 21, 22, 23, 24, 25, 26, 27, 28, 29, 30, 13, 31, 32, 73, 74, 75] (by decide +kernel) (by decide +kernel)
set_option maxRecDepth 20000 in
theorem gX1_resetAll_Jx4a65c_get_915e3 : GoodIn wsX1_resetAll (wsV RX1 129 RJx4a65c yJx4a65c_get_915e3 wsJx4a65c_get_915e3) := goodIn_app (goodIn_of _ (by decide +kernel)) ggX1_resetAll_Jx4a65c_get_915e3
set_option maxRecDepth 20000 in
theorem ggX1_resetAll_X1_turn : GoodIn wsX1_resetAll wsX1_turn := goodIn_r _ [37, 38, 39, 60, 61, 62, 63, 64, 65, 66, 67, 68, 69, 70, 71, 72, 46, 47, 48, 49, 50, 51, 52, 53, 54, 55, 56, 57, 58, 59] (by decide +kernel) (by decide +kernel)
set_option maxRecDepth 20000 in
theorem gX1_resetAll_X1_turn : GoodIn wsX1_resetAll (wsV RX1 158 RX1 yX1_turn wsX1_turn) := goodIn_app (goodIn_of _ (by decide +kernel)) ggX1_resetAll_X1_turn
set_option maxRecDepth 20000 in
theorem ggX1_resetAll_X1_endDue : GoodIn wsX1_resetAll wsX1_endDue := goodIn_r _ [43, 44, 45, 46, 47, 48, 49, 50, 51, 52, 53, 54, 55, 56, 57, 58, 59] (by decide +kernel) (by decide +kernel)
set_option maxRecDepth 20000 in
theorem gX1_resetAll_X1_endDue : GoodIn wsX1_resetAll (wsV RX1 168 RX1 yX1_endDue wsX1_endDue) := goodIn_app (goodIn_of _ (by decide +kernel)) ggX1_resetAll_X1_endDue
theorem dX1_resetAll_0 : decode cX1_resetAll 0 = .ok (.iconst 0, 1) := by decide +kernel
theorem dX1_resetAll_1 : decode cX1_resetAll 1 = .ok (.istore_n 1, 1) := by decide +kernel
theorem dX1_resetAll_2 : decode cX1_resetAll 2 = .ok (.iload_n 1, 1) := by decide +kernel
theorem dX1_resetAll_3 : decode cX1_resetAll 3 = .ok (.aload_n 0, 1) := by decide +kernel
theorem dX1_resetAll_4 : decode cX1_resetAll 4 = .ok (.getfield 10, 3) := by decide +kernel
theorem dX1_resetAll_7 : decode cX1_resetAll 7 = .ok (.invokevirtual 65, 3) := by decide +kernel
theorem dX1_resetAll_10 : decode cX1_resetAll 10 = .ok (.if_icmp .ge 37, 3) := by decide +kernel
theorem dX1_resetAll_13 : decode cX1_resetAll 13 = .ok (.aload_n 0, 1) := by decide +kernel
theorem dX1_resetAll_14 : decode cX1_resetAll 14 = .ok (.getfield 10, 3) := by decide +kernel
theorem dX1_resetAll_17 : decode cX1_resetAll 17 = .ok (.iload_n 1, 1) := by decide +kernel
theorem dX1_resetAll_18 : decode cX1_resetAll 18 = .ok (.invokevirtual 129, 3) := by decide +kernel
theorem dX1_resetAll_21 : decode cX1_resetAll 21 = .ok (.checkcast 69, 3) := by decide +kernel
theorem dX1_resetAll_24 : decode cX1_resetAll 24 = .ok (.astore_n 2, 1) := by decide +kernel
theorem dX1_resetAll_25 : decode cX1_resetAll 25 = .ok (.aload_n 0, 1) := by decide +kernel
theorem dX1_resetAll_26 : decode cX1_resetAll 26 = .ok (.aload_n 2, 1) := by decide +kernel
theorem dX1_resetAll_27 : decode cX1_resetAll 27 = .ok (.iconst 2, 1) := by decide +kernel
theorem dX1_resetAll_28 : decode cX1_resetAll 28 = .ok (.invokevirtual 158, 3) := by decide +kernel
theorem dX1_resetAll_31 : decode cX1_resetAll 31 = .ok (.aload_n 2, 1) := by decide +kernel
theorem dX1_resetAll_32 : decode cX1_resetAll 32 = .ok (.iconst 0, 1) := by decide +kernel
theorem dX1_resetAll_33 : decode cX1_resetAll 33 = .ok (.putfield 108, 3) := by decide +kernel
theorem dX1_resetAll_36 : decode cX1_resetAll 36 = .ok (.aload_n 2, 1) := by decide +kernel
theorem dX1_resetAll_37 : decode cX1_resetAll 37 = .ok (.iconst 0, 1) := by decide +kernel
theorem dX1_resetAll_38 : decode cX1_resetAll 38 = .ok (.putfield 145, 3) := by decide +kernel
theorem dX1_resetAll_41 : decode cX1_resetAll 41 = .ok (.iinc 1 1, 3) := by decide +kernel
theorem dX1_resetAll_44 : decode cX1_resetAll 44 = .ok (.goto (-42), 3) := by decide +kernel
theorem dX1_resetAll_47 : decode cX1_resetAll 47 = .ok (.aload_n 0, 1) := by decide +kernel
theorem dX1_resetAll_48 : decode cX1_resetAll 48 = .ok (.invokevirtual 168, 3) := by decide +kernel
theorem dX1_resetAll_51 : decode cX1_resetAll 51 = .ok (.aload_n 0, 1) := by decide +kernel
theorem dX1_resetAll_52 : decode cX1_resetAll 52 = .ok (.iconst 0, 1) := by decide +kernel
theorem dX1_resetAll_53 : decode cX1_resetAll 53 = .ok (.putfield 19, 3) := by decide +kernel
theorem dX1_resetAll_56 : decode cX1_resetAll 56 = .ok (.aload_n 0, 1) := by decide +kernel
theorem dX1_resetAll_57 : decode cX1_resetAll 57 = .ok (.iconst (-1), 1) := by decide +kernel
theorem dX1_resetAll_58 : decode cX1_resetAll 58 = .ok (.putfield 51, 3) := by decide +kernel
theorem dX1_resetAll_61 : decode cX1_resetAll 61 = .ok (.aload_n 0, 1) := by decide +kernel
theorem dX1_resetAll_62 : decode cX1_resetAll 62 = .ok (.iconst 0, 1) := by decide +kernel
theorem dX1_resetAll_63 : decode cX1_resetAll 63 = .ok (.putfield 48, 3) := by decide +kernel
theorem dX1_resetAll_66 : decode cX1_resetAll 66 = .ok (.aload_n 0, 1) := by decide +kernel
theorem dX1_resetAll_67 : decode cX1_resetAll 67 = .ok (.iconst 0, 1) := by decide +kernel
theorem dX1_resetAll_68 : decode cX1_resetAll 68 = .ok (.putfield 36, 3) := by decide +kernel
theorem dX1_resetAll_71 : decode cX1_resetAll 71 = .ok (.aload_n 0, 1) := by decide +kernel
theorem dX1_resetAll_72 : decode cX1_resetAll 72 = .ok (.dup, 1) := by decide +kernel
theorem dX1_resetAll_73 : decode cX1_resetAll 73 = .ok (.getfield 39, 3) := by decide +kernel
theorem dX1_resetAll_76 : decode cX1_resetAll 76 = .ok (.iconst 1, 1) := by decide +kernel
theorem dX1_resetAll_77 : decode cX1_resetAll 77 = .ok (.iadd, 1) := by decide +kernel
theorem dX1_resetAll_78 : decode cX1_resetAll 78 = .ok (.putfield 39, 3) := by decide +kernel
theorem dX1_resetAll_81 : decode cX1_resetAll 81 = .ok (.return_, 1) := by decide +kernel
set_option maxRecDepth 20000 in
theorem ggX1_idleOneTick_X1_parentsOfThoseOn : GoodIn wsX1_idleOneTick wsX1_parentsOfThoseOn := goodIn_r _ [11, 1, 2, 3, 12, 13, 14, 15, 16, 17, 18, 19, 20, 21, 22, 23, 24, 25, 26, 27, 28, 29, 30, 31, 32, 33, 34, 35, 48, 49, 50, 51, 52, 53, 54, 55, 56, 57, 58, 59, 60, 61, 62, 63, 64, 65, 66, 67, 68, 69, 70, 71, 72, 73, 74, 75, 76, 77] (by decide +kernel) (by decide +kernel)
set_option maxRecDepth 20000 in
theorem gX1_idleOneTick_X1_parentsOfThoseOn : GoodIn wsX1_idleOneTick (wsV RX1 191 RX1 yX1_parentsOfThoseOn wsX1_parentsOfThoseOn) := goodIn_app (goodIn_of _ (by decide +kernel)) ggX1_idleOneTick_X1_parentsOfThoseOn
set_option maxRecDepth 20000 in
theorem ggX1_idleOneTick_Jx4a65c_size_8abf5 : GoodIn wsX1_idleOneTick wsJx4a65c_size_8abf5 := goodIn_r _ [17, 18, 75, 76, 77] (by decide +kernel) (by decide +kernel)
set_option maxRecDepth 20000 in
theorem gX1_idleOneTick_Jx4a65c_size_8abf5 : GoodIn wsX1_idleOneTick (wsV RX1 65 RJx4a65c yJx4a65c_size_8abf5 wsJx4a65c_size_8abf5) := goodIn_app (goodIn_of _ (by decide +kernel)) ggX1_idleOneTick_Jx4a65c_size_8abf5
set_option maxRecDepth 20000 in
theorem ggX1_idleOneTick_Jx4a65c_get_915e3 : GoodIn wsX1_idleOneTick wsJx4a65c_get_915e3 := goodIn_r _ [22, 18, 23, 24, 25, 26, 27, 28, 29, 30, 31, 32, 33, 16, 34, 35, 75, 76, 77] (by decide +kernel) (by decide +kernel)
set_option maxRecDepth 20000 in
theorem gX1_idleOneTick_Jx4a65c_get_915e3 : GoodIn wsX1_idleOneTick (wsV RX1 129 RJx4a65c yJx4a65c_get_915e3 wsJx4a65c_get_915e3) := goodIn_app (goodIn_of _ (by decide +kernel)) ggX1_idleOneTick_Jx4a65c_get_915e3
set_option maxRecDepth 20000 in
theorem ggX1_idleOneTick_X1_holds : GoodIn wsX1_idleOneTick wsX1_holds := goodIn_r _ [38, 39, 40, 10, 41, 42, 62, 63, 64, 65, 66, 67, 68, 69, 70, 71, 72, 73, 74] (by decide +kernel) (by decide +kernel)
set_option maxRecDepth 20000 in
theorem gX1_idleOneTick_X1_holds : GoodIn wsX1_idleOneTick (va_wsS RX1 148 yX1_holds wsX1_holds) := goodIn_app (goodIn_of _ (by decide +kernel)) ggX1_idleOneTick_X1_holds
set_option maxRecDepth 20000 in
theorem ggX1_idleOneTick_X1_turn : GoodIn wsX1_idleOneTick wsX1_turn := goodIn_r _ [46, 3, 47, 62, 63, 64, 65, 66, 67, 68, 69, 70, 71, 72, 73, 74, 48, 49, 50, 51, 52, 53, 54, 55, 56, 57, 58, 59, 60, 61] (by decide +kernel) (by decide +kernel)
set_option maxRecDepth 20000 in
theorem gX1_idleOneTick_X1_turn : GoodIn wsX1_idleOneTick (wsV RX1 158 RX1 yX1_turn wsX1_turn) := goodIn_app (goodIn_of _ (by decide +kernel)) ggX1_idleOneTick_X1_turn
theorem dX1_idleOneTick_0 : decode cX1_idleOneTick 0 = .ok (.aload_n 0, 1) := by decide +kernel
theorem dX1_idleOneTick_1 : decode cX1_idleOneTick 1 = .ok (.invokevirtual 191, 3) := by decide +kernel
theorem dX1_idleOneTick_4 : decode cX1_idleOneTick 4 = .ok (.istore_n 1, 1) := by decide +kernel
theorem dX1_idleOneTick_5 : decode cX1_idleOneTick 5 = .ok (.iconst 0, 1) := by decide +kernel
theorem dX1_idleOneTick_6 : decode cX1_idleOneTick 6 = .ok (.istore_n 2, 1) := by decide +kernel
theorem dX1_idleOneTick_7 : decode cX1_idleOneTick 7 = .ok (.iload_n 2, 1) := by decide +kernel
theorem dX1_idleOneTick_8 : decode cX1_idleOneTick 8 = .ok (.aload_n 0, 1) := by decide +kernel
theorem dX1_idleOneTick_9 : decode cX1_idleOneTick 9 = .ok (.getfield 10, 3) := by decide +kernel
theorem dX1_idleOneTick_12 : decode cX1_idleOneTick 12 = .ok (.invokevirtual 65, 3) := by decide +kernel
theorem dX1_idleOneTick_15 : decode cX1_idleOneTick 15 = .ok (.if_icmp .ge 99, 3) := by decide +kernel
theorem dX1_idleOneTick_18 : decode cX1_idleOneTick 18 = .ok (.aload_n 0, 1) := by decide +kernel
theorem dX1_idleOneTick_19 : decode cX1_idleOneTick 19 = .ok (.getfield 10, 3) := by decide +kernel
theorem dX1_idleOneTick_22 : decode cX1_idleOneTick 22 = .ok (.iload_n 2, 1) := by decide +kernel
theorem dX1_idleOneTick_23 : decode cX1_idleOneTick 23 = .ok (.invokevirtual 129, 3) := by decide +kernel
theorem dX1_idleOneTick_26 : decode cX1_idleOneTick 26 = .ok (.checkcast 69, 3) := by decide +kernel
theorem dX1_idleOneTick_29 : decode cX1_idleOneTick 29 = .ok (.astore_n 3, 1) := by decide +kernel
theorem dX1_idleOneTick_30 : decode cX1_idleOneTick 30 = .ok (.aload_n 3, 1) := by decide +kernel
theorem dX1_idleOneTick_31 : decode cX1_idleOneTick 31 = .ok (.getfield 133, 3) := by decide +kernel
theorem dX1_idleOneTick_34 : decode cX1_idleOneTick 34 = .ok (.iconst 2, 1) := by decide +kernel
theorem dX1_idleOneTick_35 : decode cX1_idleOneTick 35 = .ok (.if_icmp .ne 22, 3) := by decide +kernel
theorem dX1_idleOneTick_38 : decode cX1_idleOneTick 38 = .ok (.aload_n 3, 1) := by decide +kernel
theorem dX1_idleOneTick_39 : decode cX1_idleOneTick 39 = .ok (.getfield 108, 3) := by decide +kernel
theorem dX1_idleOneTick_42 : decode cX1_idleOneTick 42 = .ok (.ifCond .ne 15, 3) := by decide +kernel
theorem dX1_idleOneTick_45 : decode cX1_idleOneTick 45 = .ok (.iload_n 1, 1) := by decide +kernel
theorem dX1_idleOneTick_46 : decode cX1_idleOneTick 46 = .ok (.aload_n 3, 1) := by decide +kernel
theorem dX1_idleOneTick_47 : decode cX1_idleOneTick 47 = .ok (.invokestatic 148, 3) := by decide +kernel
theorem dX1_idleOneTick_50 : decode cX1_idleOneTick 50 = .ok (.ifCond .ne 7, 3) := by decide +kernel
theorem dX1_idleOneTick_53 : decode cX1_idleOneTick 53 = .ok (.iconst 1, 1) := by decide +kernel
theorem dX1_idleOneTick_54 : decode cX1_idleOneTick 54 = .ok (.goto 4, 3) := by decide +kernel
theorem dX1_idleOneTick_57 : decode cX1_idleOneTick 57 = .ok (.iconst 0, 1) := by decide +kernel
theorem dX1_idleOneTick_58 : decode cX1_idleOneTick 58 = .ok (.istore 4, 2) := by decide +kernel
theorem dX1_idleOneTick_60 : decode cX1_idleOneTick 60 = .ok (.aload_n 3, 1) := by decide +kernel
theorem dX1_idleOneTick_61 : decode cX1_idleOneTick 61 = .ok (.iload 4, 2) := by decide +kernel
theorem dX1_idleOneTick_63 : decode cX1_idleOneTick 63 = .ok (.ifCond .eq 12, 3) := by decide +kernel
theorem dX1_idleOneTick_66 : decode cX1_idleOneTick 66 = .ok (.aload_n 3, 1) := by decide +kernel
theorem dX1_idleOneTick_67 : decode cX1_idleOneTick 67 = .ok (.getfield 145, 3) := by decide +kernel
theorem dX1_idleOneTick_70 : decode cX1_idleOneTick 70 = .ok (.iconst 1, 1) := by decide +kernel
theorem dX1_idleOneTick_71 : decode cX1_idleOneTick 71 = .ok (.iadd, 1) := by decide +kernel
theorem dX1_idleOneTick_72 : decode cX1_idleOneTick 72 = .ok (.goto 4, 3) := by decide +kernel
theorem dX1_idleOneTick_75 : decode cX1_idleOneTick 75 = .ok (.iconst 0, 1) := by decide +kernel
theorem dX1_idleOneTick_76 : decode cX1_idleOneTick 76 = .ok (.putfield 145, 3) := by decide +kernel
theorem dX1_idleOneTick_79 : decode cX1_idleOneTick 79 = .ok (.iload 4, 2) := by decide +kernel
theorem dX1_idleOneTick_81 : decode cX1_idleOneTick 81 = .ok (.ifCond .eq 27, 3) := by decide +kernel
theorem dX1_idleOneTick_84 : decode cX1_idleOneTick 84 = .ok (.aload_n 3, 1) := by decide +kernel
theorem dX1_idleOneTick_85 : decode cX1_idleOneTick 85 = .ok (.getfield 194, 3) := by decide +kernel
theorem dX1_idleOneTick_88 : decode cX1_idleOneTick 88 = .ok (.ifCond .eq 20, 3) := by decide +kernel
theorem dX1_idleOneTick_91 : decode cX1_idleOneTick 91 = .ok (.aload_n 3, 1) := by decide +kernel
end
section
theorem dX1_idleOneTick_92 : decode cX1_idleOneTick 92 = .ok (.getfield 145, 3) := by decide +kernel
theorem dX1_idleOneTick_95 : decode cX1_idleOneTick 95 = .ok (.aload_n 3, 1) := by decide +kernel
theorem dX1_idleOneTick_96 : decode cX1_idleOneTick 96 = .ok (.getfield 194, 3) := by decide +kernel
theorem dX1_idleOneTick_99 : decode cX1_idleOneTick 99 = .ok (.if_icmp .lt 9, 3) := by decide +kernel
theorem dX1_idleOneTick_102 : decode cX1_idleOneTick 102 = .ok (.aload_n 0, 1) := by decide +kernel
theorem dX1_idleOneTick_103 : decode cX1_idleOneTick 103 = .ok (.aload_n 3, 1) := by decide +kernel
theorem dX1_idleOneTick_104 : decode cX1_idleOneTick 104 = .ok (.iconst 1, 1) := by decide +kernel
theorem dX1_idleOneTick_105 : decode cX1_idleOneTick 105 = .ok (.invokevirtual 158, 3) := by decide +kernel
theorem dX1_idleOneTick_108 : decode cX1_idleOneTick 108 = .ok (.iinc 2 1, 3) := by decide +kernel
theorem dX1_idleOneTick_111 : decode cX1_idleOneTick 111 = .ok (.goto (-104), 3) := by decide +kernel
theorem dX1_idleOneTick_114 : decode cX1_idleOneTick 114 = .ok (.return_, 1) := by decide +kernel
set_option maxRecDepth 20000 in
theorem ggX1_parentsOfThoseOn_Jx4a65c_size_8abf5 : GoodIn wsX1_parentsOfThoseOn wsJx4a65c_size_8abf5 := goodIn_r _ [9, 10, 55, 56, 57] (by decide +kernel) (by decide +kernel)
set_option maxRecDepth 20000 in
theorem gX1_parentsOfThoseOn_Jx4a65c_size_8abf5 : GoodIn wsX1_parentsOfThoseOn (wsV RX1 65 RJx4a65c yJx4a65c_size_8abf5 wsJx4a65c_size_8abf5) := goodIn_app (goodIn_of _ (by decide +kernel)) ggX1_parentsOfThoseOn_Jx4a65c_size_8abf5
set_option maxRecDepth 20000 in
theorem ggX1_parentsOfThoseOn_Jx4a65c_get_915e3 : GoodIn wsX1_parentsOfThoseOn wsJx4a65c_get_915e3 := goodIn_r _ [14, 10, 15, 16, 17, 18, 19, 20, 21, 22, 23, 24, 25, 8, 26, 27, 55, 56, 57] (by decide +kernel) (by decide +kernel)
set_option maxRecDepth 20000 in
theorem gX1_parentsOfThoseOn_Jx4a65c_get_915e3 : GoodIn wsX1_parentsOfThoseOn (wsV RX1 129 RJx4a65c yJx4a65c_get_915e3 wsJx4a65c_get_915e3) := goodIn_app (goodIn_of _ (by decide +kernel)) ggX1_parentsOfThoseOn_Jx4a65c_get_915e3
theorem dX1_parentsOfThoseOn_0 : decode cX1_parentsOfThoseOn 0 = .ok (.iconst 0, 1) := by decide +kernel
theorem dX1_parentsOfThoseOn_1 : decode cX1_parentsOfThoseOn 1 = .ok (.istore_n 1, 1) := by decide +kernel
theorem dX1_parentsOfThoseOn_2 : decode cX1_parentsOfThoseOn 2 = .ok (.iconst 0, 1) := by decide +kernel
theorem dX1_parentsOfThoseOn_3 : decode cX1_parentsOfThoseOn 3 = .ok (.istore_n 2, 1) := by decide +kernel
theorem dX1_parentsOfThoseOn_4 : decode cX1_parentsOfThoseOn 4 = .ok (.iload_n 2, 1) := by decide +kernel
theorem dX1_parentsOfThoseOn_5 : decode cX1_parentsOfThoseOn 5 = .ok (.aload_n 0, 1) := by decide +kernel
theorem dX1_parentsOfThoseOn_6 : decode cX1_parentsOfThoseOn 6 = .ok (.getfield 10, 3) := by decide +kernel
theorem dX1_parentsOfThoseOn_9 : decode cX1_parentsOfThoseOn 9 = .ok (.invokevirtual 65, 3) := by decide +kernel
theorem dX1_parentsOfThoseOn_12 : decode cX1_parentsOfThoseOn 12 = .ok (.if_icmp .ge 36, 3) := by decide +kernel
theorem dX1_parentsOfThoseOn_15 : decode cX1_parentsOfThoseOn 15 = .ok (.aload_n 0, 1) := by decide +kernel
theorem dX1_parentsOfThoseOn_16 : decode cX1_parentsOfThoseOn 16 = .ok (.getfield 10, 3) := by decide +kernel
theorem dX1_parentsOfThoseOn_19 : decode cX1_parentsOfThoseOn 19 = .ok (.iload_n 2, 1) := by decide +kernel
theorem dX1_parentsOfThoseOn_20 : decode cX1_parentsOfThoseOn 20 = .ok (.invokevirtual 129, 3) := by decide +kernel
theorem dX1_parentsOfThoseOn_23 : decode cX1_parentsOfThoseOn 23 = .ok (.checkcast 69, 3) := by decide +kernel
theorem dX1_parentsOfThoseOn_26 : decode cX1_parentsOfThoseOn 26 = .ok (.astore_n 3, 1) := by decide +kernel
theorem dX1_parentsOfThoseOn_27 : decode cX1_parentsOfThoseOn 27 = .ok (.aload_n 3, 1) := by decide +kernel
theorem dX1_parentsOfThoseOn_28 : decode cX1_parentsOfThoseOn 28 = .ok (.getfield 133, 3) := by decide +kernel
theorem dX1_parentsOfThoseOn_31 : decode cX1_parentsOfThoseOn 31 = .ok (.iconst 2, 1) := by decide +kernel
theorem dX1_parentsOfThoseOn_32 : decode cX1_parentsOfThoseOn 32 = .ok (.if_icmp .ne 10, 3) := by decide +kernel
theorem dX1_parentsOfThoseOn_35 : decode cX1_parentsOfThoseOn 35 = .ok (.iload_n 1, 1) := by decide +kernel
theorem dX1_parentsOfThoseOn_36 : decode cX1_parentsOfThoseOn 36 = .ok (.aload_n 3, 1) := by decide +kernel
theorem dX1_parentsOfThoseOn_37 : decode cX1_parentsOfThoseOn 37 = .ok (.getfield 197, 3) := by decide +kernel
theorem dX1_parentsOfThoseOn_40 : decode cX1_parentsOfThoseOn 40 = .ok (.ior, 1) := by decide +kernel
theorem dX1_parentsOfThoseOn_41 : decode cX1_parentsOfThoseOn 41 = .ok (.istore_n 1, 1) := by decide +kernel
theorem dX1_parentsOfThoseOn_42 : decode cX1_parentsOfThoseOn 42 = .ok (.iinc 2 1, 3) := by decide +kernel
theorem dX1_parentsOfThoseOn_45 : decode cX1_parentsOfThoseOn 45 = .ok (.goto (-41), 3) := by decide +kernel
theorem dX1_parentsOfThoseOn_48 : decode cX1_parentsOfThoseOn 48 = .ok (.iload_n 1, 1) := by decide +kernel
theorem dX1_parentsOfThoseOn_49 : decode cX1_parentsOfThoseOn 49 = .ok (.ireturn, 1) := by decide +kernel
set_option maxRecDepth 20000 in
theorem ggX1_bringNearer_X1_turn : GoodIn wsX1_bringNearer wsX1_turn := goodIn_r _ [8, 9, 10, 83, 84, 85, 86, 87, 88, 89, 90, 91, 92, 93, 94, 95, 69, 70, 71, 72, 73, 74, 75, 76, 77, 78, 79, 80, 81, 82] (by decide +kernel) (by decide +kernel)
set_option maxRecDepth 20000 in
theorem gX1_bringNearer_X1_turn : GoodIn wsX1_bringNearer (wsV RX1 158 RX1 yX1_turn wsX1_turn) := goodIn_app (goodIn_of _ (by decide +kernel)) ggX1_bringNearer_X1_turn
set_option maxRecDepth 20000 in
theorem ggX1_bringNearer_X1_comeFurtherBack : GoodIn wsX1_bringNearer wsX1_comeFurtherBack := goodIn_r _ [14, 15, 16, 9, 17, 18, 2, 19, 20, 21, 22, 23, 24, 25, 26, 27, 28, 29, 30, 31, 32, 33, 34, 35, 36, 37, 38, 39, 40, 41, 42, 43, 44, 7, 45, 46, 1, 4, 5, 6, 8, 10, 47, 48, 49, 50, 69, 70, 71, 72, 73, 74, 75, 76, 77, 78, 79, 80, 81, 82, 83, 84, 85, 86, 87, 88, 89, 90, 91, 92, 93, 94, 95, 96, 97, 98] (by decide +kernel) (by decide +kernel)
set_option maxRecDepth 20000 in
theorem gX1_bringNearer_X1_comeFurtherBack : GoodIn wsX1_bringNearer (wsV RX1 171 RX1 yX1_comeFurtherBack wsX1_comeFurtherBack) := goodIn_app (goodIn_of _ (by decide +kernel)) ggX1_bringNearer_X1_comeFurtherBack
set_option maxRecDepth 20000 in
theorem ggX1_bringNearer_X1_giveUp : GoodIn wsX1_bringNearer wsX1_giveUp := goodIn_r _ [54, 55, 56, 57, 58, 59, 60, 61, 7, 62, 2, 11, 12, 13, 14, 15, 16, 9, 17, 18, 19, 20, 21, 22, 23, 24, 25, 26, 27, 28, 29, 30, 31, 32, 33, 34, 35, 36, 37, 38, 39, 40, 41, 42, 43, 44, 45, 46, 1, 4, 5, 6, 8, 10, 47, 48, 49, 50, 69, 70, 71, 72, 73, 74, 75, 76, 77, 78, 79, 80, 81, 82, 83, 84, 85, 86, 87, 88, 89, 90, 91, 92, 93, 94, 95, 96, 97, 98] (by decide +kernel) (by decide +kernel)
set_option maxRecDepth 20000 in
theorem gX1_bringNearer_X1_giveUp : GoodIn wsX1_bringNearer (wsV RX1 125 RX1 yX1_giveUp wsX1_giveUp) := goodIn_app (goodIn_of _ (by decide +kernel)) ggX1_bringNearer_X1_giveUp
set_option maxRecDepth 20000 in
theorem ggX1_bringNearer_X1_sinkFurther : GoodIn wsX1_bringNearer wsX1_sinkFurther := goodIn_r _ [66, 15, 16, 9, 67, 2, 68, 19, 20, 21, 22, 23, 24, 25, 26, 27, 28, 29, 30, 31, 32, 33, 34, 35, 36, 37, 38, 39, 40, 41, 42, 43, 44, 7, 45, 46, 1, 4, 5, 6, 8, 10, 47, 48, 49, 50, 69, 70, 71, 72, 73, 74, 75, 76, 77, 78, 79, 80, 81, 82, 83, 84, 85, 86, 87, 88, 89, 90, 91, 92, 93, 94, 95, 96, 97, 98] (by decide +kernel) (by decide +kernel)
set_option maxRecDepth 20000 in
theorem gX1_bringNearer_X1_sinkFurther : GoodIn wsX1_bringNearer (wsV RX1 139 RX1 yX1_sinkFurther wsX1_sinkFurther) := goodIn_app (goodIn_of _ (by decide +kernel)) ggX1_bringNearer_X1_sinkFurther
theorem dX1_bringNearer_0 : decode cX1_bringNearer 0 = .ok (.aload_n 0, 1) := by decide +kernel
theorem dX1_bringNearer_1 : decode cX1_bringNearer 1 = .ok (.dup, 1) := by decide +kernel
theorem dX1_bringNearer_2 : decode cX1_bringNearer 2 = .ok (.getfield 27, 3) := by decide +kernel
theorem dX1_bringNearer_5 : decode cX1_bringNearer 5 = .ok (.iconst 1, 1) := by decide +kernel
theorem dX1_bringNearer_6 : decode cX1_bringNearer 6 = .ok (.isub, 1) := by decide +kernel
theorem dX1_bringNearer_7 : decode cX1_bringNearer 7 = .ok (.putfield 27, 3) := by decide +kernel
theorem dX1_bringNearer_10 : decode cX1_bringNearer 10 = .ok (.aload_n 0, 1) := by decide +kernel
theorem dX1_bringNearer_11 : decode cX1_bringNearer 11 = .ok (.getfield 27, 3) := by decide +kernel
theorem dX1_bringNearer_14 : decode cX1_bringNearer 14 = .ok (.ifCond .le 4, 3) := by decide +kernel
theorem dX1_bringNearer_17 : decode cX1_bringNearer 17 = .ok (.return_, 1) := by decide +kernel
theorem dX1_bringNearer_18 : decode cX1_bringNearer 18 = .ok (.aload_n 0, 1) := by decide +kernel
theorem dX1_bringNearer_19 : decode cX1_bringNearer 19 = .ok (.getfield 19, 3) := by decide +kernel
theorem dX1_bringNearer_22 : decode cX1_bringNearer 22 = .ok (.iconst 1, 1) := by decide +kernel
theorem dX1_bringNearer_23 : decode cX1_bringNearer 23 = .ok (.if_icmp .eq 16, 3) := by decide +kernel
theorem dX1_bringNearer_26 : decode cX1_bringNearer 26 = .ok (.aload_n 0, 1) := by decide +kernel
theorem dX1_bringNearer_27 : decode cX1_bringNearer 27 = .ok (.aload_n 1, 1) := by decide +kernel
theorem dX1_bringNearer_28 : decode cX1_bringNearer 28 = .ok (.iconst 2, 1) := by decide +kernel
theorem dX1_bringNearer_29 : decode cX1_bringNearer 29 = .ok (.invokevirtual 158, 3) := by decide +kernel
theorem dX1_bringNearer_32 : decode cX1_bringNearer 32 = .ok (.aload_n 0, 1) := by decide +kernel
theorem dX1_bringNearer_33 : decode cX1_bringNearer 33 = .ok (.invokevirtual 171, 3) := by decide +kernel
theorem dX1_bringNearer_36 : decode cX1_bringNearer 36 = .ok (.goto 39, 3) := by decide +kernel
theorem dX1_bringNearer_39 : decode cX1_bringNearer 39 = .ok (.aload_n 1, 1) := by decide +kernel
theorem dX1_bringNearer_40 : decode cX1_bringNearer 40 = .ok (.getfield 119, 3) := by decide +kernel
theorem dX1_bringNearer_43 : decode cX1_bringNearer 43 = .ok (.ifCond .le 22, 3) := by decide +kernel
theorem dX1_bringNearer_46 : decode cX1_bringNearer 46 = .ok (.aload_n 1, 1) := by decide +kernel
theorem dX1_bringNearer_47 : decode cX1_bringNearer 47 = .ok (.dup, 1) := by decide +kernel
theorem dX1_bringNearer_48 : decode cX1_bringNearer 48 = .ok (.getfield 119, 3) := by decide +kernel
theorem dX1_bringNearer_51 : decode cX1_bringNearer 51 = .ok (.iconst 1, 1) := by decide +kernel
theorem dX1_bringNearer_52 : decode cX1_bringNearer 52 = .ok (.isub, 1) := by decide +kernel
theorem dX1_bringNearer_53 : decode cX1_bringNearer 53 = .ok (.putfield 119, 3) := by decide +kernel
theorem dX1_bringNearer_56 : decode cX1_bringNearer 56 = .ok (.aload_n 0, 1) := by decide +kernel
theorem dX1_bringNearer_57 : decode cX1_bringNearer 57 = .ok (.iconst 1, 1) := by decide +kernel
theorem dX1_bringNearer_58 : decode cX1_bringNearer 58 = .ok (.aload_n 1, 1) := by decide +kernel
theorem dX1_bringNearer_59 : decode cX1_bringNearer 59 = .ok (.invokevirtual 125, 3) := by decide +kernel
theorem dX1_bringNearer_62 : decode cX1_bringNearer 62 = .ok (.goto 13, 3) := by decide +kernel
theorem dX1_bringNearer_65 : decode cX1_bringNearer 65 = .ok (.aload_n 0, 1) := by decide +kernel
theorem dX1_bringNearer_66 : decode cX1_bringNearer 66 = .ok (.aload_n 1, 1) := by decide +kernel
theorem dX1_bringNearer_67 : decode cX1_bringNearer 67 = .ok (.iconst 0, 1) := by decide +kernel
theorem dX1_bringNearer_68 : decode cX1_bringNearer 68 = .ok (.invokevirtual 158, 3) := by decide +kernel
theorem dX1_bringNearer_71 : decode cX1_bringNearer 71 = .ok (.aload_n 0, 1) := by decide +kernel
theorem dX1_bringNearer_72 : decode cX1_bringNearer 72 = .ok (.invokevirtual 139, 3) := by decide +kernel
theorem dX1_bringNearer_75 : decode cX1_bringNearer 75 = .ok (.return_, 1) := by decide +kernel
theorem dX2_init_0 : decode cX2_init 0 = .ok (.aload_n 0, 1) := by decide +kernel
theorem dX2_init_1 : decode cX2_init 1 = .ok (.invokespecial 1, 3) := by decide +kernel
theorem dX2_init_4 : decode cX2_init 4 = .ok (.aload_n 0, 1) := by decide +kernel
theorem dX2_init_5 : decode cX2_init 5 = .ok (.bipush 12, 2) := by decide +kernel
theorem dX2_init_7 : decode cX2_init 7 = .ok (.newarray .int, 2) := by decide +kernel
theorem dX2_init_9 : decode cX2_init 9 = .ok (.putfield 7, 3) := by decide +kernel
theorem dX2_init_12 : decode cX2_init 12 = .ok (.aload_n 0, 1) := by decide +kernel
theorem dX2_init_13 : decode cX2_init 13 = .ok (.bipush 12, 2) := by decide +kernel
theorem dX2_init_15 : decode cX2_init 15 = .ok (.newarray .int, 2) := by decide +kernel
theorem dX2_init_17 : decode cX2_init 17 = .ok (.putfield 13, 3) := by decide +kernel
theorem dX2_init_20 : decode cX2_init 20 = .ok (.aload_n 0, 1) := by decide +kernel
theorem dX2_init_21 : decode cX2_init 21 = .ok (.bipush 12, 2) := by decide +kernel
theorem dX2_init_23 : decode cX2_init 23 = .ok (.newarray .int, 2) := by decide +kernel
theorem dX2_init_25 : decode cX2_init 25 = .ok (.putfield 16, 3) := by decide +kernel
theorem dX2_init_28 : decode cX2_init 28 = .ok (.aload_n 0, 1) := by decide +kernel
theorem dX2_init_29 : decode cX2_init 29 = .ok (.bipush 12, 2) := by decide +kernel
theorem dX2_init_31 : decode cX2_init 31 = .ok (.newarray .int, 2) := by decide +kernel
theorem dX2_init_33 : decode cX2_init 33 = .ok (.putfield 19, 3) := by decide +kernel
theorem dX2_init_36 : decode cX2_init 36 = .ok (.aload_n 0, 1) := by decide +kernel
theorem dX2_init_37 : decode cX2_init 37 = .ok (.bipush 12, 2) := by decide +kernel
theorem dX2_init_39 : decode cX2_init 39 = .ok (.newarray .int, 2) := by decide +kernel
theorem dX2_init_41 : decode cX2_init 41 = .ok (.putfield 22, 3) := by decide +kernel
theorem dX2_init_44 : decode cX2_init 44 = .ok (.aload_n 0, 1) := by decide +kernel
theorem dX2_init_45 : decode cX2_init 45 = .ok (.bipush 12, 2) := by decide +kernel
theorem dX2_init_47 : decode cX2_init 47 = .ok (.newarray .int, 2) := by decide +kernel
theorem dX2_init_49 : decode cX2_init 49 = .ok (.putfield 25, 3) := by decide +kernel
theorem dX2_init_52 : decode cX2_init 52 = .ok (.aload_n 0, 1) := by decide +kernel
theorem dX2_init_53 : decode cX2_init 53 = .ok (.bipush 12, 2) := by decide +kernel
theorem dX2_init_55 : decode cX2_init 55 = .ok (.newarray .int, 2) := by decide +kernel
theorem dX2_init_57 : decode cX2_init 57 = .ok (.putfield 28, 3) := by decide +kernel
theorem dX2_init_60 : decode cX2_init 60 = .ok (.aload_n 0, 1) := by decide +kernel
theorem dX2_init_61 : decode cX2_init 61 = .ok (.bipush 12, 2) := by decide +kernel
theorem dX2_init_63 : decode cX2_init 63 = .ok (.newarray .int, 2) := by decide +kernel
theorem dX2_init_65 : decode cX2_init 65 = .ok (.putfield 31, 3) := by decide +kernel
theorem dX2_init_68 : decode cX2_init 68 = .ok (.aload_n 0, 1) := by decide +kernel
theorem dX2_init_69 : decode cX2_init 69 = .ok (.bipush 12, 2) := by decide +kernel
theorem dX2_init_71 : decode cX2_init 71 = .ok (.newarray .int, 2) := by decide +kernel
theorem dX2_init_73 : decode cX2_init 73 = .ok (.putfield 34, 3) := by decide +kernel
theorem dX2_init_76 : decode cX2_init 76 = .ok (.aload_n 0, 1) := by decide +kernel
theorem dX2_init_77 : decode cX2_init 77 = .ok (.bipush 12, 2) := by decide +kernel
theorem dX2_init_79 : decode cX2_init 79 = .ok (.newarray .boolean, 2) := by decide +kernel
theorem dX2_init_81 : decode cX2_init 81 = .ok (.putfield 37, 3) := by decide +kernel
theorem dX2_init_84 : decode cX2_init 84 = .ok (.aload_n 0, 1) := by decide +kernel
theorem dX2_init_85 : decode cX2_init 85 = .ok (.bipush 12, 2) := by decide +kernel
theorem dX2_init_87 : decode cX2_init 87 = .ok (.newarray .boolean, 2) := by decide +kernel
theorem dX2_init_89 : decode cX2_init 89 = .ok (.putfield 41, 3) := by decide +kernel
theorem dX2_init_92 : decode cX2_init 92 = .ok (.aload_n 0, 1) := by decide +kernel
theorem dX2_init_93 : decode cX2_init 93 = .ok (.iconst (-1), 1) := by decide +kernel
theorem dX2_init_94 : decode cX2_init 94 = .ok (.putfield 44, 3) := by decide +kernel
theorem dX2_init_97 : decode cX2_init 97 = .ok (.aload_n 0, 1) := by decide +kernel
theorem dX2_init_98 : decode cX2_init 98 = .ok (.iconst (-1), 1) := by decide +kernel
theorem dX2_init_99 : decode cX2_init 99 = .ok (.putfield 48, 3) := by decide +kernel
theorem dX2_init_102 : decode cX2_init 102 = .ok (.return_, 1) := by decide +kernel
theorem dX2_none_0 : decode cX2_none 0 = .ok (.iload_n 1, 1) := by decide +kernel
theorem dX2_none_1 : decode cX2_none 1 = .ok (.ifCond .lt 11, 3) := by decide +kernel
theorem dX2_none_4 : decode cX2_none 4 = .ok (.iload_n 1, 1) := by decide +kernel
theorem dX2_none_5 : decode cX2_none 5 = .ok (.aload_n 0, 1) := by decide +kernel
theorem dX2_none_6 : decode cX2_none 6 = .ok (.getfield 51, 3) := by decide +kernel
theorem dX2_none_9 : decode cX2_none 9 = .ok (.if_icmp .lt 7, 3) := by decide +kernel
theorem dX2_none_12 : decode cX2_none 12 = .ok (.iconst 1, 1) := by decide +kernel
theorem dX2_none_13 : decode cX2_none 13 = .ok (.goto 4, 3) := by decide +kernel
theorem dX2_none_16 : decode cX2_none 16 = .ok (.iconst 0, 1) := by decide +kernel
theorem dX2_none_17 : decode cX2_none 17 = .ok (.ireturn, 1) := by decide +kernel
theorem dX2_depth_0 : decode cX2_depth 0 = .ok (.iconst 0, 1) := by decide +kernel
theorem dX2_depth_1 : decode cX2_depth 1 = .ok (.istore_n 2, 1) := by decide +kernel
theorem dX2_depth_2 : decode cX2_depth 2 = .ok (.aload_n 0, 1) := by decide +kernel
theorem dX2_depth_3 : decode cX2_depth 3 = .ok (.getfield 7, 3) := by decide +kernel
theorem dX2_depth_6 : decode cX2_depth 6 = .ok (.iload_n 1, 1) := by decide +kernel
theorem dX2_depth_7 : decode cX2_depth 7 = .ok (.iaload, 1) := by decide +kernel
theorem dX2_depth_8 : decode cX2_depth 8 = .ok (.istore_n 3, 1) := by decide +kernel
theorem dX2_depth_9 : decode cX2_depth 9 = .ok (.iload_n 3, 1) := by decide +kernel
theorem dX2_depth_10 : decode cX2_depth 10 = .ok (.ifCond .eq 60, 3) := by decide +kernel
theorem dX2_depth_13 : decode cX2_depth 13 = .ok (.iconst 0, 1) := by decide +kernel
theorem dX2_depth_14 : decode cX2_depth 14 = .ok (.istore 4, 2) := by decide +kernel
theorem dX2_depth_16 : decode cX2_depth 16 = .ok (.iconst 0, 1) := by decide +kernel
theorem dX2_depth_17 : decode cX2_depth 17 = .ok (.istore 5, 2) := by decide +kernel
theorem dX2_depth_19 : decode cX2_depth 19 = .ok (.iload 5, 2) := by decide +kernel
theorem dX2_depth_21 : decode cX2_depth 21 = .ok (.aload_n 0, 1) := by decide +kernel
theorem dX2_depth_22 : decode cX2_depth 22 = .ok (.getfield 51, 3) := by decide +kernel
theorem dX2_depth_25 : decode cX2_depth 25 = .ok (.if_icmp .ge 36, 3) := by decide +kernel
theorem dX2_depth_28 : decode cX2_depth 28 = .ok (.iload_n 3, 1) := by decide +kernel
theorem dX2_depth_29 : decode cX2_depth 29 = .ok (.iload 5, 2) := by decide +kernel
theorem dX2_depth_31 : decode cX2_depth 31 = .ok (.ishr, 1) := by decide +kernel
theorem dX2_depth_32 : decode cX2_depth 32 = .ok (.iconst 1, 1) := by decide +kernel
theorem dX2_depth_33 : decode cX2_depth 33 = .ok (.iand, 1) := by decide +kernel
theorem dX2_depth_34 : decode cX2_depth 34 = .ok (.iconst 1, 1) := by decide +kernel
theorem dX2_depth_35 : decode cX2_depth 35 = .ok (.if_icmp .ne 16, 3) := by decide +kernel
theorem dX2_depth_38 : decode cX2_depth 38 = .ok (.iload 4, 2) := by decide +kernel
theorem dX2_depth_40 : decode cX2_depth 40 = .ok (.aload_n 0, 1) := by decide +kernel
theorem dX2_depth_41 : decode cX2_depth 41 = .ok (.getfield 7, 3) := by decide +kernel
theorem dX2_depth_44 : decode cX2_depth 44 = .ok (.iload 5, 2) := by decide +kernel
theorem dX2_depth_46 : decode cX2_depth 46 = .ok (.iaload, 1) := by decide +kernel
theorem dX2_depth_47 : decode cX2_depth 47 = .ok (.ior, 1) := by decide +kernel
theorem dX2_depth_48 : decode cX2_depth 48 = .ok (.goto 5, 3) := by decide +kernel
theorem dX2_depth_51 : decode cX2_depth 51 = .ok (.iload 4, 2) := by decide +kernel
theorem dX2_depth_53 : decode cX2_depth 53 = .ok (.istore 4, 2) := by decide +kernel
theorem dX2_depth_55 : decode cX2_depth 55 = .ok (.iinc 5 1, 3) := by decide +kernel
theorem dX2_depth_58 : decode cX2_depth 58 = .ok (.goto (-39), 3) := by decide +kernel
theorem dX2_depth_61 : decode cX2_depth 61 = .ok (.iload 4, 2) := by decide +kernel
theorem dX2_depth_63 : decode cX2_depth 63 = .ok (.istore_n 3, 1) := by decide +kernel
theorem dX2_depth_64 : decode cX2_depth 64 = .ok (.iinc 2 1, 3) := by decide +kernel
theorem dX2_depth_67 : decode cX2_depth 67 = .ok (.goto (-58), 3) := by decide +kernel
theorem dX2_depth_70 : decode cX2_depth 70 = .ok (.iload_n 2, 1) := by decide +kernel
theorem dX2_depth_71 : decode cX2_depth 71 = .ok (.ireturn, 1) := by decide +kernel
set_option maxRecDepth 20000 in
theorem ggX2_earlier_X2_depth : GoodIn wsX2_earlier wsX2_depth := goodIn_r _ [5, 6, 7, 8, 9, 10, 11, 12, 13, 14, 15, 16, 17, 18, 19, 20, 21, 22, 23, 24, 25, 26, 27, 28, 29, 30, 31] (by decide +kernel) (by decide +kernel)
set_option maxRecDepth 20000 in
theorem gX2_earlier_X2_depth : GoodIn wsX2_earlier (wsV RX2 54 RX2 yX2_depth wsX2_depth) := goodIn_app (goodIn_of _ (by decide +kernel)) ggX2_earlier_X2_depth
theorem dX2_earlier_0 : decode cX2_earlier 0 = .ok (.aload_n 0, 1) := by decide +kernel
theorem dX2_earlier_1 : decode cX2_earlier 1 = .ok (.iload_n 1, 1) := by decide +kernel
theorem dX2_earlier_2 : decode cX2_earlier 2 = .ok (.invokevirtual 54, 3) := by decide +kernel
theorem dX2_earlier_5 : decode cX2_earlier 5 = .ok (.istore_n 3, 1) := by decide +kernel
theorem dX2_earlier_6 : decode cX2_earlier 6 = .ok (.aload_n 0, 1) := by decide +kernel
theorem dX2_earlier_7 : decode cX2_earlier 7 = .ok (.iload_n 2, 1) := by decide +kernel
theorem dX2_earlier_8 : decode cX2_earlier 8 = .ok (.invokevirtual 54, 3) := by decide +kernel
theorem dX2_earlier_11 : decode cX2_earlier 11 = .ok (.istore 4, 2) := by decide +kernel
theorem dX2_earlier_13 : decode cX2_earlier 13 = .ok (.iload_n 3, 1) := by decide +kernel
theorem dX2_earlier_14 : decode cX2_earlier 14 = .ok (.iload 4, 2) := by decide +kernel
theorem dX2_earlier_16 : decode cX2_earlier 16 = .ok (.if_icmp .eq 17, 3) := by decide +kernel
theorem dX2_earlier_19 : decode cX2_earlier 19 = .ok (.iload_n 3, 1) := by decide +kernel
theorem dX2_earlier_20 : decode cX2_earlier 20 = .ok (.iload 4, 2) := by decide +kernel
theorem dX2_earlier_22 : decode cX2_earlier 22 = .ok (.if_icmp .ge 7, 3) := by decide +kernel
theorem dX2_earlier_25 : decode cX2_earlier 25 = .ok (.iconst 1, 1) := by decide +kernel
theorem dX2_earlier_26 : decode cX2_earlier 26 = .ok (.goto 17, 3) := by decide +kernel
theorem dX2_earlier_29 : decode cX2_earlier 29 = .ok (.iconst 0, 1) := by decide +kernel
theorem dX2_earlier_30 : decode cX2_earlier 30 = .ok (.goto 13, 3) := by decide +kernel
theorem dX2_earlier_33 : decode cX2_earlier 33 = .ok (.iload_n 1, 1) := by decide +kernel
theorem dX2_earlier_34 : decode cX2_earlier 34 = .ok (.iload_n 2, 1) := by decide +kernel
theorem dX2_earlier_35 : decode cX2_earlier 35 = .ok (.if_icmp .ge 7, 3) := by decide +kernel
theorem dX2_earlier_38 : decode cX2_earlier 38 = .ok (.iconst 1, 1) := by decide +kernel
theorem dX2_earlier_39 : decode cX2_earlier 39 = .ok (.goto 4, 3) := by decide +kernel
theorem dX2_earlier_42 : decode cX2_earlier 42 = .ok (.iconst 0, 1) := by decide +kernel
theorem dX2_earlier_43 : decode cX2_earlier 43 = .ok (.ireturn, 1) := by decide +kernel
theorem dX2_line_0 : decode cX2_line 0 = .ok (.iconst 1, 1) := by decide +kernel
theorem dX2_line_1 : decode cX2_line 1 = .ok (.iload_n 1, 1) := by decide +kernel
theorem dX2_line_2 : decode cX2_line 2 = .ok (.ishl, 1) := by decide +kernel
theorem dX2_line_3 : decode cX2_line 3 = .ok (.istore_n 2, 1) := by decide +kernel
theorem dX2_line_4 : decode cX2_line 4 = .ok (.iload_n 1, 1) := by decide +kernel
theorem dX2_line_5 : decode cX2_line 5 = .ok (.istore_n 3, 1) := by decide +kernel
theorem dX2_line_6 : decode cX2_line 6 = .ok (.iload_n 3, 1) := by decide +kernel
theorem dX2_line_7 : decode cX2_line 7 = .ok (.ifCond .lt 31, 3) := by decide +kernel
theorem dX2_line_10 : decode cX2_line 10 = .ok (.iload_n 2, 1) := by decide +kernel
theorem dX2_line_11 : decode cX2_line 11 = .ok (.iload_n 3, 1) := by decide +kernel
theorem dX2_line_12 : decode cX2_line 12 = .ok (.ishr, 1) := by decide +kernel
theorem dX2_line_13 : decode cX2_line 13 = .ok (.iconst 1, 1) := by decide +kernel
theorem dX2_line_14 : decode cX2_line 14 = .ok (.iand, 1) := by decide +kernel
theorem dX2_line_15 : decode cX2_line 15 = .ok (.iconst 1, 1) := by decide +kernel
theorem dX2_line_16 : decode cX2_line 16 = .ok (.if_icmp .ne 14, 3) := by decide +kernel
theorem dX2_line_19 : decode cX2_line 19 = .ok (.iload_n 2, 1) := by decide +kernel
theorem dX2_line_20 : decode cX2_line 20 = .ok (.aload_n 0, 1) := by decide +kernel
theorem dX2_line_21 : decode cX2_line 21 = .ok (.getfield 7, 3) := by decide +kernel
theorem dX2_line_24 : decode cX2_line 24 = .ok (.iload_n 3, 1) := by decide +kernel
theorem dX2_line_25 : decode cX2_line 25 = .ok (.iaload, 1) := by decide +kernel
theorem dX2_line_26 : decode cX2_line 26 = .ok (.ior, 1) := by decide +kernel
theorem dX2_line_27 : decode cX2_line 27 = .ok (.goto 4, 3) := by decide +kernel
theorem dX2_line_30 : decode cX2_line 30 = .ok (.iload_n 2, 1) := by decide +kernel
theorem dX2_line_31 : decode cX2_line 31 = .ok (.istore_n 2, 1) := by decide +kernel
theorem dX2_line_32 : decode cX2_line 32 = .ok (.iinc 3 (-1), 3) := by decide +kernel
theorem dX2_line_35 : decode cX2_line 35 = .ok (.goto (-29), 3) := by decide +kernel
theorem dX2_line_38 : decode cX2_line 38 = .ok (.iload_n 2, 1) := by decide +kernel
theorem dX2_line_39 : decode cX2_line 39 = .ok (.ireturn, 1) := by decide +kernel
theorem dX2_rouse_0 : decode cX2_rouse 0 = .ok (.iconst 0, 1) := by decide +kernel
theorem dX2_rouse_1 : decode cX2_rouse 1 = .ok (.istore_n 2, 1) := by decide +kernel
theorem dX2_rouse_2 : decode cX2_rouse 2 = .ok (.iconst 0, 1) := by decide +kernel
theorem dX2_rouse_3 : decode cX2_rouse 3 = .ok (.istore_n 3, 1) := by decide +kernel
theorem dX2_rouse_4 : decode cX2_rouse 4 = .ok (.iload_n 3, 1) := by decide +kernel
theorem dX2_rouse_5 : decode cX2_rouse 5 = .ok (.aload_n 0, 1) := by decide +kernel
theorem dX2_rouse_6 : decode cX2_rouse 6 = .ok (.getfield 51, 3) := by decide +kernel
theorem dX2_rouse_9 : decode cX2_rouse 9 = .ok (.if_icmp .ge 50, 3) := by decide +kernel
theorem dX2_rouse_12 : decode cX2_rouse 12 = .ok (.iload_n 1, 1) := by decide +kernel
theorem dX2_rouse_13 : decode cX2_rouse 13 = .ok (.iload_n 3, 1) := by decide +kernel
theorem dX2_rouse_14 : decode cX2_rouse 14 = .ok (.ishr, 1) := by decide +kernel
theorem dX2_rouse_15 : decode cX2_rouse 15 = .ok (.iconst 1, 1) := by decide +kernel
theorem dX2_rouse_16 : decode cX2_rouse 16 = .ok (.iand, 1) := by decide +kernel
theorem dX2_rouse_17 : decode cX2_rouse 17 = .ok (.iconst 1, 1) := by decide +kernel
theorem dX2_rouse_18 : decode cX2_rouse 18 = .ok (.if_icmp .ne 35, 3) := by decide +kernel
theorem dX2_rouse_21 : decode cX2_rouse 21 = .ok (.aload_n 0, 1) := by decide +kernel
theorem dX2_rouse_22 : decode cX2_rouse 22 = .ok (.getfield 22, 3) := by decide +kernel
theorem dX2_rouse_25 : decode cX2_rouse 25 = .ok (.iload_n 3, 1) := by decide +kernel
theorem dX2_rouse_26 : decode cX2_rouse 26 = .ok (.iaload, 1) := by decide +kernel
theorem dX2_rouse_27 : decode cX2_rouse 27 = .ok (.iconst 2, 1) := by decide +kernel
theorem dX2_rouse_28 : decode cX2_rouse 28 = .ok (.if_icmp .ne 7, 3) := by decide +kernel
theorem dX2_rouse_31 : decode cX2_rouse 31 = .ok (.iload_n 2, 1) := by decide +kernel
theorem dX2_rouse_32 : decode cX2_rouse 32 = .ok (.goto 6, 3) := by decide +kernel
theorem dX2_rouse_35 : decode cX2_rouse 35 = .ok (.iload_n 2, 1) := by decide +kernel
theorem dX2_rouse_36 : decode cX2_rouse 36 = .ok (.iconst 1, 1) := by decide +kernel
theorem dX2_rouse_37 : decode cX2_rouse 37 = .ok (.iadd, 1) := by decide +kernel
theorem dX2_rouse_38 : decode cX2_rouse 38 = .ok (.istore_n 2, 1) := by decide +kernel
theorem dX2_rouse_39 : decode cX2_rouse 39 = .ok (.aload_n 0, 1) := by decide +kernel
theorem dX2_rouse_40 : decode cX2_rouse 40 = .ok (.getfield 22, 3) := by decide +kernel
theorem dX2_rouse_43 : decode cX2_rouse 43 = .ok (.iload_n 3, 1) := by decide +kernel
theorem dX2_rouse_44 : decode cX2_rouse 44 = .ok (.iconst 2, 1) := by decide +kernel
theorem dX2_rouse_45 : decode cX2_rouse 45 = .ok (.iastore, 1) := by decide +kernel
theorem dX2_rouse_46 : decode cX2_rouse 46 = .ok (.aload_n 0, 1) := by decide +kernel
theorem dX2_rouse_47 : decode cX2_rouse 47 = .ok (.getfield 31, 3) := by decide +kernel
theorem dX2_rouse_50 : decode cX2_rouse 50 = .ok (.iload_n 3, 1) := by decide +kernel
theorem dX2_rouse_51 : decode cX2_rouse 51 = .ok (.iconst 0, 1) := by decide +kernel
theorem dX2_rouse_52 : decode cX2_rouse 52 = .ok (.iastore, 1) := by decide +kernel
theorem dX2_rouse_53 : decode cX2_rouse 53 = .ok (.iinc 3 1, 3) := by decide +kernel
theorem dX2_rouse_56 : decode cX2_rouse 56 = .ok (.goto (-52), 3) := by decide +kernel
theorem dX2_rouse_59 : decode cX2_rouse 59 = .ok (.iload_n 2, 1) := by decide +kernel
theorem dX2_rouse_60 : decode cX2_rouse 60 = .ok (.ireturn, 1) := by decide +kernel
set_option maxRecDepth 20000 in
theorem ggX2_device_X2_line : GoodIn wsX2_device wsX2_line := goodIn_r _ [16, 3, 21, 22, 23, 24, 25, 26, 27, 28, 29, 30, 31, 32, 33, 34, 35, 36, 37, 38, 39, 40, 41, 42, 43, 44] (by decide +kernel) (by decide +kernel)
set_option maxRecDepth 20000 in
theorem gX2_device_X2_line : GoodIn wsX2_device (wsV RX2 61 RX2 yX2_line wsX2_line) := goodIn_app (goodIn_of _ (by decide +kernel)) ggX2_device_X2_line
set_option maxRecDepth 20000 in
theorem ggX2_device_X2_rouse : GoodIn wsX2_device wsX2_rouse := goodIn_r _ [20, 1, 7, 9, 21, 22, 23, 24, 25, 26, 27, 28, 29, 30, 31, 32, 33, 34, 35, 36, 37, 38, 39, 40, 41, 42, 43, 44] (by decide +kernel) (by decide +kernel)
set_option maxRecDepth 20000 in
theorem gX2_device_X2_rouse : GoodIn wsX2_device (wsV RX2 64 RX2 yX2_rouse wsX2_rouse) := goodIn_app (goodIn_of _ (by decide +kernel)) ggX2_device_X2_rouse
theorem dX2_device_0 : decode cX2_device 0 = .ok (.iload_n 1, 1) := by decide +kernel
theorem dX2_device_1 : decode cX2_device 1 = .ok (.ifCond .lt 46, 3) := by decide +kernel
theorem dX2_device_4 : decode cX2_device 4 = .ok (.iload_n 1, 1) := by decide +kernel
theorem dX2_device_5 : decode cX2_device 5 = .ok (.aload_n 0, 1) := by decide +kernel
theorem dX2_device_6 : decode cX2_device 6 = .ok (.getfield 51, 3) := by decide +kernel
theorem dX2_device_9 : decode cX2_device 9 = .ok (.ishr, 1) := by decide +kernel
theorem dX2_device_10 : decode cX2_device 10 = .ok (.ifCond .ne 37, 3) := by decide +kernel
theorem dX2_device_13 : decode cX2_device 13 = .ok (.iload_n 2, 1) := by decide +kernel
theorem dX2_device_14 : decode cX2_device 14 = .ok (.iconst 1, 1) := by decide +kernel
theorem dX2_device_15 : decode cX2_device 15 = .ok (.if_icmp .lt 32, 3) := by decide +kernel
theorem dX2_device_18 : decode cX2_device 18 = .ok (.iload_n 2, 1) := by decide +kernel
theorem dX2_device_19 : decode cX2_device 19 = .ok (.bipush 20, 2) := by decide +kernel
theorem dX2_device_21 : decode cX2_device 21 = .ok (.if_icmp .gt 26, 3) := by decide +kernel
theorem dX2_device_24 : decode cX2_device 24 = .ok (.iload_n 3, 1) := by decide +kernel
theorem dX2_device_25 : decode cX2_device 25 = .ok (.iconst 1, 1) := by decide +kernel
theorem dX2_device_26 : decode cX2_device 26 = .ok (.if_icmp .lt 21, 3) := by decide +kernel
theorem dX2_device_29 : decode cX2_device 29 = .ok (.iload_n 3, 1) := by decide +kernel
theorem dX2_device_30 : decode cX2_device 30 = .ok (.bipush 20, 2) := by decide +kernel
theorem dX2_device_32 : decode cX2_device 32 = .ok (.if_icmp .gt 15, 3) := by decide +kernel
theorem dX2_device_35 : decode cX2_device 35 = .ok (.iload 4, 2) := by decide +kernel
theorem dX2_device_37 : decode cX2_device 37 = .ok (.ifCond .lt 10, 3) := by decide +kernel
theorem dX2_device_40 : decode cX2_device 40 = .ok (.iload 4, 2) := by decide +kernel
theorem dX2_device_42 : decode cX2_device 42 = .ok (.bipush 50, 2) := by decide +kernel
theorem dX2_device_44 : decode cX2_device 44 = .ok (.if_icmp .le 6, 3) := by decide +kernel
theorem dX2_device_47 : decode cX2_device 47 = .ok (.bipush (-2), 2) := by decide +kernel
theorem dX2_device_49 : decode cX2_device 49 = .ok (.ireturn, 1) := by decide +kernel
theorem dX2_device_50 : decode cX2_device 50 = .ok (.aload_n 0, 1) := by decide +kernel
theorem dX2_device_51 : decode cX2_device 51 = .ok (.getfield 58, 3) := by decide +kernel
theorem dX2_device_54 : decode cX2_device 54 = .ok (.ifCond .eq 6, 3) := by decide +kernel
theorem dX2_device_57 : decode cX2_device 57 = .ok (.bipush (-3), 2) := by decide +kernel
theorem dX2_device_59 : decode cX2_device 59 = .ok (.ireturn, 1) := by decide +kernel
theorem dX2_device_60 : decode cX2_device 60 = .ok (.aload_n 0, 1) := by decide +kernel
theorem dX2_device_61 : decode cX2_device 61 = .ok (.getfield 51, 3) := by decide +kernel
theorem dX2_device_64 : decode cX2_device 64 = .ok (.bipush 12, 2) := by decide +kernel
theorem dX2_device_66 : decode cX2_device 66 = .ok (.if_icmp .ne 6, 3) := by decide +kernel
theorem dX2_device_69 : decode cX2_device 69 = .ok (.bipush (-4), 2) := by decide +kernel
theorem dX2_device_71 : decode cX2_device 71 = .ok (.ireturn, 1) := by decide +kernel
theorem dX2_device_72 : decode cX2_device 72 = .ok (.aload_n 0, 1) := by decide +kernel
theorem dX2_device_73 : decode cX2_device 73 = .ok (.getfield 7, 3) := by decide +kernel
theorem dX2_device_76 : decode cX2_device 76 = .ok (.aload_n 0, 1) := by decide +kernel
theorem dX2_device_77 : decode cX2_device 77 = .ok (.getfield 51, 3) := by decide +kernel
theorem dX2_device_80 : decode cX2_device 80 = .ok (.iload_n 1, 1) := by decide +kernel
theorem dX2_device_81 : decode cX2_device 81 = .ok (.iastore, 1) := by decide +kernel
theorem dX2_device_82 : decode cX2_device 82 = .ok (.aload_n 0, 1) := by decide +kernel
theorem dX2_device_83 : decode cX2_device 83 = .ok (.getfield 13, 3) := by decide +kernel
theorem dX2_device_86 : decode cX2_device 86 = .ok (.aload_n 0, 1) := by decide +kernel
theorem dX2_device_87 : decode cX2_device 87 = .ok (.getfield 51, 3) := by decide +kernel
theorem dX2_device_90 : decode cX2_device 90 = .ok (.iload_n 2, 1) := by decide +kernel
theorem dX2_device_91 : decode cX2_device 91 = .ok (.iastore, 1) := by decide +kernel
theorem dX2_device_92 : decode cX2_device 92 = .ok (.aload_n 0, 1) := by decide +kernel
theorem dX2_device_93 : decode cX2_device 93 = .ok (.getfield 16, 3) := by decide +kernel
theorem dX2_device_96 : decode cX2_device 96 = .ok (.aload_n 0, 1) := by decide +kernel
theorem dX2_device_97 : decode cX2_device 97 = .ok (.getfield 51, 3) := by decide +kernel
theorem dX2_device_100 : decode cX2_device 100 = .ok (.iload_n 3, 1) := by decide +kernel
theorem dX2_device_101 : decode cX2_device 101 = .ok (.iastore, 1) := by decide +kernel
theorem dX2_device_102 : decode cX2_device 102 = .ok (.aload_n 0, 1) := by decide +kernel
theorem dX2_device_103 : decode cX2_device 103 = .ok (.getfield 19, 3) := by decide +kernel
theorem dX2_device_106 : decode cX2_device 106 = .ok (.aload_n 0, 1) := by decide +kernel
theorem dX2_device_107 : decode cX2_device 107 = .ok (.getfield 51, 3) := by decide +kernel
theorem dX2_device_110 : decode cX2_device 110 = .ok (.iload 4, 2) := by decide +kernel
theorem dX2_device_112 : decode cX2_device 112 = .ok (.iastore, 1) := by decide +kernel
theorem dX2_device_113 : decode cX2_device 113 = .ok (.aload_n 0, 1) := by decide +kernel
theorem dX2_device_114 : decode cX2_device 114 = .ok (.getfield 22, 3) := by decide +kernel
theorem dX2_device_117 : decode cX2_device 117 = .ok (.aload_n 0, 1) := by decide +kernel
theorem dX2_device_118 : decode cX2_device 118 = .ok (.getfield 51, 3) := by decide +kernel
theorem dX2_device_121 : decode cX2_device 121 = .ok (.iconst 2, 1) := by decide +kernel
theorem dX2_device_122 : decode cX2_device 122 = .ok (.iastore, 1) := by decide +kernel
theorem dX2_device_123 : decode cX2_device 123 = .ok (.aload_n 0, 1) := by decide +kernel
theorem dX2_device_124 : decode cX2_device 124 = .ok (.getfield 28, 3) := by decide +kernel
theorem dX2_device_127 : decode cX2_device 127 = .ok (.aload_n 0, 1) := by decide +kernel
theorem dX2_device_128 : decode cX2_device 128 = .ok (.getfield 51, 3) := by decide +kernel
theorem dX2_device_131 : decode cX2_device 131 = .ok (.iconst 0, 1) := by decide +kernel
theorem dX2_device_132 : decode cX2_device 132 = .ok (.iastore, 1) := by decide +kernel
theorem dX2_device_133 : decode cX2_device 133 = .ok (.aload_n 0, 1) := by decide +kernel
theorem dX2_device_134 : decode cX2_device 134 = .ok (.getfield 31, 3) := by decide +kernel
theorem dX2_device_137 : decode cX2_device 137 = .ok (.aload_n 0, 1) := by decide +kernel
theorem dX2_device_138 : decode cX2_device 138 = .ok (.getfield 51, 3) := by decide +kernel
theorem dX2_device_141 : decode cX2_device 141 = .ok (.iconst 0, 1) := by decide +kernel
theorem dX2_device_142 : decode cX2_device 142 = .ok (.iastore, 1) := by decide +kernel
theorem dX2_device_143 : decode cX2_device 143 = .ok (.aload_n 0, 1) := by decide +kernel
theorem dX2_device_144 : decode cX2_device 144 = .ok (.getfield 34, 3) := by decide +kernel
theorem dX2_device_147 : decode cX2_device 147 = .ok (.aload_n 0, 1) := by decide +kernel
theorem dX2_device_148 : decode cX2_device 148 = .ok (.getfield 51, 3) := by decide +kernel
theorem dX2_device_151 : decode cX2_device 151 = .ok (.iconst 0, 1) := by decide +kernel
theorem dX2_device_152 : decode cX2_device 152 = .ok (.iastore, 1) := by decide +kernel
theorem dX2_device_153 : decode cX2_device 153 = .ok (.aload_n 0, 1) := by decide +kernel
theorem dX2_device_154 : decode cX2_device 154 = .ok (.getfield 37, 3) := by decide +kernel
theorem dX2_device_157 : decode cX2_device 157 = .ok (.aload_n 0, 1) := by decide +kernel
theorem dX2_device_158 : decode cX2_device 158 = .ok (.getfield 51, 3) := by decide +kernel
theorem dX2_device_161 : decode cX2_device 161 = .ok (.iconst 0, 1) := by decide +kernel
theorem dX2_device_162 : decode cX2_device 162 = .ok (.bastore, 1) := by decide +kernel
theorem dX2_device_163 : decode cX2_device 163 = .ok (.aload_n 0, 1) := by decide +kernel
theorem dX2_device_164 : decode cX2_device 164 = .ok (.dup, 1) := by decide +kernel
theorem dX2_device_165 : decode cX2_device 165 = .ok (.getfield 51, 3) := by decide +kernel
theorem dX2_device_168 : decode cX2_device 168 = .ok (.iconst 1, 1) := by decide +kernel
theorem dX2_device_169 : decode cX2_device 169 = .ok (.iadd, 1) := by decide +kernel
theorem dX2_device_170 : decode cX2_device 170 = .ok (.putfield 51, 3) := by decide +kernel
theorem dX2_device_173 : decode cX2_device 173 = .ok (.aload_n 0, 1) := by decide +kernel
theorem dX2_device_174 : decode cX2_device 174 = .ok (.aload_n 0, 1) := by decide +kernel
theorem dX2_device_175 : decode cX2_device 175 = .ok (.aload_n 0, 1) := by decide +kernel
theorem dX2_device_176 : decode cX2_device 176 = .ok (.getfield 51, 3) := by decide +kernel
theorem dX2_device_179 : decode cX2_device 179 = .ok (.iconst 1, 1) := by decide +kernel
theorem dX2_device_180 : decode cX2_device 180 = .ok (.isub, 1) := by decide +kernel
theorem dX2_device_181 : decode cX2_device 181 = .ok (.invokevirtual 61, 3) := by decide +kernel
theorem dX2_device_184 : decode cX2_device 184 = .ok (.invokevirtual 64, 3) := by decide +kernel
theorem dX2_device_187 : decode cX2_device 187 = .ok (.pop, 1) := by decide +kernel
theorem dX2_device_188 : decode cX2_device 188 = .ok (.aload_n 0, 1) := by decide +kernel
theorem dX2_device_189 : decode cX2_device 189 = .ok (.getfield 51, 3) := by decide +kernel
theorem dX2_device_192 : decode cX2_device 192 = .ok (.iconst 1, 1) := by decide +kernel
theorem dX2_device_193 : decode cX2_device 193 = .ok (.isub, 1) := by decide +kernel
theorem dX2_device_194 : decode cX2_device 194 = .ok (.ireturn, 1) := by decide +kernel
set_option maxRecDepth 20000 in
theorem ggX2_use_X2_none : GoodIn wsX2_use wsX2_none := goodIn_r _ [7, 8, 20, 21, 22, 23, 24, 25, 26, 27, 28, 29, 30, 31, 32, 33, 34, 35, 36, 37, 38, 39, 40, 41, 42, 43] (by decide +kernel) (by decide +kernel)
set_option maxRecDepth 20000 in
theorem gX2_use_X2_none : GoodIn wsX2_use (wsV RX2 67 RX2 yX2_none wsX2_none) := goodIn_app (goodIn_of _ (by decide +kernel)) ggX2_use_X2_none
set_option maxRecDepth 20000 in
theorem ggX2_use_X2_line : GoodIn wsX2_use wsX2_line := goodIn_r _ [12, 13, 20, 21, 22, 23, 24, 25, 26, 27, 28, 29, 30, 31, 32, 33, 34, 35, 36, 37, 38, 39, 40, 41, 42, 43] (by decide +kernel) (by decide +kernel)
set_option maxRecDepth 20000 in
theorem gX2_use_X2_line : GoodIn wsX2_use (wsV RX2 61 RX2 yX2_line wsX2_line) := goodIn_app (goodIn_of _ (by decide +kernel)) ggX2_use_X2_line
set_option maxRecDepth 20000 in
theorem ggX2_use_X2_rouse : GoodIn wsX2_use wsX2_rouse := goodIn_r _ [17, 8, 18, 19, 20, 21, 22, 23, 24, 25, 26, 27, 28, 29, 30, 31, 32, 33, 34, 35, 36, 37, 38, 39, 40, 41, 42, 43] (by decide +kernel) (by decide +kernel)
set_option maxRecDepth 20000 in
theorem gX2_use_X2_rouse : GoodIn wsX2_use (wsV RX2 64 RX2 yX2_rouse wsX2_rouse) := goodIn_app (goodIn_of _ (by decide +kernel)) ggX2_use_X2_rouse
theorem dX2_use_0 : decode cX2_use 0 = .ok (.aload_n 0, 1) := by decide +kernel
theorem dX2_use_1 : decode cX2_use 1 = .ok (.iload_n 1, 1) := by decide +kernel
theorem dX2_use_2 : decode cX2_use 2 = .ok (.invokevirtual 67, 3) := by decide +kernel
theorem dX2_use_5 : decode cX2_use 5 = .ok (.ifCond .eq 6, 3) := by decide +kernel
theorem dX2_use_8 : decode cX2_use 8 = .ok (.bipush (-2), 2) := by decide +kernel
theorem dX2_use_10 : decode cX2_use 10 = .ok (.ireturn, 1) := by decide +kernel
theorem dX2_use_11 : decode cX2_use 11 = .ok (.aload_n 0, 1) := by decide +kernel
theorem dX2_use_12 : decode cX2_use 12 = .ok (.getfield 58, 3) := by decide +kernel
theorem dX2_use_15 : decode cX2_use 15 = .ok (.ifCond .eq 6, 3) := by decide +kernel
theorem dX2_use_18 : decode cX2_use 18 = .ok (.bipush (-3), 2) := by decide +kernel
theorem dX2_use_20 : decode cX2_use 20 = .ok (.ireturn, 1) := by decide +kernel
theorem dX2_use_21 : decode cX2_use 21 = .ok (.aload_n 0, 1) := by decide +kernel
theorem dX2_use_22 : decode cX2_use 22 = .ok (.getfield 28, 3) := by decide +kernel
theorem dX2_use_25 : decode cX2_use 25 = .ok (.iload_n 1, 1) := by decide +kernel
theorem dX2_use_26 : decode cX2_use 26 = .ok (.dup2, 1) := by decide +kernel
theorem dX2_use_27 : decode cX2_use 27 = .ok (.iaload, 1) := by decide +kernel
theorem dX2_use_28 : decode cX2_use 28 = .ok (.iconst 1, 1) := by decide +kernel
theorem dX2_use_29 : decode cX2_use 29 = .ok (.iadd, 1) := by decide +kernel
theorem dX2_use_30 : decode cX2_use 30 = .ok (.iastore, 1) := by decide +kernel
theorem dX2_use_31 : decode cX2_use 31 = .ok (.aload_n 0, 1) := by decide +kernel
theorem dX2_use_32 : decode cX2_use 32 = .ok (.aload_n 0, 1) := by decide +kernel
theorem dX2_use_33 : decode cX2_use 33 = .ok (.iload_n 1, 1) := by decide +kernel
theorem dX2_use_34 : decode cX2_use 34 = .ok (.invokevirtual 61, 3) := by decide +kernel
theorem dX2_use_37 : decode cX2_use 37 = .ok (.invokevirtual 64, 3) := by decide +kernel
theorem dX2_use_40 : decode cX2_use 40 = .ok (.ireturn, 1) := by decide +kernel
set_option maxRecDepth 20000 in
theorem ggX2_release_X2_none : GoodIn wsX2_release wsX2_none := goodIn_r _ [7, 8, 9, 10, 11, 12, 13, 14, 15, 16, 17, 18, 19, 20, 21, 22, 23, 24, 25, 26, 27, 28, 29, 30, 31, 32] (by decide +kernel) (by decide +kernel)
set_option maxRecDepth 20000 in
theorem gX2_release_X2_none : GoodIn wsX2_release (wsV RX2 67 RX2 yX2_none wsX2_none) := goodIn_app (goodIn_of _ (by decide +kernel)) ggX2_release_X2_none
theorem dX2_release_0 : decode cX2_release 0 = .ok (.aload_n 0, 1) := by decide +kernel
theorem dX2_release_1 : decode cX2_release 1 = .ok (.iload_n 1, 1) := by decide +kernel
theorem dX2_release_2 : decode cX2_release 2 = .ok (.invokevirtual 67, 3) := by decide +kernel
theorem dX2_release_5 : decode cX2_release 5 = .ok (.ifCond .eq 6, 3) := by decide +kernel
theorem dX2_release_8 : decode cX2_release 8 = .ok (.bipush (-2), 2) := by decide +kernel
theorem dX2_release_10 : decode cX2_release 10 = .ok (.ireturn, 1) := by decide +kernel
theorem dX2_release_11 : decode cX2_release 11 = .ok (.aload_n 0, 1) := by decide +kernel
theorem dX2_release_12 : decode cX2_release 12 = .ok (.getfield 58, 3) := by decide +kernel
theorem dX2_release_15 : decode cX2_release 15 = .ok (.ifCond .eq 6, 3) := by decide +kernel
theorem dX2_release_18 : decode cX2_release 18 = .ok (.bipush (-3), 2) := by decide +kernel
theorem dX2_release_20 : decode cX2_release 20 = .ok (.ireturn, 1) := by decide +kernel
theorem dX2_release_21 : decode cX2_release 21 = .ok (.aload_n 0, 1) := by decide +kernel
theorem dX2_release_22 : decode cX2_release 22 = .ok (.getfield 28, 3) := by decide +kernel
theorem dX2_release_25 : decode cX2_release 25 = .ok (.iload_n 1, 1) := by decide +kernel
theorem dX2_release_26 : decode cX2_release 26 = .ok (.iaload, 1) := by decide +kernel
theorem dX2_release_27 : decode cX2_release 27 = .ok (.ifCond .ne 5, 3) := by decide +kernel
theorem dX2_release_30 : decode cX2_release 30 = .ok (.iconst (-1), 1) := by decide +kernel
theorem dX2_release_31 : decode cX2_release 31 = .ok (.ireturn, 1) := by decide +kernel
theorem dX2_release_32 : decode cX2_release 32 = .ok (.aload_n 0, 1) := by decide +kernel
theorem dX2_release_33 : decode cX2_release 33 = .ok (.getfield 28, 3) := by decide +kernel
theorem dX2_release_36 : decode cX2_release 36 = .ok (.iload_n 1, 1) := by decide +kernel
theorem dX2_release_37 : decode cX2_release 37 = .ok (.dup2, 1) := by decide +kernel
theorem dX2_release_38 : decode cX2_release 38 = .ok (.iaload, 1) := by decide +kernel
theorem dX2_release_39 : decode cX2_release 39 = .ok (.iconst 1, 1) := by decide +kernel
theorem dX2_release_40 : decode cX2_release 40 = .ok (.isub, 1) := by decide +kernel
theorem dX2_release_41 : decode cX2_release 41 = .ok (.iastore, 1) := by decide +kernel
theorem dX2_release_42 : decode cX2_release 42 = .ok (.aload_n 0, 1) := by decide +kernel
theorem dX2_release_43 : decode cX2_release 43 = .ok (.getfield 28, 3) := by decide +kernel
theorem dX2_release_46 : decode cX2_release 46 = .ok (.iload_n 1, 1) := by decide +kernel
theorem dX2_release_47 : decode cX2_release 47 = .ok (.iaload, 1) := by decide +kernel
theorem dX2_release_48 : decode cX2_release 48 = .ok (.ireturn, 1) := by decide +kernel
set_option maxRecDepth 20000 in
theorem ggX2_waker_X2_none : GoodIn wsX2_waker wsX2_none := goodIn_r _ [6, 7, 8, 9, 10, 11, 12, 13, 14, 15, 16, 17, 18, 19, 20, 21, 22, 23, 24, 25, 26, 27, 28, 29, 30, 31] (by decide +kernel) (by decide +kernel)
set_option maxRecDepth 20000 in
theorem gX2_waker_X2_none : GoodIn wsX2_waker (wsV RX2 67 RX2 yX2_none wsX2_none) := goodIn_app (goodIn_of _ (by decide +kernel)) ggX2_waker_X2_none
theorem dX2_waker_0 : decode cX2_waker 0 = .ok (.aload_n 0, 1) := by decide +kernel
theorem dX2_waker_1 : decode cX2_waker 1 = .ok (.iload_n 1, 1) := by decide +kernel
theorem dX2_waker_2 : decode cX2_waker 2 = .ok (.invokevirtual 67, 3) := by decide +kernel
theorem dX2_waker_5 : decode cX2_waker 5 = .ok (.ifCond .eq 5, 3) := by decide +kernel
theorem dX2_waker_8 : decode cX2_waker 8 = .ok (.iconst 0, 1) := by decide +kernel
theorem dX2_waker_9 : decode cX2_waker 9 = .ok (.ireturn, 1) := by decide +kernel
theorem dX2_waker_10 : decode cX2_waker 10 = .ok (.aload_n 0, 1) := by decide +kernel
theorem dX2_waker_11 : decode cX2_waker 11 = .ok (.getfield 37, 3) := by decide +kernel
theorem dX2_waker_14 : decode cX2_waker 14 = .ok (.iload_n 1, 1) := by decide +kernel
theorem dX2_waker_15 : decode cX2_waker 15 = .ok (.iload_n 2, 1) := by decide +kernel
theorem dX2_waker_16 : decode cX2_waker 16 = .ok (.bastore, 1) := by decide +kernel
theorem dX2_waker_17 : decode cX2_waker 17 = .ok (.iconst 1, 1) := by decide +kernel
theorem dX2_waker_18 : decode cX2_waker 18 = .ok (.ireturn, 1) := by decide +kernel
set_option maxRecDepth 20000 in
theorem ggX2_refuse_X2_none : GoodIn wsX2_refuse wsX2_none := goodIn_r _ [6, 7, 8, 9, 10, 11, 12, 13, 14, 15, 16, 17, 18, 19, 20, 21, 22, 23, 24, 25, 26, 27, 28, 29, 30, 31] (by decide +kernel) (by decide +kernel)
set_option maxRecDepth 20000 in
theorem gX2_refuse_X2_none : GoodIn wsX2_refuse (wsV RX2 67 RX2 yX2_none wsX2_none) := goodIn_app (goodIn_of _ (by decide +kernel)) ggX2_refuse_X2_none
theorem dX2_refuse_0 : decode cX2_refuse 0 = .ok (.aload_n 0, 1) := by decide +kernel
theorem dX2_refuse_1 : decode cX2_refuse 1 = .ok (.iload_n 1, 1) := by decide +kernel
theorem dX2_refuse_2 : decode cX2_refuse 2 = .ok (.invokevirtual 67, 3) := by decide +kernel
theorem dX2_refuse_5 : decode cX2_refuse 5 = .ok (.ifCond .ne 13, 3) := by decide +kernel
theorem dX2_refuse_8 : decode cX2_refuse 8 = .ok (.iload_n 2, 1) := by decide +kernel
theorem dX2_refuse_9 : decode cX2_refuse 9 = .ok (.ifCond .lt 9, 3) := by decide +kernel
theorem dX2_refuse_12 : decode cX2_refuse 12 = .ok (.iload_n 2, 1) := by decide +kernel
theorem dX2_refuse_13 : decode cX2_refuse 13 = .ok (.bipush 9, 2) := by decide +kernel
theorem dX2_refuse_15 : decode cX2_refuse 15 = .ok (.if_icmp .le 5, 3) := by decide +kernel
theorem dX2_refuse_18 : decode cX2_refuse 18 = .ok (.iconst 0, 1) := by decide +kernel
theorem dX2_refuse_19 : decode cX2_refuse 19 = .ok (.ireturn, 1) := by decide +kernel
theorem dX2_refuse_20 : decode cX2_refuse 20 = .ok (.aload_n 0, 1) := by decide +kernel
theorem dX2_refuse_21 : decode cX2_refuse 21 = .ok (.getfield 34, 3) := by decide +kernel
theorem dX2_refuse_24 : decode cX2_refuse 24 = .ok (.iload_n 1, 1) := by decide +kernel
theorem dX2_refuse_25 : decode cX2_refuse 25 = .ok (.iload_n 2, 1) := by decide +kernel
theorem dX2_refuse_26 : decode cX2_refuse 26 = .ok (.iastore, 1) := by decide +kernel
theorem dX2_refuse_27 : decode cX2_refuse 27 = .ok (.iconst 1, 1) := by decide +kernel
theorem dX2_refuse_28 : decode cX2_refuse 28 = .ok (.ireturn, 1) := by decide +kernel
theorem dX2_become_0 : decode cX2_become 0 = .ok (.aload_n 0, 1) := by decide +kernel
theorem dX2_become_1 : decode cX2_become 1 = .ok (.getfield 22, 3) := by decide +kernel
theorem dX2_become_4 : decode cX2_become 4 = .ok (.iload_n 1, 1) := by decide +kernel
theorem dX2_become_5 : decode cX2_become 5 = .ok (.iload_n 2, 1) := by decide +kernel
theorem dX2_become_6 : decode cX2_become 6 = .ok (.iastore, 1) := by decide +kernel
theorem dX2_become_7 : decode cX2_become 7 = .ok (.aload_n 0, 1) := by decide +kernel
theorem dX2_become_8 : decode cX2_become 8 = .ok (.dup, 1) := by decide +kernel
theorem dX2_become_9 : decode cX2_become 9 = .ok (.getfield 71, 3) := by decide +kernel
theorem dX2_become_12 : decode cX2_become 12 = .ok (.iconst 1, 1) := by decide +kernel
theorem dX2_become_13 : decode cX2_become 13 = .ok (.iadd, 1) := by decide +kernel
theorem dX2_become_14 : decode cX2_become 14 = .ok (.putfield 71, 3) := by decide +kernel
theorem dX2_become_17 : decode cX2_become 17 = .ok (.return_, 1) := by decide +kernel
set_option maxRecDepth 20000 in
theorem ggX2_lastAwake_X2_earlier : GoodIn wsX2_lastAwake wsX2_earlier := goodIn_r _ [7, 8, 9, 10, 6, 11, 12, 1, 13, 14, 15, 16, 17, 18, 19, 20, 21, 22, 23, 24, 25, 26, 27, 28, 29, 30, 31, 32, 33, 34, 35, 36] (by decide +kernel) (by decide +kernel)
set_option maxRecDepth 20000 in
theorem gX2_lastAwake_X2_earlier : GoodIn wsX2_lastAwake (wsV RX2 74 RX2 yX2_earlier wsX2_earlier) := goodIn_app (goodIn_of _ (by decide +kernel)) ggX2_lastAwake_X2_earlier
theorem dX2_lastAwake_0 : decode cX2_lastAwake 0 = .ok (.iconst (-1), 1) := by decide +kernel
theorem dX2_lastAwake_1 : decode cX2_lastAwake 1 = .ok (.istore_n 1, 1) := by decide +kernel
theorem dX2_lastAwake_2 : decode cX2_lastAwake 2 = .ok (.iconst 0, 1) := by decide +kernel
theorem dX2_lastAwake_3 : decode cX2_lastAwake 3 = .ok (.istore_n 2, 1) := by decide +kernel
theorem dX2_lastAwake_4 : decode cX2_lastAwake 4 = .ok (.iload_n 2, 1) := by decide +kernel
theorem dX2_lastAwake_5 : decode cX2_lastAwake 5 = .ok (.aload_n 0, 1) := by decide +kernel
theorem dX2_lastAwake_6 : decode cX2_lastAwake 6 = .ok (.getfield 51, 3) := by decide +kernel
theorem dX2_lastAwake_9 : decode cX2_lastAwake 9 = .ok (.if_icmp .ge 33, 3) := by decide +kernel
theorem dX2_lastAwake_12 : decode cX2_lastAwake 12 = .ok (.aload_n 0, 1) := by decide +kernel
theorem dX2_lastAwake_13 : decode cX2_lastAwake 13 = .ok (.getfield 22, 3) := by decide +kernel
theorem dX2_lastAwake_16 : decode cX2_lastAwake 16 = .ok (.iload_n 2, 1) := by decide +kernel
theorem dX2_lastAwake_17 : decode cX2_lastAwake 17 = .ok (.iaload, 1) := by decide +kernel
theorem dX2_lastAwake_18 : decode cX2_lastAwake 18 = .ok (.ifCond .eq 18, 3) := by decide +kernel
theorem dX2_lastAwake_21 : decode cX2_lastAwake 21 = .ok (.iload_n 1, 1) := by decide +kernel
theorem dX2_lastAwake_22 : decode cX2_lastAwake 22 = .ok (.ifCond .lt 12, 3) := by decide +kernel
theorem dX2_lastAwake_25 : decode cX2_lastAwake 25 = .ok (.aload_n 0, 1) := by decide +kernel
theorem dX2_lastAwake_26 : decode cX2_lastAwake 26 = .ok (.iload_n 1, 1) := by decide +kernel
theorem dX2_lastAwake_27 : decode cX2_lastAwake 27 = .ok (.iload_n 2, 1) := by decide +kernel
theorem dX2_lastAwake_28 : decode cX2_lastAwake 28 = .ok (.invokevirtual 74, 3) := by decide +kernel
theorem dX2_lastAwake_31 : decode cX2_lastAwake 31 = .ok (.ifCond .eq 5, 3) := by decide +kernel
theorem dX2_lastAwake_34 : decode cX2_lastAwake 34 = .ok (.iload_n 2, 1) := by decide +kernel
theorem dX2_lastAwake_35 : decode cX2_lastAwake 35 = .ok (.istore_n 1, 1) := by decide +kernel
theorem dX2_lastAwake_36 : decode cX2_lastAwake 36 = .ok (.iinc 2 1, 3) := by decide +kernel
theorem dX2_lastAwake_39 : decode cX2_lastAwake 39 = .ok (.goto (-35), 3) := by decide +kernel
theorem dX2_lastAwake_42 : decode cX2_lastAwake 42 = .ok (.iload_n 1, 1) := by decide +kernel
theorem dX2_lastAwake_43 : decode cX2_lastAwake 43 = .ok (.ireturn, 1) := by decide +kernel
set_option maxRecDepth 20000 in
theorem ggX2_firstOff_X2_earlier : GoodIn wsX2_firstOff wsX2_earlier := goodIn_r _ [7, 8, 9, 10, 6, 11, 12, 1, 13, 14, 15, 16, 17, 18, 19, 20, 21, 22, 23, 24, 25, 26, 27, 28, 29, 30, 31, 32, 33, 34, 35, 36] (by decide +kernel) (by decide +kernel)
set_option maxRecDepth 20000 in
theorem gX2_firstOff_X2_earlier : GoodIn wsX2_firstOff (wsV RX2 74 RX2 yX2_earlier wsX2_earlier) := goodIn_app (goodIn_of _ (by decide +kernel)) ggX2_firstOff_X2_earlier
theorem dX2_firstOff_0 : decode cX2_firstOff 0 = .ok (.iconst (-1), 1) := by decide +kernel
theorem dX2_firstOff_1 : decode cX2_firstOff 1 = .ok (.istore_n 1, 1) := by decide +kernel
theorem dX2_firstOff_2 : decode cX2_firstOff 2 = .ok (.iconst 0, 1) := by decide +kernel
theorem dX2_firstOff_3 : decode cX2_firstOff 3 = .ok (.istore_n 2, 1) := by decide +kernel
theorem dX2_firstOff_4 : decode cX2_firstOff 4 = .ok (.iload_n 2, 1) := by decide +kernel
theorem dX2_firstOff_5 : decode cX2_firstOff 5 = .ok (.aload_n 0, 1) := by decide +kernel
theorem dX2_firstOff_6 : decode cX2_firstOff 6 = .ok (.getfield 51, 3) := by decide +kernel
theorem dX2_firstOff_9 : decode cX2_firstOff 9 = .ok (.if_icmp .ge 33, 3) := by decide +kernel
theorem dX2_firstOff_12 : decode cX2_firstOff 12 = .ok (.aload_n 0, 1) := by decide +kernel
theorem dX2_firstOff_13 : decode cX2_firstOff 13 = .ok (.getfield 22, 3) := by decide +kernel
theorem dX2_firstOff_16 : decode cX2_firstOff 16 = .ok (.iload_n 2, 1) := by decide +kernel
theorem dX2_firstOff_17 : decode cX2_firstOff 17 = .ok (.iaload, 1) := by decide +kernel
theorem dX2_firstOff_18 : decode cX2_firstOff 18 = .ok (.ifCond .ne 18, 3) := by decide +kernel
theorem dX2_firstOff_21 : decode cX2_firstOff 21 = .ok (.iload_n 1, 1) := by decide +kernel
theorem dX2_firstOff_22 : decode cX2_firstOff 22 = .ok (.ifCond .lt 12, 3) := by decide +kernel
theorem dX2_firstOff_25 : decode cX2_firstOff 25 = .ok (.aload_n 0, 1) := by decide +kernel
theorem dX2_firstOff_26 : decode cX2_firstOff 26 = .ok (.iload_n 2, 1) := by decide +kernel
theorem dX2_firstOff_27 : decode cX2_firstOff 27 = .ok (.iload_n 1, 1) := by decide +kernel
theorem dX2_firstOff_28 : decode cX2_firstOff 28 = .ok (.invokevirtual 74, 3) := by decide +kernel
theorem dX2_firstOff_31 : decode cX2_firstOff 31 = .ok (.ifCond .eq 5, 3) := by decide +kernel
theorem dX2_firstOff_34 : decode cX2_firstOff 34 = .ok (.iload_n 2, 1) := by decide +kernel
theorem dX2_firstOff_35 : decode cX2_firstOff 35 = .ok (.istore_n 1, 1) := by decide +kernel
theorem dX2_firstOff_36 : decode cX2_firstOff 36 = .ok (.iinc 2 1, 3) := by decide +kernel
theorem dX2_firstOff_39 : decode cX2_firstOff 39 = .ok (.goto (-35), 3) := by decide +kernel
theorem dX2_firstOff_42 : decode cX2_firstOff 42 = .ok (.iload_n 1, 1) := by decide +kernel
theorem dX2_firstOff_43 : decode cX2_firstOff 43 = .ok (.ireturn, 1) := by decide +kernel
set_option maxRecDepth 20000 in
theorem ggX2_sink_X2_lastAwake : GoodIn wsX2_sink wsX2_lastAwake := goodIn_r _ [11, 12, 3, 13, 14, 15, 10, 16, 17, 18, 19, 20, 21, 27, 28, 29, 30, 31, 32, 33, 34, 35, 36, 37, 38, 39, 40, 41, 42, 43, 44, 45, 46, 47, 48, 49, 50] (by decide +kernel) (by decide +kernel)
set_option maxRecDepth 20000 in
theorem gX2_sink_X2_lastAwake : GoodIn wsX2_sink (wsV RX2 78 RX2 yX2_lastAwake wsX2_lastAwake) := goodIn_app (goodIn_of _ (by decide +kernel)) ggX2_sink_X2_lastAwake
set_option maxRecDepth 20000 in
theorem ggX2_sink_X2_become : GoodIn wsX2_sink wsX2_become := goodIn_r _ [25, 3, 26, 27, 28, 29, 30, 31, 32, 33, 34, 35, 36, 37, 38, 39, 40, 41, 42, 43, 44, 45, 46, 47, 48, 49, 50] (by decide +kernel) (by decide +kernel)
set_option maxRecDepth 20000 in
theorem gX2_sink_X2_become : GoodIn wsX2_sink (wsV RX2 85 RX2 yX2_become wsX2_become) := goodIn_app (goodIn_of _ (by decide +kernel)) ggX2_sink_X2_become
theorem dX2_sink_0 : decode cX2_sink 0 = .ok (.aload_n 0, 1) := by decide +kernel
theorem dX2_sink_1 : decode cX2_sink 1 = .ok (.invokevirtual 78, 3) := by decide +kernel
theorem dX2_sink_4 : decode cX2_sink 4 = .ok (.istore_n 1, 1) := by decide +kernel
theorem dX2_sink_5 : decode cX2_sink 5 = .ok (.iload_n 1, 1) := by decide +kernel
theorem dX2_sink_6 : decode cX2_sink 6 = .ok (.ifCond .ge 21, 3) := by decide +kernel
theorem dX2_sink_9 : decode cX2_sink 9 = .ok (.aload_n 0, 1) := by decide +kernel
theorem dX2_sink_10 : decode cX2_sink 10 = .ok (.iconst 2, 1) := by decide +kernel
theorem dX2_sink_11 : decode cX2_sink 11 = .ok (.putfield 58, 3) := by decide +kernel
theorem dX2_sink_14 : decode cX2_sink 14 = .ok (.aload_n 0, 1) := by decide +kernel
theorem dX2_sink_15 : decode cX2_sink 15 = .ok (.dup, 1) := by decide +kernel
theorem dX2_sink_16 : decode cX2_sink 16 = .ok (.getfield 82, 3) := by decide +kernel
theorem dX2_sink_19 : decode cX2_sink 19 = .ok (.iconst 1, 1) := by decide +kernel
theorem dX2_sink_20 : decode cX2_sink 20 = .ok (.iadd, 1) := by decide +kernel
theorem dX2_sink_21 : decode cX2_sink 21 = .ok (.putfield 82, 3) := by decide +kernel
theorem dX2_sink_24 : decode cX2_sink 24 = .ok (.goto 37, 3) := by decide +kernel
theorem dX2_sink_27 : decode cX2_sink 27 = .ok (.aload_n 0, 1) := by decide +kernel
theorem dX2_sink_28 : decode cX2_sink 28 = .ok (.getfield 22, 3) := by decide +kernel
theorem dX2_sink_31 : decode cX2_sink 31 = .ok (.iload_n 1, 1) := by decide +kernel
theorem dX2_sink_32 : decode cX2_sink 32 = .ok (.iaload, 1) := by decide +kernel
theorem dX2_sink_33 : decode cX2_sink 33 = .ok (.iconst 1, 1) := by decide +kernel
theorem dX2_sink_34 : decode cX2_sink 34 = .ok (.if_icmp .ne 12, 3) := by decide +kernel
theorem dX2_sink_37 : decode cX2_sink 37 = .ok (.aload_n 0, 1) := by decide +kernel
theorem dX2_sink_38 : decode cX2_sink 38 = .ok (.iload_n 1, 1) := by decide +kernel
theorem dX2_sink_39 : decode cX2_sink 39 = .ok (.iconst 0, 1) := by decide +kernel
theorem dX2_sink_40 : decode cX2_sink 40 = .ok (.invokevirtual 85, 3) := by decide +kernel
theorem dX2_sink_43 : decode cX2_sink 43 = .ok (.goto 18, 3) := by decide +kernel
theorem dX2_sink_46 : decode cX2_sink 46 = .ok (.aload_n 0, 1) := by decide +kernel
theorem dX2_sink_47 : decode cX2_sink 47 = .ok (.iload_n 1, 1) := by decide +kernel
theorem dX2_sink_48 : decode cX2_sink 48 = .ok (.putfield 44, 3) := by decide +kernel
theorem dX2_sink_51 : decode cX2_sink 51 = .ok (.aload_n 0, 1) := by decide +kernel
theorem dX2_sink_52 : decode cX2_sink 52 = .ok (.aload_n 0, 1) := by decide +kernel
theorem dX2_sink_53 : decode cX2_sink 53 = .ok (.getfield 13, 3) := by decide +kernel
theorem dX2_sink_56 : decode cX2_sink 56 = .ok (.iload_n 1, 1) := by decide +kernel
theorem dX2_sink_57 : decode cX2_sink 57 = .ok (.iaload, 1) := by decide +kernel
theorem dX2_sink_58 : decode cX2_sink 58 = .ok (.putfield 89, 3) := by decide +kernel
theorem dX2_sink_61 : decode cX2_sink 61 = .ok (.return_, 1) := by decide +kernel
set_option maxRecDepth 20000 in
theorem ggX2_rise_X2_firstOff : GoodIn wsX2_rise wsX2_firstOff := goodIn_r _ [10, 11, 12, 13, 14, 15, 9, 16, 17, 18, 19, 20, 21, 27, 28, 29, 30, 31, 32, 33, 34, 35, 36, 37, 38, 39, 40, 41, 42, 43, 44, 45, 46, 47, 48, 49, 50] (by decide +kernel) (by decide +kernel)
set_option maxRecDepth 20000 in
theorem gX2_rise_X2_firstOff : GoodIn wsX2_rise (wsV RX2 92 RX2 yX2_firstOff wsX2_firstOff) := goodIn_app (goodIn_of _ (by decide +kernel)) ggX2_rise_X2_firstOff
set_option maxRecDepth 20000 in
theorem ggX2_rise_X2_become : GoodIn wsX2_rise wsX2_become := goodIn_r _ [25, 12, 26, 27, 28, 29, 30, 31, 32, 33, 34, 35, 36, 37, 38, 39, 40, 41, 42, 43, 44, 45, 46, 47, 48, 49, 50] (by decide +kernel) (by decide +kernel)
set_option maxRecDepth 20000 in
theorem gX2_rise_X2_become : GoodIn wsX2_rise (wsV RX2 85 RX2 yX2_become wsX2_become) := goodIn_app (goodIn_of _ (by decide +kernel)) ggX2_rise_X2_become
theorem dX2_rise_0 : decode cX2_rise 0 = .ok (.aload_n 0, 1) := by decide +kernel
theorem dX2_rise_1 : decode cX2_rise 1 = .ok (.invokevirtual 92, 3) := by decide +kernel
theorem dX2_rise_4 : decode cX2_rise 4 = .ok (.istore_n 1, 1) := by decide +kernel
theorem dX2_rise_5 : decode cX2_rise 5 = .ok (.iload_n 1, 1) := by decide +kernel
theorem dX2_rise_6 : decode cX2_rise 6 = .ok (.ifCond .ge 11, 3) := by decide +kernel
theorem dX2_rise_9 : decode cX2_rise 9 = .ok (.aload_n 0, 1) := by decide +kernel
theorem dX2_rise_10 : decode cX2_rise 10 = .ok (.iconst 0, 1) := by decide +kernel
theorem dX2_rise_11 : decode cX2_rise 11 = .ok (.putfield 58, 3) := by decide +kernel
theorem dX2_rise_14 : decode cX2_rise 14 = .ok (.goto 37, 3) := by decide +kernel
theorem dX2_rise_17 : decode cX2_rise 17 = .ok (.aload_n 0, 1) := by decide +kernel
theorem dX2_rise_18 : decode cX2_rise 18 = .ok (.getfield 25, 3) := by decide +kernel
theorem dX2_rise_21 : decode cX2_rise 21 = .ok (.iload_n 1, 1) := by decide +kernel
theorem dX2_rise_22 : decode cX2_rise 22 = .ok (.iaload, 1) := by decide +kernel
theorem dX2_rise_23 : decode cX2_rise 23 = .ok (.iconst 1, 1) := by decide +kernel
theorem dX2_rise_24 : decode cX2_rise 24 = .ok (.if_icmp .ne 12, 3) := by decide +kernel
theorem dX2_rise_27 : decode cX2_rise 27 = .ok (.aload_n 0, 1) := by decide +kernel
theorem dX2_rise_28 : decode cX2_rise 28 = .ok (.iload_n 1, 1) := by decide +kernel
theorem dX2_rise_29 : decode cX2_rise 29 = .ok (.iconst 1, 1) := by decide +kernel
theorem dX2_rise_30 : decode cX2_rise 30 = .ok (.invokevirtual 85, 3) := by decide +kernel
theorem dX2_rise_33 : decode cX2_rise 33 = .ok (.goto 18, 3) := by decide +kernel
theorem dX2_rise_36 : decode cX2_rise 36 = .ok (.aload_n 0, 1) := by decide +kernel
theorem dX2_rise_37 : decode cX2_rise 37 = .ok (.iload_n 1, 1) := by decide +kernel
theorem dX2_rise_38 : decode cX2_rise 38 = .ok (.putfield 44, 3) := by decide +kernel
theorem dX2_rise_41 : decode cX2_rise 41 = .ok (.aload_n 0, 1) := by decide +kernel
theorem dX2_rise_42 : decode cX2_rise 42 = .ok (.aload_n 0, 1) := by decide +kernel
theorem dX2_rise_43 : decode cX2_rise 43 = .ok (.getfield 16, 3) := by decide +kernel
theorem dX2_rise_46 : decode cX2_rise 46 = .ok (.iload_n 1, 1) := by decide +kernel
theorem dX2_rise_47 : decode cX2_rise 47 = .ok (.iaload, 1) := by decide +kernel
theorem dX2_rise_48 : decode cX2_rise 48 = .ok (.putfield 89, 3) := by decide +kernel
theorem dX2_rise_51 : decode cX2_rise 51 = .ok (.return_, 1) := by decide +kernel
set_option maxRecDepth 20000 in
theorem ggX2_follow_X2_sink : GoodIn wsX2_follow wsX2_sink := goodIn_r _ [7, 2, 8, 9, 1, 10, 11, 12, 13, 14, 6, 15, 16, 17, 18, 19, 20, 21, 22, 23, 24, 25, 26, 27, 28, 29, 30, 41, 42, 43, 44, 45, 46, 47, 48, 49, 50, 51, 52, 53, 54, 55, 56, 57, 58, 59, 60, 61, 62, 63, 64] (by decide +kernel) (by decide +kernel)
set_option maxRecDepth 20000 in
theorem gX2_follow_X2_sink : GoodIn wsX2_follow (wsV RX2 95 RX2 yX2_sink wsX2_sink) := goodIn_app (goodIn_of _ (by decide +kernel)) ggX2_follow_X2_sink
set_option maxRecDepth 20000 in
theorem ggX2_follow_X2_rise : GoodIn wsX2_follow wsX2_rise := goodIn_r _ [34, 2, 35, 1, 36, 11, 37, 38, 39, 6, 40, 16, 9, 17, 18, 19, 20, 21, 22, 23, 24, 25, 26, 27, 28, 29, 30, 41, 42, 43, 44, 45, 46, 47, 48, 49, 50, 51, 52, 53, 54, 55, 56, 57, 58, 59, 60, 61, 62, 63, 64] (by decide +kernel) (by decide +kernel)
set_option maxRecDepth 20000 in
theorem gX2_follow_X2_rise : GoodIn wsX2_follow (wsV RX2 98 RX2 yX2_rise wsX2_rise) := goodIn_app (goodIn_of _ (by decide +kernel)) ggX2_follow_X2_rise
theorem dX2_follow_0 : decode cX2_follow 0 = .ok (.iconst 0, 1) := by decide +kernel
theorem dX2_follow_1 : decode cX2_follow 1 = .ok (.istore_n 1, 1) := by decide +kernel
theorem dX2_follow_2 : decode cX2_follow 2 = .ok (.iload_n 1, 1) := by decide +kernel
theorem dX2_follow_3 : decode cX2_follow 3 = .ok (.bipush 40, 2) := by decide +kernel
theorem dX2_follow_5 : decode cX2_follow 5 = .ok (.if_icmp .ge 51, 3) := by decide +kernel
theorem dX2_follow_8 : decode cX2_follow 8 = .ok (.aload_n 0, 1) := by decide +kernel
theorem dX2_follow_9 : decode cX2_follow 9 = .ok (.getfield 44, 3) := by decide +kernel
theorem dX2_follow_12 : decode cX2_follow 12 = .ok (.ifCond .ge 44, 3) := by decide +kernel
theorem dX2_follow_15 : decode cX2_follow 15 = .ok (.aload_n 0, 1) := by decide +kernel
theorem dX2_follow_16 : decode cX2_follow 16 = .ok (.getfield 58, 3) := by decide +kernel
theorem dX2_follow_19 : decode cX2_follow 19 = .ok (.iconst 1, 1) := by decide +kernel
theorem dX2_follow_20 : decode cX2_follow 20 = .ok (.if_icmp .eq 11, 3) := by decide +kernel
theorem dX2_follow_23 : decode cX2_follow 23 = .ok (.aload_n 0, 1) := by decide +kernel
theorem dX2_follow_24 : decode cX2_follow 24 = .ok (.getfield 58, 3) := by decide +kernel
theorem dX2_follow_27 : decode cX2_follow 27 = .ok (.iconst 2, 1) := by decide +kernel
theorem dX2_follow_28 : decode cX2_follow 28 = .ok (.if_icmp .le 28, 3) := by decide +kernel
theorem dX2_follow_31 : decode cX2_follow 31 = .ok (.aload_n 0, 1) := by decide +kernel
theorem dX2_follow_32 : decode cX2_follow 32 = .ok (.getfield 58, 3) := by decide +kernel
theorem dX2_follow_35 : decode cX2_follow 35 = .ok (.iconst 1, 1) := by decide +kernel
theorem dX2_follow_36 : decode cX2_follow 36 = .ok (.if_icmp .ne 10, 3) := by decide +kernel
theorem dX2_follow_39 : decode cX2_follow 39 = .ok (.aload_n 0, 1) := by decide +kernel
theorem dX2_follow_40 : decode cX2_follow 40 = .ok (.invokevirtual 95, 3) := by decide +kernel
theorem dX2_follow_43 : decode cX2_follow 43 = .ok (.goto 7, 3) := by decide +kernel
theorem dX2_follow_46 : decode cX2_follow 46 = .ok (.aload_n 0, 1) := by decide +kernel
theorem dX2_follow_47 : decode cX2_follow 47 = .ok (.invokevirtual 98, 3) := by decide +kernel
theorem dX2_follow_50 : decode cX2_follow 50 = .ok (.iinc 1 1, 3) := by decide +kernel
theorem dX2_follow_53 : decode cX2_follow 53 = .ok (.goto (-51), 3) := by decide +kernel
theorem dX2_follow_56 : decode cX2_follow 56 = .ok (.return_, 1) := by decide +kernel
theorem dX2_giveUp_0 : decode cX2_giveUp 0 = .ok (.aload_n 0, 1) := by decide +kernel
theorem dX2_giveUp_1 : decode cX2_giveUp 1 = .ok (.iconst 4, 1) := by decide +kernel
theorem dX2_giveUp_2 : decode cX2_giveUp 2 = .ok (.putfield 58, 3) := by decide +kernel
theorem dX2_giveUp_5 : decode cX2_giveUp 5 = .ok (.aload_n 0, 1) := by decide +kernel
theorem dX2_giveUp_6 : decode cX2_giveUp 6 = .ok (.iconst (-1), 1) := by decide +kernel
theorem dX2_giveUp_7 : decode cX2_giveUp 7 = .ok (.putfield 44, 3) := by decide +kernel
theorem dX2_giveUp_10 : decode cX2_giveUp 10 = .ok (.aload_n 0, 1) := by decide +kernel
theorem dX2_giveUp_11 : decode cX2_giveUp 11 = .ok (.iload_n 2, 1) := by decide +kernel
theorem dX2_giveUp_12 : decode cX2_giveUp 12 = .ok (.putfield 48, 3) := by decide +kernel
theorem dX2_giveUp_15 : decode cX2_giveUp 15 = .ok (.aload_n 0, 1) := by decide +kernel
theorem dX2_giveUp_16 : decode cX2_giveUp 16 = .ok (.iload_n 1, 1) := by decide +kernel
theorem dX2_giveUp_17 : decode cX2_giveUp 17 = .ok (.putfield 101, 3) := by decide +kernel
theorem dX2_giveUp_20 : decode cX2_giveUp 20 = .ok (.aload_n 0, 1) := by decide +kernel
theorem dX2_giveUp_21 : decode cX2_giveUp 21 = .ok (.dup, 1) := by decide +kernel
theorem dX2_giveUp_22 : decode cX2_giveUp 22 = .ok (.getfield 104, 3) := by decide +kernel
theorem dX2_giveUp_25 : decode cX2_giveUp 25 = .ok (.iconst 1, 1) := by decide +kernel
theorem dX2_giveUp_26 : decode cX2_giveUp 26 = .ok (.iadd, 1) := by decide +kernel
theorem dX2_giveUp_27 : decode cX2_giveUp 27 = .ok (.putfield 104, 3) := by decide +kernel
theorem dX2_giveUp_30 : decode cX2_giveUp 30 = .ok (.return_, 1) := by decide +kernel
set_option maxRecDepth 20000 in
theorem ggX2_sleep_X2_follow : GoodIn wsX2_sleep wsX2_follow := goodIn_r _ [9, 10, 1, 11, 12, 13, 8, 14, 15, 4, 16, 17, 18, 19, 20, 21, 2, 22, 23, 24, 25, 26, 27, 28, 29, 30, 31, 32, 33, 34, 35, 36, 37, 38, 39, 3, 40, 41, 42, 43, 44, 45, 46, 47, 48, 49, 50, 51, 52, 53, 54, 55, 56, 57, 58, 59, 60, 61, 62, 63, 64, 65, 66, 67, 68] (by decide +kernel) (by decide +kernel)
set_option maxRecDepth 20000 in
theorem gX2_sleep_X2_follow : GoodIn wsX2_sleep (wsV RX2 107 RX2 yX2_follow wsX2_follow) := goodIn_app (goodIn_of _ (by decide +kernel)) ggX2_sleep_X2_follow
theorem dX2_sleep_0 : decode cX2_sleep 0 = .ok (.aload_n 0, 1) := by decide +kernel
theorem dX2_sleep_1 : decode cX2_sleep 1 = .ok (.getfield 58, 3) := by decide +kernel
theorem dX2_sleep_4 : decode cX2_sleep 4 = .ok (.ifCond .eq 6, 3) := by decide +kernel
theorem dX2_sleep_7 : decode cX2_sleep 7 = .ok (.bipush (-3), 2) := by decide +kernel
theorem dX2_sleep_9 : decode cX2_sleep 9 = .ok (.ireturn, 1) := by decide +kernel
theorem dX2_sleep_10 : decode cX2_sleep 10 = .ok (.iconst 0, 1) := by decide +kernel
theorem dX2_sleep_11 : decode cX2_sleep 11 = .ok (.istore_n 1, 1) := by decide +kernel
theorem dX2_sleep_12 : decode cX2_sleep 12 = .ok (.iload_n 1, 1) := by decide +kernel
theorem dX2_sleep_13 : decode cX2_sleep 13 = .ok (.aload_n 0, 1) := by decide +kernel
theorem dX2_sleep_14 : decode cX2_sleep 14 = .ok (.getfield 51, 3) := by decide +kernel
theorem dX2_sleep_17 : decode cX2_sleep 17 = .ok (.if_icmp .ge 21, 3) := by decide +kernel
theorem dX2_sleep_20 : decode cX2_sleep 20 = .ok (.aload_n 0, 1) := by decide +kernel
theorem dX2_sleep_21 : decode cX2_sleep 21 = .ok (.getfield 25, 3) := by decide +kernel
theorem dX2_sleep_24 : decode cX2_sleep 24 = .ok (.iload_n 1, 1) := by decide +kernel
theorem dX2_sleep_25 : decode cX2_sleep 25 = .ok (.aload_n 0, 1) := by decide +kernel
theorem dX2_sleep_26 : decode cX2_sleep 26 = .ok (.getfield 22, 3) := by decide +kernel
theorem dX2_sleep_29 : decode cX2_sleep 29 = .ok (.iload_n 1, 1) := by decide +kernel
theorem dX2_sleep_30 : decode cX2_sleep 30 = .ok (.iaload, 1) := by decide +kernel
theorem dX2_sleep_31 : decode cX2_sleep 31 = .ok (.iastore, 1) := by decide +kernel
theorem dX2_sleep_32 : decode cX2_sleep 32 = .ok (.iinc 1 1, 3) := by decide +kernel
theorem dX2_sleep_35 : decode cX2_sleep 35 = .ok (.goto (-23), 3) := by decide +kernel
theorem dX2_sleep_38 : decode cX2_sleep 38 = .ok (.aload_n 0, 1) := by decide +kernel
theorem dX2_sleep_39 : decode cX2_sleep 39 = .ok (.iconst 1, 1) := by decide +kernel
theorem dX2_sleep_40 : decode cX2_sleep 40 = .ok (.putfield 58, 3) := by decide +kernel
theorem dX2_sleep_43 : decode cX2_sleep 43 = .ok (.aload_n 0, 1) := by decide +kernel
theorem dX2_sleep_44 : decode cX2_sleep 44 = .ok (.invokevirtual 107, 3) := by decide +kernel
theorem dX2_sleep_47 : decode cX2_sleep 47 = .ok (.aload_n 0, 1) := by decide +kernel
theorem dX2_sleep_48 : decode cX2_sleep 48 = .ok (.getfield 58, 3) := by decide +kernel
theorem dX2_sleep_51 : decode cX2_sleep 51 = .ok (.ireturn, 1) := by decide +kernel
set_option maxRecDepth 20000 in
theorem ggX2_signal_X2_none : GoodIn wsX2_signal wsX2_none := goodIn_r _ [7, 8, 57, 58, 59, 60, 61, 62, 63, 64, 65, 66, 67, 68, 69, 70, 71, 72, 73, 74, 75, 76, 77, 78, 79, 80] (by decide +kernel) (by decide +kernel)
set_option maxRecDepth 20000 in
theorem gX2_signal_X2_none : GoodIn wsX2_signal (wsV RX2 67 RX2 yX2_none wsX2_none) := goodIn_app (goodIn_of _ (by decide +kernel)) ggX2_signal_X2_none
set_option maxRecDepth 20000 in
theorem ggX2_signal_X2_giveUp : GoodIn wsX2_signal wsX2_giveUp := goodIn_r _ [12, 2, 13, 14, 15, 16, 57, 58, 59, 60, 61, 62, 63, 64, 65, 66, 67, 68, 69, 70, 71, 72, 73, 74, 75, 76, 77, 78, 79, 80] (by decide +kernel) (by decide +kernel)
set_option maxRecDepth 20000 in
theorem gX2_signal_X2_giveUp : GoodIn wsX2_signal (wsV RX2 110 RX2 yX2_giveUp wsX2_giveUp) := goodIn_app (goodIn_of _ (by decide +kernel)) ggX2_signal_X2_giveUp
set_option maxRecDepth 20000 in
theorem ggX2_signal_X2_follow : GoodIn wsX2_signal wsX2_follow := goodIn_r _ [20, 13, 2, 21, 22, 23, 6, 24, 25, 26, 27, 28, 29, 30, 31, 32, 8, 33, 34, 35, 36, 37, 38, 39, 40, 41, 42, 43, 44, 45, 46, 47, 48, 49, 50, 51, 52, 53, 54, 55, 56, 57, 58, 59, 60, 61, 62, 63, 64, 65, 66, 67, 68, 69, 70, 71, 72, 73, 74, 75, 76, 77, 78, 79, 80] (by decide +kernel) (by decide +kernel)
set_option maxRecDepth 20000 in
theorem gX2_signal_X2_follow : GoodIn wsX2_signal (wsV RX2 107 RX2 yX2_follow wsX2_follow) := goodIn_app (goodIn_of _ (by decide +kernel)) ggX2_signal_X2_follow
theorem dX2_signal_0 : decode cX2_signal 0 = .ok (.aload_n 0, 1) := by decide +kernel
theorem dX2_signal_1 : decode cX2_signal 1 = .ok (.iload_n 1, 1) := by decide +kernel
theorem dX2_signal_2 : decode cX2_signal 2 = .ok (.invokevirtual 67, 3) := by decide +kernel
theorem dX2_signal_5 : decode cX2_signal 5 = .ok (.ifCond .eq 6, 3) := by decide +kernel
theorem dX2_signal_8 : decode cX2_signal 8 = .ok (.bipush (-2), 2) := by decide +kernel
theorem dX2_signal_10 : decode cX2_signal 10 = .ok (.ireturn, 1) := by decide +kernel
theorem dX2_signal_11 : decode cX2_signal 11 = .ok (.aload_n 0, 1) := by decide +kernel
theorem dX2_signal_12 : decode cX2_signal 12 = .ok (.getfield 37, 3) := by decide +kernel
theorem dX2_signal_15 : decode cX2_signal 15 = .ok (.iload_n 1, 1) := by decide +kernel
theorem dX2_signal_16 : decode cX2_signal 16 = .ok (.baload, 1) := by decide +kernel
theorem dX2_signal_17 : decode cX2_signal 17 = .ok (.ifCond .eq 23, 3) := by decide +kernel
theorem dX2_signal_20 : decode cX2_signal 20 = .ok (.aload_n 0, 1) := by decide +kernel
theorem dX2_signal_21 : decode cX2_signal 21 = .ok (.getfield 58, 3) := by decide +kernel
theorem dX2_signal_24 : decode cX2_signal 24 = .ok (.iconst 1, 1) := by decide +kernel
theorem dX2_signal_25 : decode cX2_signal 25 = .ok (.if_icmp .eq 11, 3) := by decide +kernel
theorem dX2_signal_28 : decode cX2_signal 28 = .ok (.aload_n 0, 1) := by decide +kernel
theorem dX2_signal_29 : decode cX2_signal 29 = .ok (.getfield 58, 3) := by decide +kernel
theorem dX2_signal_32 : decode cX2_signal 32 = .ok (.iconst 2, 1) := by decide +kernel
theorem dX2_signal_33 : decode cX2_signal 33 = .ok (.if_icmp .ne 7, 3) := by decide +kernel
theorem dX2_signal_36 : decode cX2_signal 36 = .ok (.iconst 1, 1) := by decide +kernel
theorem dX2_signal_37 : decode cX2_signal 37 = .ok (.goto 4, 3) := by decide +kernel
theorem dX2_signal_40 : decode cX2_signal 40 = .ok (.iconst 0, 1) := by decide +kernel
theorem dX2_signal_41 : decode cX2_signal 41 = .ok (.istore_n 2, 1) := by decide +kernel
theorem dX2_signal_42 : decode cX2_signal 42 = .ok (.iload_n 2, 1) := by decide +kernel
theorem dX2_signal_43 : decode cX2_signal 43 = .ok (.ifCond .ne 5, 3) := by decide +kernel
theorem dX2_signal_46 : decode cX2_signal 46 = .ok (.iconst 0, 1) := by decide +kernel
theorem dX2_signal_47 : decode cX2_signal 47 = .ok (.ireturn, 1) := by decide +kernel
theorem dX2_signal_48 : decode cX2_signal 48 = .ok (.aload_n 0, 1) := by decide +kernel
theorem dX2_signal_49 : decode cX2_signal 49 = .ok (.getfield 58, 3) := by decide +kernel
theorem dX2_signal_52 : decode cX2_signal 52 = .ok (.iconst 2, 1) := by decide +kernel
theorem dX2_signal_53 : decode cX2_signal 53 = .ok (.if_icmp .ne 11, 3) := by decide +kernel
theorem dX2_signal_56 : decode cX2_signal 56 = .ok (.aload_n 0, 1) := by decide +kernel
theorem dX2_signal_57 : decode cX2_signal 57 = .ok (.iconst 3, 1) := by decide +kernel
theorem dX2_signal_58 : decode cX2_signal 58 = .ok (.putfield 58, 3) := by decide +kernel
theorem dX2_signal_61 : decode cX2_signal 61 = .ok (.goto 9, 3) := by decide +kernel
theorem dX2_signal_64 : decode cX2_signal 64 = .ok (.aload_n 0, 1) := by decide +kernel
theorem dX2_signal_65 : decode cX2_signal 65 = .ok (.iconst 2, 1) := by decide +kernel
theorem dX2_signal_66 : decode cX2_signal 66 = .ok (.iload_n 1, 1) := by decide +kernel
theorem dX2_signal_67 : decode cX2_signal 67 = .ok (.invokevirtual 110, 3) := by decide +kernel
theorem dX2_signal_70 : decode cX2_signal 70 = .ok (.aload_n 0, 1) := by decide +kernel
theorem dX2_signal_71 : decode cX2_signal 71 = .ok (.invokevirtual 107, 3) := by decide +kernel
theorem dX2_signal_74 : decode cX2_signal 74 = .ok (.iconst 1, 1) := by decide +kernel
theorem dX2_signal_75 : decode cX2_signal 75 = .ok (.ireturn, 1) := by decide +kernel
theorem dX2_watch_0 : decode cX2_watch 0 = .ok (.iload_n 1, 1) := by decide +kernel
theorem dX2_watch_1 : decode cX2_watch 1 = .ok (.ifCond .lt 9, 3) := by decide +kernel
theorem dX2_watch_4 : decode cX2_watch 4 = .ok (.iload_n 1, 1) := by decide +kernel
theorem dX2_watch_5 : decode cX2_watch 5 = .ok (.bipush 100, 2) := by decide +kernel
theorem dX2_watch_7 : decode cX2_watch 7 = .ok (.if_icmp .le 5, 3) := by decide +kernel
theorem dX2_watch_10 : decode cX2_watch 10 = .ok (.iconst 0, 1) := by decide +kernel
theorem dX2_watch_11 : decode cX2_watch 11 = .ok (.ireturn, 1) := by decide +kernel
theorem dX2_watch_12 : decode cX2_watch 12 = .ok (.aload_n 0, 1) := by decide +kernel
theorem dX2_watch_13 : decode cX2_watch 13 = .ok (.iload_n 1, 1) := by decide +kernel
theorem dX2_watch_14 : decode cX2_watch 14 = .ok (.putfield 113, 3) := by decide +kernel
theorem dX2_watch_17 : decode cX2_watch 17 = .ok (.aload_n 0, 1) := by decide +kernel
theorem dX2_watch_18 : decode cX2_watch 18 = .ok (.iconst 0, 1) := by decide +kernel
theorem dX2_watch_19 : decode cX2_watch 19 = .ok (.putfield 116, 3) := by decide +kernel
theorem dX2_watch_22 : decode cX2_watch 22 = .ok (.iconst 1, 1) := by decide +kernel
theorem dX2_watch_23 : decode cX2_watch 23 = .ok (.ireturn, 1) := by decide +kernel
theorem dX2_kick_0 : decode cX2_kick 0 = .ok (.aload_n 0, 1) := by decide +kernel
theorem dX2_kick_1 : decode cX2_kick 1 = .ok (.getfield 116, 3) := by decide +kernel
theorem dX2_kick_4 : decode cX2_kick 4 = .ok (.istore_n 1, 1) := by decide +kernel
theorem dX2_kick_5 : decode cX2_kick 5 = .ok (.aload_n 0, 1) := by decide +kernel
theorem dX2_kick_6 : decode cX2_kick 6 = .ok (.iconst 0, 1) := by decide +kernel
theorem dX2_kick_7 : decode cX2_kick 7 = .ok (.putfield 116, 3) := by decide +kernel
theorem dX2_kick_10 : decode cX2_kick 10 = .ok (.iload_n 1, 1) := by decide +kernel
theorem dX2_kick_11 : decode cX2_kick 11 = .ok (.ireturn, 1) := by decide +kernel
theorem dX2_reset_0 : decode cX2_reset 0 = .ok (.iconst 0, 1) := by decide +kernel
theorem dX2_reset_1 : decode cX2_reset 1 = .ok (.istore_n 1, 1) := by decide +kernel
theorem dX2_reset_2 : decode cX2_reset 2 = .ok (.iload_n 1, 1) := by decide +kernel
theorem dX2_reset_3 : decode cX2_reset 3 = .ok (.aload_n 0, 1) := by decide +kernel
theorem dX2_reset_4 : decode cX2_reset 4 = .ok (.getfield 51, 3) := by decide +kernel
theorem dX2_reset_7 : decode cX2_reset 7 = .ok (.if_icmp .ge 57, 3) := by decide +kernel
theorem dX2_reset_10 : decode cX2_reset 10 = .ok (.aload_n 0, 1) := by decide +kernel
theorem dX2_reset_11 : decode cX2_reset 11 = .ok (.aload_n 0, 1) := by decide +kernel
theorem dX2_reset_12 : decode cX2_reset 12 = .ok (.getfield 22, 3) := by decide +kernel
theorem dX2_reset_15 : decode cX2_reset 15 = .ok (.iload_n 1, 1) := by decide +kernel
theorem dX2_reset_16 : decode cX2_reset 16 = .ok (.iaload, 1) := by decide +kernel
theorem dX2_reset_17 : decode cX2_reset 17 = .ok (.iconst 2, 1) := by decide +kernel
theorem dX2_reset_18 : decode cX2_reset 18 = .ok (.if_icmp .ne 10, 3) := by decide +kernel
theorem dX2_reset_21 : decode cX2_reset 21 = .ok (.aload_n 0, 1) := by decide +kernel
theorem dX2_reset_22 : decode cX2_reset 22 = .ok (.getfield 71, 3) := by decide +kernel
theorem dX2_reset_25 : decode cX2_reset 25 = .ok (.goto 9, 3) := by decide +kernel
theorem dX2_reset_28 : decode cX2_reset 28 = .ok (.aload_n 0, 1) := by decide +kernel
theorem dX2_reset_29 : decode cX2_reset 29 = .ok (.getfield 71, 3) := by decide +kernel
theorem dX2_reset_32 : decode cX2_reset 32 = .ok (.iconst 1, 1) := by decide +kernel
theorem dX2_reset_33 : decode cX2_reset 33 = .ok (.iadd, 1) := by decide +kernel
theorem dX2_reset_34 : decode cX2_reset 34 = .ok (.putfield 71, 3) := by decide +kernel
theorem dX2_reset_37 : decode cX2_reset 37 = .ok (.aload_n 0, 1) := by decide +kernel
theorem dX2_reset_38 : decode cX2_reset 38 = .ok (.getfield 22, 3) := by decide +kernel
theorem dX2_reset_41 : decode cX2_reset 41 = .ok (.iload_n 1, 1) := by decide +kernel
theorem dX2_reset_42 : decode cX2_reset 42 = .ok (.iconst 2, 1) := by decide +kernel
theorem dX2_reset_43 : decode cX2_reset 43 = .ok (.iastore, 1) := by decide +kernel
theorem dX2_reset_44 : decode cX2_reset 44 = .ok (.aload_n 0, 1) := by decide +kernel
theorem dX2_reset_45 : decode cX2_reset 45 = .ok (.getfield 28, 3) := by decide +kernel
theorem dX2_reset_48 : decode cX2_reset 48 = .ok (.iload_n 1, 1) := by decide +kernel
theorem dX2_reset_49 : decode cX2_reset 49 = .ok (.iconst 0, 1) := by decide +kernel
theorem dX2_reset_50 : decode cX2_reset 50 = .ok (.iastore, 1) := by decide +kernel
theorem dX2_reset_51 : decode cX2_reset 51 = .ok (.aload_n 0, 1) := by decide +kernel
theorem dX2_reset_52 : decode cX2_reset 52 = .ok (.getfield 31, 3) := by decide +kernel
theorem dX2_reset_55 : decode cX2_reset 55 = .ok (.iload_n 1, 1) := by decide +kernel
theorem dX2_reset_56 : decode cX2_reset 56 = .ok (.iconst 0, 1) := by decide +kernel
theorem dX2_reset_57 : decode cX2_reset 57 = .ok (.iastore, 1) := by decide +kernel
theorem dX2_reset_58 : decode cX2_reset 58 = .ok (.iinc 1 1, 3) := by decide +kernel
theorem dX2_reset_61 : decode cX2_reset 61 = .ok (.goto (-59), 3) := by decide +kernel
theorem dX2_reset_64 : decode cX2_reset 64 = .ok (.aload_n 0, 1) := by decide +kernel
theorem dX2_reset_65 : decode cX2_reset 65 = .ok (.iconst 0, 1) := by decide +kernel
theorem dX2_reset_66 : decode cX2_reset 66 = .ok (.putfield 58, 3) := by decide +kernel
theorem dX2_reset_69 : decode cX2_reset 69 = .ok (.aload_n 0, 1) := by decide +kernel
theorem dX2_reset_70 : decode cX2_reset 70 = .ok (.iconst (-1), 1) := by decide +kernel
theorem dX2_reset_71 : decode cX2_reset 71 = .ok (.putfield 44, 3) := by decide +kernel
theorem dX2_reset_74 : decode cX2_reset 74 = .ok (.aload_n 0, 1) := by decide +kernel
theorem dX2_reset_75 : decode cX2_reset 75 = .ok (.iconst (-1), 1) := by decide +kernel
theorem dX2_reset_76 : decode cX2_reset 76 = .ok (.putfield 48, 3) := by decide +kernel
theorem dX2_reset_79 : decode cX2_reset 79 = .ok (.aload_n 0, 1) := by decide +kernel
theorem dX2_reset_80 : decode cX2_reset 80 = .ok (.iconst 0, 1) := by decide +kernel
theorem dX2_reset_81 : decode cX2_reset 81 = .ok (.putfield 101, 3) := by decide +kernel
theorem dX2_reset_84 : decode cX2_reset 84 = .ok (.aload_n 0, 1) := by decide +kernel
theorem dX2_reset_85 : decode cX2_reset 85 = .ok (.iconst 0, 1) := by decide +kernel
theorem dX2_reset_86 : decode cX2_reset 86 = .ok (.putfield 116, 3) := by decide +kernel
theorem dX2_reset_89 : decode cX2_reset 89 = .ok (.aload_n 0, 1) := by decide +kernel
theorem dX2_reset_90 : decode cX2_reset 90 = .ok (.dup, 1) := by decide +kernel
theorem dX2_reset_91 : decode cX2_reset 91 = .ok (.getfield 119, 3) := by decide +kernel
theorem dX2_reset_94 : decode cX2_reset 94 = .ok (.iconst 1, 1) := by decide +kernel
theorem dX2_reset_95 : decode cX2_reset 95 = .ok (.iadd, 1) := by decide +kernel
theorem dX2_reset_96 : decode cX2_reset 96 = .ok (.putfield 119, 3) := by decide +kernel
theorem dX2_reset_99 : decode cX2_reset 99 = .ok (.return_, 1) := by decide +kernel
theorem dX2_childOn_0 : decode cX2_childOn 0 = .ok (.iconst 0, 1) := by decide +kernel
theorem dX2_childOn_1 : decode cX2_childOn 1 = .ok (.istore_n 2, 1) := by decide +kernel
theorem dX2_childOn_2 : decode cX2_childOn 2 = .ok (.iload_n 1, 1) := by decide +kernel
theorem dX2_childOn_3 : decode cX2_childOn 3 = .ok (.iconst 1, 1) := by decide +kernel
theorem dX2_childOn_4 : decode cX2_childOn 4 = .ok (.iadd, 1) := by decide +kernel
theorem dX2_childOn_5 : decode cX2_childOn 5 = .ok (.istore_n 3, 1) := by decide +kernel
theorem dX2_childOn_6 : decode cX2_childOn 6 = .ok (.iload_n 3, 1) := by decide +kernel
theorem dX2_childOn_7 : decode cX2_childOn 7 = .ok (.aload_n 0, 1) := by decide +kernel
theorem dX2_childOn_8 : decode cX2_childOn 8 = .ok (.getfield 51, 3) := by decide +kernel
theorem dX2_childOn_11 : decode cX2_childOn 11 = .ok (.if_icmp .ge 43, 3) := by decide +kernel
theorem dX2_childOn_14 : decode cX2_childOn 14 = .ok (.iload_n 2, 1) := by decide +kernel
theorem dX2_childOn_15 : decode cX2_childOn 15 = .ok (.ifCond .ne 27, 3) := by decide +kernel
theorem dX2_childOn_18 : decode cX2_childOn 18 = .ok (.aload_n 0, 1) := by decide +kernel
theorem dX2_childOn_19 : decode cX2_childOn 19 = .ok (.getfield 7, 3) := by decide +kernel
theorem dX2_childOn_22 : decode cX2_childOn 22 = .ok (.iload_n 3, 1) := by decide +kernel
theorem dX2_childOn_23 : decode cX2_childOn 23 = .ok (.iaload, 1) := by decide +kernel
theorem dX2_childOn_24 : decode cX2_childOn 24 = .ok (.iload_n 1, 1) := by decide +kernel
theorem dX2_childOn_25 : decode cX2_childOn 25 = .ok (.ishr, 1) := by decide +kernel
theorem dX2_childOn_26 : decode cX2_childOn 26 = .ok (.iconst 1, 1) := by decide +kernel
theorem dX2_childOn_27 : decode cX2_childOn 27 = .ok (.iand, 1) := by decide +kernel
theorem dX2_childOn_28 : decode cX2_childOn 28 = .ok (.iconst 1, 1) := by decide +kernel
theorem dX2_childOn_29 : decode cX2_childOn 29 = .ok (.if_icmp .ne 17, 3) := by decide +kernel
theorem dX2_childOn_32 : decode cX2_childOn 32 = .ok (.aload_n 0, 1) := by decide +kernel
theorem dX2_childOn_33 : decode cX2_childOn 33 = .ok (.getfield 22, 3) := by decide +kernel
theorem dX2_childOn_36 : decode cX2_childOn 36 = .ok (.iload_n 3, 1) := by decide +kernel
theorem dX2_childOn_37 : decode cX2_childOn 37 = .ok (.iaload, 1) := by decide +kernel
theorem dX2_childOn_38 : decode cX2_childOn 38 = .ok (.iconst 2, 1) := by decide +kernel
theorem dX2_childOn_39 : decode cX2_childOn 39 = .ok (.if_icmp .ne 7, 3) := by decide +kernel
theorem dX2_childOn_42 : decode cX2_childOn 42 = .ok (.iconst 1, 1) := by decide +kernel
theorem dX2_childOn_43 : decode cX2_childOn 43 = .ok (.goto 4, 3) := by decide +kernel
theorem dX2_childOn_46 : decode cX2_childOn 46 = .ok (.iconst 0, 1) := by decide +kernel
theorem dX2_childOn_47 : decode cX2_childOn 47 = .ok (.istore_n 2, 1) := by decide +kernel
theorem dX2_childOn_48 : decode cX2_childOn 48 = .ok (.iinc 3 1, 3) := by decide +kernel
theorem dX2_childOn_51 : decode cX2_childOn 51 = .ok (.goto (-45), 3) := by decide +kernel
theorem dX2_childOn_54 : decode cX2_childOn 54 = .ok (.iload_n 2, 1) := by decide +kernel
theorem dX2_childOn_55 : decode cX2_childOn 55 = .ok (.ireturn, 1) := by decide +kernel
set_option maxRecDepth 20000 in
theorem ggX2_doze_X2_childOn : GoodIn wsX2_doze wsX2_childOn := goodIn_r _ [11, 1, 12, 3, 18, 19, 20, 21, 22, 23, 24, 25, 26, 27, 28, 29, 30, 31, 32, 33, 34, 35, 36, 37, 38, 39, 40, 41] (by decide +kernel) (by decide +kernel)
set_option maxRecDepth 20000 in
theorem gX2_doze_X2_childOn : GoodIn wsX2_doze (wsV RX2 122 RX2 yX2_childOn wsX2_childOn) := goodIn_app (goodIn_of _ (by decide +kernel)) ggX2_doze_X2_childOn
set_option maxRecDepth 20000 in
theorem ggX2_doze_X2_become : GoodIn wsX2_doze wsX2_become := goodIn_r _ [16, 3, 17, 18, 19, 20, 21, 22, 23, 24, 25, 26, 27, 28, 29, 30, 31, 32, 33, 34, 35, 36, 37, 38, 39, 40, 41] (by decide +kernel) (by decide +kernel)
set_option maxRecDepth 20000 in
theorem gX2_doze_X2_become : GoodIn wsX2_doze (wsV RX2 85 RX2 yX2_become wsX2_become) := goodIn_app (goodIn_of _ (by decide +kernel)) ggX2_doze_X2_become
theorem dX2_doze_0 : decode cX2_doze 0 = .ok (.iconst 0, 1) := by decide +kernel
theorem dX2_doze_1 : decode cX2_doze 1 = .ok (.istore_n 1, 1) := by decide +kernel
theorem dX2_doze_2 : decode cX2_doze 2 = .ok (.iload_n 1, 1) := by decide +kernel
theorem dX2_doze_3 : decode cX2_doze 3 = .ok (.aload_n 0, 1) := by decide +kernel
theorem dX2_doze_4 : decode cX2_doze 4 = .ok (.getfield 51, 3) := by decide +kernel
theorem dX2_doze_7 : decode cX2_doze 7 = .ok (.if_icmp .ge 47, 3) := by decide +kernel
theorem dX2_doze_10 : decode cX2_doze 10 = .ok (.aload_n 0, 1) := by decide +kernel
theorem dX2_doze_11 : decode cX2_doze 11 = .ok (.getfield 41, 3) := by decide +kernel
theorem dX2_doze_14 : decode cX2_doze 14 = .ok (.iload_n 1, 1) := by decide +kernel
theorem dX2_doze_15 : decode cX2_doze 15 = .ok (.aload_n 0, 1) := by decide +kernel
theorem dX2_doze_16 : decode cX2_doze 16 = .ok (.getfield 22, 3) := by decide +kernel
theorem dX2_doze_19 : decode cX2_doze 19 = .ok (.iload_n 1, 1) := by decide +kernel
theorem dX2_doze_20 : decode cX2_doze 20 = .ok (.iaload, 1) := by decide +kernel
theorem dX2_doze_21 : decode cX2_doze 21 = .ok (.iconst 2, 1) := by decide +kernel
theorem dX2_doze_22 : decode cX2_doze 22 = .ok (.if_icmp .ne 24, 3) := by decide +kernel
theorem dX2_doze_25 : decode cX2_doze 25 = .ok (.aload_n 0, 1) := by decide +kernel
theorem dX2_doze_26 : decode cX2_doze 26 = .ok (.getfield 28, 3) := by decide +kernel
theorem dX2_doze_29 : decode cX2_doze 29 = .ok (.iload_n 1, 1) := by decide +kernel
theorem dX2_doze_30 : decode cX2_doze 30 = .ok (.iaload, 1) := by decide +kernel
theorem dX2_doze_31 : decode cX2_doze 31 = .ok (.ifCond .ne 15, 3) := by decide +kernel
theorem dX2_doze_34 : decode cX2_doze 34 = .ok (.aload_n 0, 1) := by decide +kernel
theorem dX2_doze_35 : decode cX2_doze 35 = .ok (.iload_n 1, 1) := by decide +kernel
theorem dX2_doze_36 : decode cX2_doze 36 = .ok (.invokevirtual 122, 3) := by decide +kernel
theorem dX2_doze_39 : decode cX2_doze 39 = .ok (.ifCond .ne 7, 3) := by decide +kernel
theorem dX2_doze_42 : decode cX2_doze 42 = .ok (.iconst 1, 1) := by decide +kernel
theorem dX2_doze_43 : decode cX2_doze 43 = .ok (.goto 4, 3) := by decide +kernel
theorem dX2_doze_46 : decode cX2_doze 46 = .ok (.iconst 0, 1) := by decide +kernel
theorem dX2_doze_47 : decode cX2_doze 47 = .ok (.bastore, 1) := by decide +kernel
theorem dX2_doze_48 : decode cX2_doze 48 = .ok (.iinc 1 1, 3) := by decide +kernel
theorem dX2_doze_51 : decode cX2_doze 51 = .ok (.goto (-49), 3) := by decide +kernel
theorem dX2_doze_54 : decode cX2_doze 54 = .ok (.iconst 0, 1) := by decide +kernel
theorem dX2_doze_55 : decode cX2_doze 55 = .ok (.istore_n 1, 1) := by decide +kernel
theorem dX2_doze_56 : decode cX2_doze 56 = .ok (.iload_n 1, 1) := by decide +kernel
theorem dX2_doze_57 : decode cX2_doze 57 = .ok (.aload_n 0, 1) := by decide +kernel
theorem dX2_doze_58 : decode cX2_doze 58 = .ok (.getfield 51, 3) := by decide +kernel
theorem dX2_doze_61 : decode cX2_doze 61 = .ok (.if_icmp .ge 36, 3) := by decide +kernel
theorem dX2_doze_64 : decode cX2_doze 64 = .ok (.aload_n 0, 1) := by decide +kernel
theorem dX2_doze_65 : decode cX2_doze 65 = .ok (.getfield 31, 3) := by decide +kernel
theorem dX2_doze_68 : decode cX2_doze 68 = .ok (.iload_n 1, 1) := by decide +kernel
theorem dX2_doze_69 : decode cX2_doze 69 = .ok (.aload_n 0, 1) := by decide +kernel
theorem dX2_doze_70 : decode cX2_doze 70 = .ok (.getfield 41, 3) := by decide +kernel
theorem dX2_doze_73 : decode cX2_doze 73 = .ok (.iload_n 1, 1) := by decide +kernel
theorem dX2_doze_74 : decode cX2_doze 74 = .ok (.baload, 1) := by decide +kernel
theorem dX2_doze_75 : decode cX2_doze 75 = .ok (.ifCond .eq 14, 3) := by decide +kernel
theorem dX2_doze_78 : decode cX2_doze 78 = .ok (.aload_n 0, 1) := by decide +kernel
theorem dX2_doze_79 : decode cX2_doze 79 = .ok (.getfield 31, 3) := by decide +kernel
theorem dX2_doze_82 : decode cX2_doze 82 = .ok (.iload_n 1, 1) := by decide +kernel
theorem dX2_doze_83 : decode cX2_doze 83 = .ok (.iaload, 1) := by decide +kernel
theorem dX2_doze_84 : decode cX2_doze 84 = .ok (.iconst 1, 1) := by decide +kernel
theorem dX2_doze_85 : decode cX2_doze 85 = .ok (.iadd, 1) := by decide +kernel
theorem dX2_doze_86 : decode cX2_doze 86 = .ok (.goto 4, 3) := by decide +kernel
theorem dX2_doze_89 : decode cX2_doze 89 = .ok (.iconst 0, 1) := by decide +kernel
theorem dX2_doze_90 : decode cX2_doze 90 = .ok (.iastore, 1) := by decide +kernel
theorem dX2_doze_91 : decode cX2_doze 91 = .ok (.iinc 1 1, 3) := by decide +kernel
theorem dX2_doze_94 : decode cX2_doze 94 = .ok (.goto (-38), 3) := by decide +kernel
theorem dX2_doze_97 : decode cX2_doze 97 = .ok (.iconst 0, 1) := by decide +kernel
theorem dX2_doze_98 : decode cX2_doze 98 = .ok (.istore_n 1, 1) := by decide +kernel
theorem dX2_doze_99 : decode cX2_doze 99 = .ok (.iload_n 1, 1) := by decide +kernel
theorem dX2_doze_100 : decode cX2_doze 100 = .ok (.aload_n 0, 1) := by decide +kernel
theorem dX2_doze_101 : decode cX2_doze 101 = .ok (.getfield 51, 3) := by decide +kernel
theorem dX2_doze_104 : decode cX2_doze 104 = .ok (.if_icmp .ge 49, 3) := by decide +kernel
theorem dX2_doze_107 : decode cX2_doze 107 = .ok (.aload_n 0, 1) := by decide +kernel
theorem dX2_doze_108 : decode cX2_doze 108 = .ok (.getfield 22, 3) := by decide +kernel
theorem dX2_doze_111 : decode cX2_doze 111 = .ok (.iload_n 1, 1) := by decide +kernel
theorem dX2_doze_112 : decode cX2_doze 112 = .ok (.iaload, 1) := by decide +kernel
theorem dX2_doze_113 : decode cX2_doze 113 = .ok (.iconst 2, 1) := by decide +kernel
theorem dX2_doze_114 : decode cX2_doze 114 = .ok (.if_icmp .ne 33, 3) := by decide +kernel
theorem dX2_doze_117 : decode cX2_doze 117 = .ok (.aload_n 0, 1) := by decide +kernel
theorem dX2_doze_118 : decode cX2_doze 118 = .ok (.getfield 19, 3) := by decide +kernel
theorem dX2_doze_121 : decode cX2_doze 121 = .ok (.iload_n 1, 1) := by decide +kernel
theorem dX2_doze_122 : decode cX2_doze 122 = .ok (.iaload, 1) := by decide +kernel
theorem dX2_doze_123 : decode cX2_doze 123 = .ok (.ifCond .le 24, 3) := by decide +kernel
theorem dX2_doze_126 : decode cX2_doze 126 = .ok (.aload_n 0, 1) := by decide +kernel
theorem dX2_doze_127 : decode cX2_doze 127 = .ok (.getfield 31, 3) := by decide +kernel
theorem dX2_doze_130 : decode cX2_doze 130 = .ok (.iload_n 1, 1) := by decide +kernel
theorem dX2_doze_131 : decode cX2_doze 131 = .ok (.iaload, 1) := by decide +kernel
theorem dX2_doze_132 : decode cX2_doze 132 = .ok (.aload_n 0, 1) := by decide +kernel
theorem dX2_doze_133 : decode cX2_doze 133 = .ok (.getfield 19, 3) := by decide +kernel
theorem dX2_doze_136 : decode cX2_doze 136 = .ok (.iload_n 1, 1) := by decide +kernel
theorem dX2_doze_137 : decode cX2_doze 137 = .ok (.iaload, 1) := by decide +kernel
theorem dX2_doze_138 : decode cX2_doze 138 = .ok (.if_icmp .lt 9, 3) := by decide +kernel
theorem dX2_doze_141 : decode cX2_doze 141 = .ok (.aload_n 0, 1) := by decide +kernel
theorem dX2_doze_142 : decode cX2_doze 142 = .ok (.iload_n 1, 1) := by decide +kernel
theorem dX2_doze_143 : decode cX2_doze 143 = .ok (.iconst 1, 1) := by decide +kernel
theorem dX2_doze_144 : decode cX2_doze 144 = .ok (.invokevirtual 85, 3) := by decide +kernel
theorem dX2_doze_147 : decode cX2_doze 147 = .ok (.iinc 1 1, 3) := by decide +kernel
theorem dX2_doze_150 : decode cX2_doze 150 = .ok (.goto (-51), 3) := by decide +kernel
theorem dX2_doze_153 : decode cX2_doze 153 = .ok (.return_, 1) := by decide +kernel
set_option maxRecDepth 20000 in
theorem ggX2_work_X2_become : GoodIn wsX2_work wsX2_become := goodIn_r _ [9, 10, 11, 53, 54, 55, 56, 57, 58, 59, 60, 61, 62, 63, 64, 65, 66, 67, 68, 69, 70, 71, 72, 73, 74, 75, 76] (by decide +kernel) (by decide +kernel)
set_option maxRecDepth 20000 in
theorem gX2_work_X2_become : GoodIn wsX2_work (wsV RX2 85 RX2 yX2_become wsX2_become) := goodIn_app (goodIn_of _ (by decide +kernel)) ggX2_work_X2_become
set_option maxRecDepth 20000 in
theorem ggX2_work_X2_giveUp : GoodIn wsX2_work wsX2_giveUp := goodIn_r _ [15, 3, 2, 16, 17, 18, 53, 54, 55, 56, 57, 58, 59, 60, 61, 62, 63, 64, 65, 66, 67, 68, 69, 70, 71, 72, 73, 74, 75, 76] (by decide +kernel) (by decide +kernel)
set_option maxRecDepth 20000 in
theorem gX2_work_X2_giveUp : GoodIn wsX2_work (wsV RX2 110 RX2 yX2_giveUp wsX2_giveUp) := goodIn_app (goodIn_of _ (by decide +kernel)) ggX2_work_X2_giveUp
set_option maxRecDepth 20000 in
theorem ggX2_work_X2_follow : GoodIn wsX2_work wsX2_follow := goodIn_r _ [22, 2, 3, 23, 24, 25, 8, 26, 27, 10, 28, 1, 29, 30, 31, 32, 33, 34, 35, 36, 37, 38, 39, 40, 41, 42, 5, 6, 7, 9, 11, 43, 44, 45, 46, 47, 48, 49, 50, 51, 52, 53, 54, 55, 56, 57, 58, 59, 60, 61, 62, 63, 64, 65, 66, 67, 68, 69, 70, 71, 72, 73, 74, 75, 76] (by decide +kernel) (by decide +kernel)
set_option maxRecDepth 20000 in
theorem gX2_work_X2_follow : GoodIn wsX2_work (wsV RX2 107 RX2 yX2_follow wsX2_follow) := goodIn_app (goodIn_of _ (by decide +kernel)) ggX2_work_X2_follow
end
section
theorem dX2_work_0 : decode cX2_work 0 = .ok (.aload_n 0, 1) := by decide +kernel
theorem dX2_work_1 : decode cX2_work 1 = .ok (.dup, 1) := by decide +kernel
theorem dX2_work_2 : decode cX2_work 2 = .ok (.getfield 89, 3) := by decide +kernel
theorem dX2_work_5 : decode cX2_work 5 = .ok (.iconst 1, 1) := by decide +kernel
theorem dX2_work_6 : decode cX2_work 6 = .ok (.isub, 1) := by decide +kernel
theorem dX2_work_7 : decode cX2_work 7 = .ok (.putfield 89, 3) := by decide +kernel
theorem dX2_work_10 : decode cX2_work 10 = .ok (.aload_n 0, 1) := by decide +kernel
theorem dX2_work_11 : decode cX2_work 11 = .ok (.getfield 89, 3) := by decide +kernel
theorem dX2_work_14 : decode cX2_work 14 = .ok (.ifCond .le 4, 3) := by decide +kernel
theorem dX2_work_17 : decode cX2_work 17 = .ok (.return_, 1) := by decide +kernel
theorem dX2_work_18 : decode cX2_work 18 = .ok (.aload_n 0, 1) := by decide +kernel
theorem dX2_work_19 : decode cX2_work 19 = .ok (.getfield 44, 3) := by decide +kernel
theorem dX2_work_22 : decode cX2_work 22 = .ok (.istore_n 1, 1) := by decide +kernel
theorem dX2_work_23 : decode cX2_work 23 = .ok (.aload_n 0, 1) := by decide +kernel
theorem dX2_work_24 : decode cX2_work 24 = .ok (.iconst (-1), 1) := by decide +kernel
theorem dX2_work_25 : decode cX2_work 25 = .ok (.putfield 44, 3) := by decide +kernel
theorem dX2_work_28 : decode cX2_work 28 = .ok (.aload_n 0, 1) := by decide +kernel
theorem dX2_work_29 : decode cX2_work 29 = .ok (.getfield 58, 3) := by decide +kernel
theorem dX2_work_32 : decode cX2_work 32 = .ok (.iconst 1, 1) := by decide +kernel
theorem dX2_work_33 : decode cX2_work 33 = .ok (.if_icmp .eq 12, 3) := by decide +kernel
theorem dX2_work_36 : decode cX2_work 36 = .ok (.aload_n 0, 1) := by decide +kernel
theorem dX2_work_37 : decode cX2_work 37 = .ok (.iload_n 1, 1) := by decide +kernel
theorem dX2_work_38 : decode cX2_work 38 = .ok (.iconst 2, 1) := by decide +kernel
theorem dX2_work_39 : decode cX2_work 39 = .ok (.invokevirtual 85, 3) := by decide +kernel
theorem dX2_work_42 : decode cX2_work 42 = .ok (.goto 37, 3) := by decide +kernel
theorem dX2_work_45 : decode cX2_work 45 = .ok (.aload_n 0, 1) := by decide +kernel
theorem dX2_work_46 : decode cX2_work 46 = .ok (.getfield 34, 3) := by decide +kernel
theorem dX2_work_49 : decode cX2_work 49 = .ok (.iload_n 1, 1) := by decide +kernel
theorem dX2_work_50 : decode cX2_work 50 = .ok (.iaload, 1) := by decide +kernel
theorem dX2_work_51 : decode cX2_work 51 = .ok (.ifCond .le 22, 3) := by decide +kernel
theorem dX2_work_54 : decode cX2_work 54 = .ok (.aload_n 0, 1) := by decide +kernel
theorem dX2_work_55 : decode cX2_work 55 = .ok (.getfield 34, 3) := by decide +kernel
theorem dX2_work_58 : decode cX2_work 58 = .ok (.iload_n 1, 1) := by decide +kernel
theorem dX2_work_59 : decode cX2_work 59 = .ok (.dup2, 1) := by decide +kernel
theorem dX2_work_60 : decode cX2_work 60 = .ok (.iaload, 1) := by decide +kernel
theorem dX2_work_61 : decode cX2_work 61 = .ok (.iconst 1, 1) := by decide +kernel
theorem dX2_work_62 : decode cX2_work 62 = .ok (.isub, 1) := by decide +kernel
theorem dX2_work_63 : decode cX2_work 63 = .ok (.iastore, 1) := by decide +kernel
theorem dX2_work_64 : decode cX2_work 64 = .ok (.aload_n 0, 1) := by decide +kernel
theorem dX2_work_65 : decode cX2_work 65 = .ok (.iconst 1, 1) := by decide +kernel
theorem dX2_work_66 : decode cX2_work 66 = .ok (.iload_n 1, 1) := by decide +kernel
theorem dX2_work_67 : decode cX2_work 67 = .ok (.invokevirtual 110, 3) := by decide +kernel
theorem dX2_work_70 : decode cX2_work 70 = .ok (.goto 9, 3) := by decide +kernel
theorem dX2_work_73 : decode cX2_work 73 = .ok (.aload_n 0, 1) := by decide +kernel
theorem dX2_work_74 : decode cX2_work 74 = .ok (.iload_n 1, 1) := by decide +kernel
theorem dX2_work_75 : decode cX2_work 75 = .ok (.iconst 0, 1) := by decide +kernel
theorem dX2_work_76 : decode cX2_work 76 = .ok (.invokevirtual 85, 3) := by decide +kernel
theorem dX2_work_79 : decode cX2_work 79 = .ok (.aload_n 0, 1) := by decide +kernel
theorem dX2_work_80 : decode cX2_work 80 = .ok (.invokevirtual 107, 3) := by decide +kernel
theorem dX2_work_83 : decode cX2_work 83 = .ok (.return_, 1) := by decide +kernel
set_option maxRecDepth 20000 in
theorem ggX2_once_X2_reset : GoodIn wsX2_once wsX2_reset := goodIn_r _ [9, 10, 11, 12, 13, 14, 3, 15, 16, 17, 4, 18, 77, 78, 79, 80, 81, 82, 83, 84, 85, 86, 87, 88, 89, 90, 91, 92, 93, 94, 95, 96, 97, 98, 99, 100] (by decide +kernel) (by decide +kernel)
set_option maxRecDepth 20000 in
theorem gX2_once_X2_reset : GoodIn wsX2_once (wsV RX2 128 RX2 yX2_reset wsX2_reset) := goodIn_app (goodIn_of _ (by decide +kernel)) ggX2_once_X2_reset
set_option maxRecDepth 20000 in
theorem ggX2_once_X2_doze : GoodIn wsX2_once wsX2_doze := goodIn_r _ [22, 10, 23, 11, 13, 14, 24, 25, 26, 27, 8, 28, 29, 30, 31, 32, 33, 12, 77, 78, 79, 80, 81, 82, 83, 84, 85, 86, 87, 88, 89, 90, 91, 92, 93, 94, 95, 96, 97, 98, 99, 100] (by decide +kernel) (by decide +kernel)
set_option maxRecDepth 20000 in
theorem gX2_once_X2_doze : GoodIn wsX2_once (wsV RX2 131 RX2 yX2_doze wsX2_doze) := goodIn_app (goodIn_of _ (by decide +kernel)) ggX2_once_X2_doze
set_option maxRecDepth 20000 in
theorem ggX2_once_X2_work : GoodIn wsX2_once wsX2_work := goodIn_r _ [37, 38, 15, 3, 39, 30, 31, 32, 8, 33, 11, 12, 40, 41, 42, 43, 16, 17, 44, 45, 46, 47, 48, 49, 50, 51, 52, 53, 54, 55, 56, 57, 58, 10, 59, 60, 61, 62, 63, 64, 65, 66, 29, 67, 68, 69, 70, 71, 72, 73, 74, 75, 76, 77, 78, 79, 80, 81, 82, 83, 84, 85, 86, 87, 88, 89, 90, 91, 92, 93, 94, 95, 96, 97, 98, 99, 100] (by decide +kernel) (by decide +kernel)
set_option maxRecDepth 20000 in
theorem gX2_once_X2_work : GoodIn wsX2_once (wsV RX2 134 RX2 yX2_work wsX2_work) := goodIn_app (goodIn_of _ (by decide +kernel)) ggX2_once_X2_work
theorem dX2_once_0 : decode cX2_once 0 = .ok (.aload_n 0, 1) := by decide +kernel
theorem dX2_once_1 : decode cX2_once 1 = .ok (.dup, 1) := by decide +kernel
theorem dX2_once_2 : decode cX2_once 2 = .ok (.getfield 125, 3) := by decide +kernel
theorem dX2_once_5 : decode cX2_once 5 = .ok (.iconst 1, 1) := by decide +kernel
theorem dX2_once_6 : decode cX2_once 6 = .ok (.iadd, 1) := by decide +kernel
theorem dX2_once_7 : decode cX2_once 7 = .ok (.putfield 125, 3) := by decide +kernel
theorem dX2_once_10 : decode cX2_once 10 = .ok (.aload_n 0, 1) := by decide +kernel
theorem dX2_once_11 : decode cX2_once 11 = .ok (.getfield 113, 3) := by decide +kernel
theorem dX2_once_14 : decode cX2_once 14 = .ok (.ifCond .le 37, 3) := by decide +kernel
theorem dX2_once_17 : decode cX2_once 17 = .ok (.aload_n 0, 1) := by decide +kernel
theorem dX2_once_18 : decode cX2_once 18 = .ok (.getfield 58, 3) := by decide +kernel
theorem dX2_once_21 : decode cX2_once 21 = .ok (.iconst 2, 1) := by decide +kernel
theorem dX2_once_22 : decode cX2_once 22 = .ok (.if_icmp .eq 29, 3) := by decide +kernel
theorem dX2_once_25 : decode cX2_once 25 = .ok (.aload_n 0, 1) := by decide +kernel
theorem dX2_once_26 : decode cX2_once 26 = .ok (.dup, 1) := by decide +kernel
theorem dX2_once_27 : decode cX2_once 27 = .ok (.getfield 116, 3) := by decide +kernel
theorem dX2_once_30 : decode cX2_once 30 = .ok (.iconst 1, 1) := by decide +kernel
theorem dX2_once_31 : decode cX2_once 31 = .ok (.iadd, 1) := by decide +kernel
theorem dX2_once_32 : decode cX2_once 32 = .ok (.putfield 116, 3) := by decide +kernel
theorem dX2_once_35 : decode cX2_once 35 = .ok (.aload_n 0, 1) := by decide +kernel
theorem dX2_once_36 : decode cX2_once 36 = .ok (.getfield 116, 3) := by decide +kernel
theorem dX2_once_39 : decode cX2_once 39 = .ok (.aload_n 0, 1) := by decide +kernel
theorem dX2_once_40 : decode cX2_once 40 = .ok (.getfield 113, 3) := by decide +kernel
theorem dX2_once_43 : decode cX2_once 43 = .ok (.if_icmp .le 8, 3) := by decide +kernel
theorem dX2_once_46 : decode cX2_once 46 = .ok (.aload_n 0, 1) := by decide +kernel
theorem dX2_once_47 : decode cX2_once 47 = .ok (.invokevirtual 128, 3) := by decide +kernel
theorem dX2_once_50 : decode cX2_once 50 = .ok (.return_, 1) := by decide +kernel
theorem dX2_once_51 : decode cX2_once 51 = .ok (.aload_n 0, 1) := by decide +kernel
theorem dX2_once_52 : decode cX2_once 52 = .ok (.getfield 58, 3) := by decide +kernel
theorem dX2_once_55 : decode cX2_once 55 = .ok (.ifCond .ne 10, 3) := by decide +kernel
theorem dX2_once_58 : decode cX2_once 58 = .ok (.aload_n 0, 1) := by decide +kernel
theorem dX2_once_59 : decode cX2_once 59 = .ok (.invokevirtual 131, 3) := by decide +kernel
theorem dX2_once_62 : decode cX2_once 62 = .ok (.goto 15, 3) := by decide +kernel
theorem dX2_once_65 : decode cX2_once 65 = .ok (.aload_n 0, 1) := by decide +kernel
theorem dX2_once_66 : decode cX2_once 66 = .ok (.getfield 58, 3) := by decide +kernel
theorem dX2_once_69 : decode cX2_once 69 = .ok (.iconst 2, 1) := by decide +kernel
theorem dX2_once_70 : decode cX2_once 70 = .ok (.if_icmp .eq 7, 3) := by decide +kernel
theorem dX2_once_73 : decode cX2_once 73 = .ok (.aload_n 0, 1) := by decide +kernel
theorem dX2_once_74 : decode cX2_once 74 = .ok (.invokevirtual 134, 3) := by decide +kernel
theorem dX2_once_77 : decode cX2_once 77 = .ok (.return_, 1) := by decide +kernel
set_option maxRecDepth 20000 in
theorem ggX2_tick_X2_once : GoodIn wsX2_tick wsX2_once := goodIn_r _ [6, 7, 8, 9, 10, 11, 12, 13, 5, 14, 15, 16, 1, 17, 18, 19, 20, 21, 22, 23, 24, 25, 26, 27, 28, 29, 30, 31, 32, 33, 34, 35, 36, 37, 38, 39, 40, 41, 42, 43, 44, 45, 46, 47, 48, 49, 50, 51, 52, 53, 54, 55, 56, 57, 58, 59, 60, 61, 62, 63, 64, 65, 66, 67, 68, 69, 70, 71, 72, 73, 74, 75, 76, 77, 78, 79, 80, 81, 82, 83, 84, 85, 86, 87, 88, 89, 90, 91, 92, 93, 94, 95, 96, 97, 98, 99, 100, 101, 102, 103, 104] (by decide +kernel) (by decide +kernel)
set_option maxRecDepth 20000 in
theorem gX2_tick_X2_once : GoodIn wsX2_tick (wsV RX2 137 RX2 yX2_once wsX2_once) := goodIn_app (goodIn_of _ (by decide +kernel)) ggX2_tick_X2_once
theorem dX2_tick_0 : decode cX2_tick 0 = .ok (.iload_n 1, 1) := by decide +kernel
theorem dX2_tick_1 : decode cX2_tick 1 = .ok (.ifCond .lt 10, 3) := by decide +kernel
theorem dX2_tick_4 : decode cX2_tick 4 = .ok (.iload_n 1, 1) := by decide +kernel
theorem dX2_tick_5 : decode cX2_tick 5 = .ok (.sipush 200, 3) := by decide +kernel
theorem dX2_tick_8 : decode cX2_tick 8 = .ok (.if_icmp .le 6, 3) := by decide +kernel
theorem dX2_tick_11 : decode cX2_tick 11 = .ok (.bipush (-2), 2) := by decide +kernel
theorem dX2_tick_13 : decode cX2_tick 13 = .ok (.ireturn, 1) := by decide +kernel
theorem dX2_tick_14 : decode cX2_tick 14 = .ok (.aload_n 0, 1) := by decide +kernel
theorem dX2_tick_15 : decode cX2_tick 15 = .ok (.iconst 0, 1) := by decide +kernel
theorem dX2_tick_16 : decode cX2_tick 16 = .ok (.putfield 71, 3) := by decide +kernel
theorem dX2_tick_19 : decode cX2_tick 19 = .ok (.iconst 0, 1) := by decide +kernel
theorem dX2_tick_20 : decode cX2_tick 20 = .ok (.istore_n 2, 1) := by decide +kernel
theorem dX2_tick_21 : decode cX2_tick 21 = .ok (.iload_n 2, 1) := by decide +kernel
theorem dX2_tick_22 : decode cX2_tick 22 = .ok (.iload_n 1, 1) := by decide +kernel
theorem dX2_tick_23 : decode cX2_tick 23 = .ok (.if_icmp .ge 13, 3) := by decide +kernel
theorem dX2_tick_26 : decode cX2_tick 26 = .ok (.aload_n 0, 1) := by decide +kernel
theorem dX2_tick_27 : decode cX2_tick 27 = .ok (.invokevirtual 137, 3) := by decide +kernel
theorem dX2_tick_30 : decode cX2_tick 30 = .ok (.iinc 2 1, 3) := by decide +kernel
theorem dX2_tick_33 : decode cX2_tick 33 = .ok (.goto (-12), 3) := by decide +kernel
theorem dX2_tick_36 : decode cX2_tick 36 = .ok (.aload_n 0, 1) := by decide +kernel
theorem dX2_tick_37 : decode cX2_tick 37 = .ok (.getfield 71, 3) := by decide +kernel
theorem dX2_tick_40 : decode cX2_tick 40 = .ok (.ireturn, 1) := by decide +kernel
theorem dX2_phase_0 : decode cX2_phase 0 = .ok (.aload_n 0, 1) := by decide +kernel
theorem dX2_phase_1 : decode cX2_phase 1 = .ok (.getfield 58, 3) := by decide +kernel
theorem dX2_phase_4 : decode cX2_phase 4 = .ok (.ireturn, 1) := by decide +kernel
set_option maxRecDepth 20000 in
theorem ggX2_state_X2_none : GoodIn wsX2_state wsX2_none := goodIn_r _ [6, 7, 8, 9, 10, 11, 12, 13, 14, 15, 16, 17, 18, 19, 20, 21, 22, 23, 24, 25, 26, 27, 28, 29, 30, 31] (by decide +kernel) (by decide +kernel)
set_option maxRecDepth 20000 in
theorem gX2_state_X2_none : GoodIn wsX2_state (wsV RX2 67 RX2 yX2_none wsX2_none) := goodIn_app (goodIn_of _ (by decide +kernel)) ggX2_state_X2_none
theorem dX2_state_0 : decode cX2_state 0 = .ok (.aload_n 0, 1) := by decide +kernel
theorem dX2_state_1 : decode cX2_state 1 = .ok (.iload_n 1, 1) := by decide +kernel
theorem dX2_state_2 : decode cX2_state 2 = .ok (.invokevirtual 67, 3) := by decide +kernel
theorem dX2_state_5 : decode cX2_state 5 = .ok (.ifCond .eq 8, 3) := by decide +kernel
theorem dX2_state_8 : decode cX2_state 8 = .ok (.bipush (-2), 2) := by decide +kernel
theorem dX2_state_10 : decode cX2_state 10 = .ok (.goto 9, 3) := by decide +kernel
theorem dX2_state_13 : decode cX2_state 13 = .ok (.aload_n 0, 1) := by decide +kernel
theorem dX2_state_14 : decode cX2_state 14 = .ok (.getfield 22, 3) := by decide +kernel
theorem dX2_state_17 : decode cX2_state 17 = .ok (.iload_n 1, 1) := by decide +kernel
theorem dX2_state_18 : decode cX2_state 18 = .ok (.iaload, 1) := by decide +kernel
theorem dX2_state_19 : decode cX2_state 19 = .ok (.ireturn, 1) := by decide +kernel
set_option maxRecDepth 20000 in
theorem ggX2_uses_X2_none : GoodIn wsX2_uses wsX2_none := goodIn_r _ [6, 7, 8, 9, 10, 11, 12, 13, 14, 15, 16, 17, 18, 19, 20, 21, 22, 23, 24, 25, 26, 27, 28, 29, 30, 31] (by decide +kernel) (by decide +kernel)
set_option maxRecDepth 20000 in
theorem gX2_uses_X2_none : GoodIn wsX2_uses (wsV RX2 67 RX2 yX2_none wsX2_none) := goodIn_app (goodIn_of _ (by decide +kernel)) ggX2_uses_X2_none
theorem dX2_uses_0 : decode cX2_uses 0 = .ok (.aload_n 0, 1) := by decide +kernel
theorem dX2_uses_1 : decode cX2_uses 1 = .ok (.iload_n 1, 1) := by decide +kernel
theorem dX2_uses_2 : decode cX2_uses 2 = .ok (.invokevirtual 67, 3) := by decide +kernel
theorem dX2_uses_5 : decode cX2_uses 5 = .ok (.ifCond .eq 8, 3) := by decide +kernel
theorem dX2_uses_8 : decode cX2_uses 8 = .ok (.bipush (-2), 2) := by decide +kernel
theorem dX2_uses_10 : decode cX2_uses 10 = .ok (.goto 9, 3) := by decide +kernel
theorem dX2_uses_13 : decode cX2_uses 13 = .ok (.aload_n 0, 1) := by decide +kernel
theorem dX2_uses_14 : decode cX2_uses 14 = .ok (.getfield 28, 3) := by decide +kernel
theorem dX2_uses_17 : decode cX2_uses 17 = .ok (.iload_n 1, 1) := by decide +kernel
theorem dX2_uses_18 : decode cX2_uses 18 = .ok (.iaload, 1) := by decide +kernel
theorem dX2_uses_19 : decode cX2_uses 19 = .ok (.ireturn, 1) := by decide +kernel
set_option maxRecDepth 20000 in
theorem ggX2_idle_X2_none : GoodIn wsX2_idle wsX2_none := goodIn_r _ [6, 7, 8, 9, 10, 11, 12, 13, 14, 15, 16, 17, 18, 19, 20, 21, 22, 23, 24, 25, 26, 27, 28, 29, 30, 31] (by decide +kernel) (by decide +kernel)
set_option maxRecDepth 20000 in
theorem gX2_idle_X2_none : GoodIn wsX2_idle (wsV RX2 67 RX2 yX2_none wsX2_none) := goodIn_app (goodIn_of _ (by decide +kernel)) ggX2_idle_X2_none
theorem dX2_idle_0 : decode cX2_idle 0 = .ok (.aload_n 0, 1) := by decide +kernel
theorem dX2_idle_1 : decode cX2_idle 1 = .ok (.iload_n 1, 1) := by decide +kernel
theorem dX2_idle_2 : decode cX2_idle 2 = .ok (.invokevirtual 67, 3) := by decide +kernel
theorem dX2_idle_5 : decode cX2_idle 5 = .ok (.ifCond .eq 8, 3) := by decide +kernel
theorem dX2_idle_8 : decode cX2_idle 8 = .ok (.bipush (-2), 2) := by decide +kernel
theorem dX2_idle_10 : decode cX2_idle 10 = .ok (.goto 9, 3) := by decide +kernel
theorem dX2_idle_13 : decode cX2_idle 13 = .ok (.aload_n 0, 1) := by decide +kernel
theorem dX2_idle_14 : decode cX2_idle 14 = .ok (.getfield 31, 3) := by decide +kernel
theorem dX2_idle_17 : decode cX2_idle 17 = .ok (.iload_n 1, 1) := by decide +kernel
theorem dX2_idle_18 : decode cX2_idle 18 = .ok (.iaload, 1) := by decide +kernel
theorem dX2_idle_19 : decode cX2_idle 19 = .ok (.ireturn, 1) := by decide +kernel
set_option maxRecDepth 20000 in
theorem ggX2_refusals_X2_none : GoodIn wsX2_refusals wsX2_none := goodIn_r _ [6, 7, 8, 9, 10, 11, 12, 13, 14, 15, 16, 17, 18, 19, 20, 21, 22, 23, 24, 25, 26, 27, 28, 29, 30, 31] (by decide +kernel) (by decide +kernel)
set_option maxRecDepth 20000 in
theorem gX2_refusals_X2_none : GoodIn wsX2_refusals (wsV RX2 67 RX2 yX2_none wsX2_none) := goodIn_app (goodIn_of _ (by decide +kernel)) ggX2_refusals_X2_none
theorem dX2_refusals_0 : decode cX2_refusals 0 = .ok (.aload_n 0, 1) := by decide +kernel
theorem dX2_refusals_1 : decode cX2_refusals 1 = .ok (.iload_n 1, 1) := by decide +kernel
theorem dX2_refusals_2 : decode cX2_refusals 2 = .ok (.invokevirtual 67, 3) := by decide +kernel
theorem dX2_refusals_5 : decode cX2_refusals 5 = .ok (.ifCond .eq 8, 3) := by decide +kernel
theorem dX2_refusals_8 : decode cX2_refusals 8 = .ok (.bipush (-2), 2) := by decide +kernel
theorem dX2_refusals_10 : decode cX2_refusals 10 = .ok (.goto 9, 3) := by decide +kernel
theorem dX2_refusals_13 : decode cX2_refusals 13 = .ok (.aload_n 0, 1) := by decide +kernel
theorem dX2_refusals_14 : decode cX2_refusals 14 = .ok (.getfield 34, 3) := by decide +kernel
theorem dX2_refusals_17 : decode cX2_refusals 17 = .ok (.iload_n 1, 1) := by decide +kernel
theorem dX2_refusals_18 : decode cX2_refusals 18 = .ok (.iaload, 1) := by decide +kernel
theorem dX2_refusals_19 : decode cX2_refusals 19 = .ok (.ireturn, 1) := by decide +kernel
theorem dX2_due_0 : decode cX2_due 0 = .ok (.aload_n 0, 1) := by decide +kernel
theorem dX2_due_1 : decode cX2_due 1 = .ok (.getfield 44, 3) := by decide +kernel
theorem dX2_due_4 : decode cX2_due 4 = .ok (.ireturn, 1) := by decide +kernel
theorem dX2_left_0 : decode cX2_left 0 = .ok (.aload_n 0, 1) := by decide +kernel
theorem dX2_left_1 : decode cX2_left 1 = .ok (.getfield 44, 3) := by decide +kernel
theorem dX2_left_4 : decode cX2_left 4 = .ok (.ifCond .ge 7, 3) := by decide +kernel
theorem dX2_left_7 : decode cX2_left 7 = .ok (.iconst 0, 1) := by decide +kernel
theorem dX2_left_8 : decode cX2_left 8 = .ok (.goto 7, 3) := by decide +kernel
theorem dX2_left_11 : decode cX2_left 11 = .ok (.aload_n 0, 1) := by decide +kernel
theorem dX2_left_12 : decode cX2_left 12 = .ok (.getfield 89, 3) := by decide +kernel
theorem dX2_left_15 : decode cX2_left 15 = .ok (.ireturn, 1) := by decide +kernel
theorem dX2_named_0 : decode cX2_named 0 = .ok (.aload_n 0, 1) := by decide +kernel
theorem dX2_named_1 : decode cX2_named 1 = .ok (.getfield 48, 3) := by decide +kernel
theorem dX2_named_4 : decode cX2_named 4 = .ok (.ireturn, 1) := by decide +kernel
theorem dX2_figure_0 : decode cX2_figure 0 = .ok (.iload_n 1, 1) := by decide +kernel
theorem dX2_figure_1 : decode cX2_figure 1 = .ok (.tableswitch 78 0 6 #[43, 48, 53, 58, 63, 68, 73], 43) := by decide +kernel
theorem dX2_figure_44 : decode cX2_figure 44 = .ok (.aload_n 0, 1) := by decide +kernel
theorem dX2_figure_45 : decode cX2_figure 45 = .ok (.getfield 125, 3) := by decide +kernel
theorem dX2_figure_48 : decode cX2_figure 48 = .ok (.ireturn, 1) := by decide +kernel
theorem dX2_figure_49 : decode cX2_figure 49 = .ok (.aload_n 0, 1) := by decide +kernel
theorem dX2_figure_50 : decode cX2_figure 50 = .ok (.getfield 116, 3) := by decide +kernel
theorem dX2_figure_53 : decode cX2_figure 53 = .ok (.ireturn, 1) := by decide +kernel
theorem dX2_figure_54 : decode cX2_figure 54 = .ok (.aload_n 0, 1) := by decide +kernel
theorem dX2_figure_55 : decode cX2_figure 55 = .ok (.getfield 119, 3) := by decide +kernel
theorem dX2_figure_58 : decode cX2_figure 58 = .ok (.ireturn, 1) := by decide +kernel
theorem dX2_figure_59 : decode cX2_figure 59 = .ok (.aload_n 0, 1) := by decide +kernel
theorem dX2_figure_60 : decode cX2_figure 60 = .ok (.getfield 82, 3) := by decide +kernel
theorem dX2_figure_63 : decode cX2_figure 63 = .ok (.ireturn, 1) := by decide +kernel
theorem dX2_figure_64 : decode cX2_figure 64 = .ok (.aload_n 0, 1) := by decide +kernel
theorem dX2_figure_65 : decode cX2_figure 65 = .ok (.getfield 104, 3) := by decide +kernel
theorem dX2_figure_68 : decode cX2_figure 68 = .ok (.ireturn, 1) := by decide +kernel
theorem dX2_figure_69 : decode cX2_figure 69 = .ok (.aload_n 0, 1) := by decide +kernel
theorem dX2_figure_70 : decode cX2_figure 70 = .ok (.getfield 101, 3) := by decide +kernel
theorem dX2_figure_73 : decode cX2_figure 73 = .ok (.ireturn, 1) := by decide +kernel
theorem dX2_figure_74 : decode cX2_figure 74 = .ok (.aload_n 0, 1) := by decide +kernel
theorem dX2_figure_75 : decode cX2_figure 75 = .ok (.getfield 51, 3) := by decide +kernel
theorem dX2_figure_78 : decode cX2_figure 78 = .ok (.ireturn, 1) := by decide +kernel
theorem dX2_figure_79 : decode cX2_figure 79 = .ok (.bipush (-2), 2) := by decide +kernel
theorem dX2_figure_81 : decode cX2_figure 81 = .ok (.ireturn, 1) := by decide +kernel
theorem dJ9_max_7cf53_0 : decode cJ9_max_7cf53 0 = .ok (.iload_n 0, 1) := by decide +kernel
theorem dJ9_max_7cf53_1 : decode cJ9_max_7cf53 1 = .ok (.iload_n 1, 1) := by decide +kernel
theorem dJ9_max_7cf53_2 : decode cJ9_max_7cf53 2 = .ok (.if_icmp .lt 7, 3) := by decide +kernel
theorem dJ9_max_7cf53_5 : decode cJ9_max_7cf53 5 = .ok (.iload_n 0, 1) := by decide +kernel
theorem dJ9_max_7cf53_6 : decode cJ9_max_7cf53 6 = .ok (.goto 4, 3) := by decide +kernel
theorem dJ9_max_7cf53_9 : decode cJ9_max_7cf53 9 = .ok (.iload_n 1, 1) := by decide +kernel
theorem dJ9_max_7cf53_10 : decode cJ9_max_7cf53 10 = .ok (.ireturn, 1) := by decide +kernel
theorem dJ9_min_7cf53_0 : decode cJ9_min_7cf53 0 = .ok (.iload_n 0, 1) := by decide +kernel
theorem dJ9_min_7cf53_1 : decode cJ9_min_7cf53 1 = .ok (.iload_n 1, 1) := by decide +kernel
theorem dJ9_min_7cf53_2 : decode cJ9_min_7cf53 2 = .ok (.if_icmp .gt 7, 3) := by decide +kernel
theorem dJ9_min_7cf53_5 : decode cJ9_min_7cf53 5 = .ok (.iload_n 0, 1) := by decide +kernel
theorem dJ9_min_7cf53_6 : decode cJ9_min_7cf53 6 = .ok (.goto 4, 3) := by decide +kernel
theorem dJ9_min_7cf53_9 : decode cJ9_min_7cf53 9 = .ok (.iload_n 1, 1) := by decide +kernel
theorem dJ9_min_7cf53_10 : decode cJ9_min_7cf53 10 = .ok (.ireturn, 1) := by decide +kernel
theorem dJxa1e45_init_da8c8_0 : decode cJxa1e45_init_da8c8 0 = .ok (.aload_n 0, 1) := by decide +kernel
theorem dJxa1e45_init_da8c8_1 : decode cJxa1e45_init_da8c8 1 = .ok (.invokespecial 1, 3) := by decide +kernel
theorem dJxa1e45_init_da8c8_4 : decode cJxa1e45_init_da8c8 4 = .ok (.return_, 1) := by decide +kernel
set_option maxRecDepth 20000 in
theorem ggJxc12de_init_da8c8_Jxa1e45_init_da8c8 : GoodIn wsJxc12de_init_da8c8 wsJxa1e45_init_da8c8 := goodIn_r _ [5, 6, 7, 8] (by decide +kernel) (by decide +kernel)
set_option maxRecDepth 20000 in
theorem gJxc12de_init_da8c8_Jxa1e45_init_da8c8 : GoodIn wsJxc12de_init_da8c8 (wsJxa1e45_init_da8c8) := ggJxc12de_init_da8c8_Jxa1e45_init_da8c8
theorem dJxc12de_init_da8c8_0 : decode cJxc12de_init_da8c8 0 = .ok (.aload_n 0, 1) := by decide +kernel
theorem dJxc12de_init_da8c8_1 : decode cJxc12de_init_da8c8 1 = .ok (.invokespecial 1, 3) := by decide +kernel
theorem dJxc12de_init_da8c8_4 : decode cJxc12de_init_da8c8 4 = .ok (.aload_n 0, 1) := by decide +kernel
theorem dJxc12de_init_da8c8_5 : decode cJxc12de_init_da8c8 5 = .ok (.iconst 0, 1) := by decide +kernel
theorem dJxc12de_init_da8c8_6 : decode cJxc12de_init_da8c8 6 = .ok (.putfield 7, 3) := by decide +kernel
theorem dJxc12de_init_da8c8_9 : decode cJxc12de_init_da8c8 9 = .ok (.return_, 1) := by decide +kernel
set_option maxRecDepth 20000 in
theorem ggJx4a65c_init_da8c8_Jxc12de_init_da8c8 : GoodIn wsJx4a65c_init_da8c8 wsJxc12de_init_da8c8 := goodIn_r _ [6, 7, 8, 9, 10, 11, 12, 13, 14, 15, 16, 17] (by decide +kernel) (by decide +kernel)
set_option maxRecDepth 20000 in
theorem gJx4a65c_init_da8c8_Jxc12de_init_da8c8 : GoodIn wsJx4a65c_init_da8c8 (wsJxc12de_init_da8c8) := ggJx4a65c_init_da8c8_Jxc12de_init_da8c8
theorem dJx4a65c_init_da8c8_0 : decode cJx4a65c_init_da8c8 0 = .ok (.aload_n 0, 1) := by decide +kernel
theorem dJx4a65c_init_da8c8_1 : decode cJx4a65c_init_da8c8 1 = .ok (.invokespecial 1, 3) := by decide +kernel
theorem dJx4a65c_init_da8c8_4 : decode cJx4a65c_init_da8c8 4 = .ok (.aload_n 0, 1) := by decide +kernel
theorem dJx4a65c_init_da8c8_5 : decode cJx4a65c_init_da8c8 5 = .ok (.getstatic 39, 3) := by decide +kernel
theorem dJx4a65c_init_da8c8_8 : decode cJx4a65c_init_da8c8 8 = .ok (.putfield 9, 3) := by decide +kernel
theorem dJx4a65c_init_da8c8_11 : decode cJx4a65c_init_da8c8 11 = .ok (.return_, 1) := by decide +kernel
set_option maxRecDepth 20000 in
theorem ggJx4a65c_grow_92f84_J8_newLength_cabcc : GoodIn wsJx4a65c_grow_92f84 wsJ8_newLength_cabcc := goodIn_r _ [11, 12, 4, 5, 6, 13, 14, 15, 10, 16] (by decide +kernel) (by decide +kernel)
set_option maxRecDepth 20000 in
theorem gJx4a65c_grow_92f84_J8_newLength_cabcc : GoodIn wsJx4a65c_grow_92f84 (va_wsS RJx4a65c 73 yJ8_newLength_cabcc wsJ8_newLength_cabcc) := goodIn_app (goodIn_of _ (by decide +kernel)) ggJx4a65c_grow_92f84_J8_newLength_cabcc
set_option maxRecDepth 20000 in
theorem ggJx4a65c_grow_92f84_J7_copyOf_1904c : GoodIn wsJx4a65c_grow_92f84 wsJ7_copyOf_1904c := goodIn_r _ [20, 21, 22, 23, 24, 25, 26, 19, 27, 28, 29, 30, 31, 5, 32, 33, 34, 35, 36] (by decide +kernel) (by decide +kernel)
set_option maxRecDepth 20000 in
theorem gJx4a65c_grow_92f84_J7_copyOf_1904c : GoodIn wsJx4a65c_grow_92f84 (va_wsS RJx4a65c 66 yJ7_copyOf_1904c wsJ7_copyOf_1904c) := goodIn_app (goodIn_of _ (by decide +kernel)) ggJx4a65c_grow_92f84_J7_copyOf_1904c
theorem dJx4a65c_grow_92f84_0 : decode cJx4a65c_grow_92f84 0 = .ok (.aload_n 0, 1) := by decide +kernel
theorem dJx4a65c_grow_92f84_1 : decode cJx4a65c_grow_92f84 1 = .ok (.getfield 9, 3) := by decide +kernel
theorem dJx4a65c_grow_92f84_4 : decode cJx4a65c_grow_92f84 4 = .ok (.arraylength, 1) := by decide +kernel
theorem dJx4a65c_grow_92f84_5 : decode cJx4a65c_grow_92f84 5 = .ok (.istore_n 2, 1) := by decide +kernel
theorem dJx4a65c_grow_92f84_6 : decode cJx4a65c_grow_92f84 6 = .ok (.iload_n 2, 1) := by decide +kernel
theorem dJx4a65c_grow_92f84_7 : decode cJx4a65c_grow_92f84 7 = .ok (.ifCond .gt 13, 3) := by decide +kernel
theorem dJx4a65c_grow_92f84_10 : decode cJx4a65c_grow_92f84 10 = .ok (.aload_n 0, 1) := by decide +kernel
theorem dJx4a65c_grow_92f84_11 : decode cJx4a65c_grow_92f84 11 = .ok (.getfield 9, 3) := by decide +kernel
theorem dJx4a65c_grow_92f84_14 : decode cJx4a65c_grow_92f84 14 = .ok (.getstatic 39, 3) := by decide +kernel
theorem dJx4a65c_grow_92f84_17 : decode cJx4a65c_grow_92f84 17 = .ok (.if_acmp .eq 28, 3) := by decide +kernel
theorem dJx4a65c_grow_92f84_20 : decode cJx4a65c_grow_92f84 20 = .ok (.iload_n 2, 1) := by decide +kernel
theorem dJx4a65c_grow_92f84_21 : decode cJx4a65c_grow_92f84 21 = .ok (.iload_n 1, 1) := by decide +kernel
theorem dJx4a65c_grow_92f84_22 : decode cJx4a65c_grow_92f84 22 = .ok (.iload_n 2, 1) := by decide +kernel
theorem dJx4a65c_grow_92f84_23 : decode cJx4a65c_grow_92f84 23 = .ok (.isub, 1) := by decide +kernel
theorem dJx4a65c_grow_92f84_24 : decode cJx4a65c_grow_92f84 24 = .ok (.iload_n 2, 1) := by decide +kernel
theorem dJx4a65c_grow_92f84_25 : decode cJx4a65c_grow_92f84 25 = .ok (.iconst 1, 1) := by decide +kernel
theorem dJx4a65c_grow_92f84_26 : decode cJx4a65c_grow_92f84 26 = .ok (.ishr, 1) := by decide +kernel
theorem dJx4a65c_grow_92f84_27 : decode cJx4a65c_grow_92f84 27 = .ok (.invokestatic 73, 3) := by decide +kernel
theorem dJx4a65c_grow_92f84_30 : decode cJx4a65c_grow_92f84 30 = .ok (.istore_n 3, 1) := by decide +kernel
theorem dJx4a65c_grow_92f84_31 : decode cJx4a65c_grow_92f84 31 = .ok (.aload_n 0, 1) := by decide +kernel
theorem dJx4a65c_grow_92f84_32 : decode cJx4a65c_grow_92f84 32 = .ok (.aload_n 0, 1) := by decide +kernel
theorem dJx4a65c_grow_92f84_33 : decode cJx4a65c_grow_92f84 33 = .ok (.getfield 9, 3) := by decide +kernel
theorem dJx4a65c_grow_92f84_36 : decode cJx4a65c_grow_92f84 36 = .ok (.iload_n 3, 1) := by decide +kernel
theorem dJx4a65c_grow_92f84_37 : decode cJx4a65c_grow_92f84 37 = .ok (.invokestatic 66, 3) := by decide +kernel
theorem dJx4a65c_grow_92f84_40 : decode cJx4a65c_grow_92f84 40 = .ok (.dup_x1, 1) := by decide +kernel
theorem dJx4a65c_grow_92f84_41 : decode cJx4a65c_grow_92f84 41 = .ok (.putfield 9, 3) := by decide +kernel
theorem dJx4a65c_grow_92f84_44 : decode cJx4a65c_grow_92f84 44 = .ok (.areturn, 1) := by decide +kernel
theorem dJx4a65c_grow_92f84_45 : decode cJx4a65c_grow_92f84 45 = .ok (.aload_n 0, 1) := by decide +kernel
theorem dJx4a65c_grow_92f84_46 : decode cJx4a65c_grow_92f84 46 = .ok (.bipush 10, 2) := by decide +kernel
theorem dJx4a65c_grow_92f84_48 : decode cJx4a65c_grow_92f84 48 = .ok (.iload_n 1, 1) := by decide +kernel
theorem dJx4a65c_grow_92f84_49 : decode cJx4a65c_grow_92f84 49 = .ok (.invokestatic 79, 3) := by decide +kernel
theorem dJx4a65c_grow_92f84_52 : decode cJx4a65c_grow_92f84 52 = .ok (.anewarray 7, 3) := by decide +kernel
theorem dJx4a65c_grow_92f84_55 : decode cJx4a65c_grow_92f84 55 = .ok (.dup_x1, 1) := by decide +kernel
theorem dJx4a65c_grow_92f84_56 : decode cJx4a65c_grow_92f84 56 = .ok (.putfield 9, 3) := by decide +kernel
theorem dJx4a65c_grow_92f84_59 : decode cJx4a65c_grow_92f84 59 = .ok (.areturn, 1) := by decide +kernel
set_option maxRecDepth 20000 in
theorem ggJx4a65c_grow_d5877_Jx4a65c_grow_92f84 : GoodIn wsJx4a65c_grow_d5877 wsJx4a65c_grow_92f84 := goodIn_r _ [6, 7, 8, 9, 10, 11, 12, 13, 14, 15, 16, 17, 18, 19, 20, 21, 22, 23, 24, 25, 26, 27, 28, 29, 30, 31, 32, 33, 34, 35, 36, 37, 38, 39, 40, 41, 42, 43, 44, 45] (by decide +kernel) (by decide +kernel)
set_option maxRecDepth 20000 in
theorem gJx4a65c_grow_d5877_Jx4a65c_grow_92f84 : GoodIn wsJx4a65c_grow_d5877 (wsV RJx4a65c 69 RJx4a65c yJx4a65c_grow_92f84 wsJx4a65c_grow_92f84) := goodIn_app (goodIn_of _ (by decide +kernel)) ggJx4a65c_grow_d5877_Jx4a65c_grow_92f84
theorem dJx4a65c_grow_d5877_0 : decode cJx4a65c_grow_d5877 0 = .ok (.aload_n 0, 1) := by decide +kernel
theorem dJx4a65c_grow_d5877_1 : decode cJx4a65c_grow_d5877 1 = .ok (.aload_n 0, 1) := by decide +kernel
theorem dJx4a65c_grow_d5877_2 : decode cJx4a65c_grow_d5877 2 = .ok (.getfield 48, 3) := by decide +kernel
theorem dJx4a65c_grow_d5877_5 : decode cJx4a65c_grow_d5877 5 = .ok (.iconst 1, 1) := by decide +kernel
theorem dJx4a65c_grow_d5877_6 : decode cJx4a65c_grow_d5877 6 = .ok (.iadd, 1) := by decide +kernel
theorem dJx4a65c_grow_d5877_7 : decode cJx4a65c_grow_d5877 7 = .ok (.invokevirtual 69, 3) := by decide +kernel
theorem dJx4a65c_grow_d5877_10 : decode cJx4a65c_grow_d5877 10 = .ok (.areturn, 1) := by decide +kernel
theorem dJx4a65c_size_8abf5_0 : decode cJx4a65c_size_8abf5 0 = .ok (.aload_n 0, 1) := by decide +kernel
theorem dJx4a65c_size_8abf5_1 : decode cJx4a65c_size_8abf5 1 = .ok (.getfield 48, 3) := by decide +kernel
theorem dJx4a65c_size_8abf5_4 : decode cJx4a65c_size_8abf5 4 = .ok (.ireturn, 1) := by decide +kernel
theorem dJx4a65c_elementData_915e3_0 : decode cJx4a65c_elementData_915e3 0 = .ok (.aload_n 0, 1) := by decide +kernel
theorem dJx4a65c_elementData_915e3_1 : decode cJx4a65c_elementData_915e3 1 = .ok (.getfield 9, 3) := by decide +kernel
theorem dJx4a65c_elementData_915e3_4 : decode cJx4a65c_elementData_915e3 4 = .ok (.iload_n 1, 1) := by decide +kernel
theorem dJx4a65c_elementData_915e3_5 : decode cJx4a65c_elementData_915e3 5 = .ok (.aaload, 1) := by decide +kernel
theorem dJx4a65c_elementData_915e3_6 : decode cJx4a65c_elementData_915e3 6 = .ok (.areturn, 1) := by decide +kernel
set_option maxRecDepth 20000 in
theorem ggJx4a65c_get_915e3_J15_checkIndex_7cf53 : GoodIn wsJx4a65c_get_915e3 wsJ15_checkIndex_7cf53 := goodIn_r _ [5, 6, 7, 8, 9] (by decide +kernel) (by decide +kernel)
set_option maxRecDepth 20000 in
theorem gJx4a65c_get_915e3_J15_checkIndex_7cf53 : GoodIn wsJx4a65c_get_915e3 (va_wsS RJx4a65c 118 yJ15_checkIndex_7cf53 wsJ15_checkIndex_7cf53) := goodIn_app (goodIn_of _ (by decide +kernel)) ggJx4a65c_get_915e3_J15_checkIndex_7cf53
set_option maxRecDepth 20000 in
theorem ggJx4a65c_get_915e3_Jx4a65c_elementData_915e3 : GoodIn wsJx4a65c_get_915e3 wsJx4a65c_elementData_915e3 := goodIn_r _ [14, 15, 16, 17, 18] (by decide +kernel) (by decide +kernel)
set_option maxRecDepth 20000 in
theorem gJx4a65c_get_915e3_Jx4a65c_elementData_915e3 : GoodIn wsJx4a65c_get_915e3 (wsV RJx4a65c 123 RJx4a65c yJx4a65c_elementData_915e3 wsJx4a65c_elementData_915e3) := goodIn_app (goodIn_of _ (by decide +kernel)) ggJx4a65c_get_915e3_Jx4a65c_elementData_915e3
theorem dJx4a65c_get_915e3_0 : decode cJx4a65c_get_915e3 0 = .ok (.iload_n 1, 1) := by decide +kernel
theorem dJx4a65c_get_915e3_1 : decode cJx4a65c_get_915e3 1 = .ok (.aload_n 0, 1) := by decide +kernel
theorem dJx4a65c_get_915e3_2 : decode cJx4a65c_get_915e3 2 = .ok (.getfield 48, 3) := by decide +kernel
theorem dJx4a65c_get_915e3_5 : decode cJx4a65c_get_915e3 5 = .ok (.invokestatic 118, 3) := by decide +kernel
theorem dJx4a65c_get_915e3_8 : decode cJx4a65c_get_915e3 8 = .ok (.pop, 1) := by decide +kernel
theorem dJx4a65c_get_915e3_9 : decode cJx4a65c_get_915e3 9 = .ok (.aload_n 0, 1) := by decide +kernel
theorem dJx4a65c_get_915e3_10 : decode cJx4a65c_get_915e3 10 = .ok (.iload_n 1, 1) := by decide +kernel
theorem dJx4a65c_get_915e3_11 : decode cJx4a65c_get_915e3 11 = .ok (.invokevirtual 123, 3) := by decide +kernel
theorem dJx4a65c_get_915e3_14 : decode cJx4a65c_get_915e3 14 = .ok (.areturn, 1) := by decide +kernel
set_option maxRecDepth 20000 in
theorem ggJx4a65c_add_72be8_Jx4a65c_grow_d5877 : GoodIn wsJx4a65c_add_72be8 wsJx4a65c_grow_d5877 := goodIn_r _ [6, 1, 7, 8, 9, 5, 10, 11, 12, 13, 14, 15, 16, 17, 18, 19, 20, 21, 22, 23, 24, 25, 26, 27, 28, 29, 30, 31, 32, 33, 34, 35, 36, 37, 38, 39, 40, 41, 42, 43, 44, 45, 46, 47, 48, 49] (by decide +kernel) (by decide +kernel)
set_option maxRecDepth 20000 in
theorem gJx4a65c_add_72be8_Jx4a65c_grow_d5877 : GoodIn wsJx4a65c_add_72be8 (wsV RJx4a65c 129 RJx4a65c yJx4a65c_grow_d5877 wsJx4a65c_grow_d5877) := goodIn_app (goodIn_of _ (by decide +kernel)) ggJx4a65c_add_72be8_Jx4a65c_grow_d5877
theorem dJx4a65c_add_72be8_0 : decode cJx4a65c_add_72be8 0 = .ok (.iload_n 3, 1) := by decide +kernel
theorem dJx4a65c_add_72be8_1 : decode cJx4a65c_add_72be8 1 = .ok (.aload_n 2, 1) := by decide +kernel
theorem dJx4a65c_add_72be8_2 : decode cJx4a65c_add_72be8 2 = .ok (.arraylength, 1) := by decide +kernel
theorem dJx4a65c_add_72be8_3 : decode cJx4a65c_add_72be8 3 = .ok (.if_icmp .ne 8, 3) := by decide +kernel
theorem dJx4a65c_add_72be8_6 : decode cJx4a65c_add_72be8 6 = .ok (.aload_n 0, 1) := by decide +kernel
theorem dJx4a65c_add_72be8_7 : decode cJx4a65c_add_72be8 7 = .ok (.invokevirtual 129, 3) := by decide +kernel
theorem dJx4a65c_add_72be8_10 : decode cJx4a65c_add_72be8 10 = .ok (.astore_n 2, 1) := by decide +kernel
theorem dJx4a65c_add_72be8_11 : decode cJx4a65c_add_72be8 11 = .ok (.aload_n 2, 1) := by decide +kernel
theorem dJx4a65c_add_72be8_12 : decode cJx4a65c_add_72be8 12 = .ok (.iload_n 3, 1) := by decide +kernel
theorem dJx4a65c_add_72be8_13 : decode cJx4a65c_add_72be8 13 = .ok (.aload_n 1, 1) := by decide +kernel
theorem dJx4a65c_add_72be8_14 : decode cJx4a65c_add_72be8 14 = .ok (.aastore, 1) := by decide +kernel
theorem dJx4a65c_add_72be8_15 : decode cJx4a65c_add_72be8 15 = .ok (.aload_n 0, 1) := by decide +kernel
theorem dJx4a65c_add_72be8_16 : decode cJx4a65c_add_72be8 16 = .ok (.iload_n 3, 1) := by decide +kernel
theorem dJx4a65c_add_72be8_17 : decode cJx4a65c_add_72be8 17 = .ok (.iconst 1, 1) := by decide +kernel
theorem dJx4a65c_add_72be8_18 : decode cJx4a65c_add_72be8 18 = .ok (.iadd, 1) := by decide +kernel
theorem dJx4a65c_add_72be8_19 : decode cJx4a65c_add_72be8 19 = .ok (.putfield 48, 3) := by decide +kernel
theorem dJx4a65c_add_72be8_22 : decode cJx4a65c_add_72be8 22 = .ok (.return_, 1) := by decide +kernel
set_option maxRecDepth 20000 in
theorem ggJx4a65c_add_9ea2d_Jx4a65c_add_72be8 : GoodIn wsJx4a65c_add_9ea2d wsJx4a65c_add_72be8 := goodIn_r _ [9, 4, 10, 11, 12, 8, 13, 14, 15, 16, 17, 3, 18, 19, 20, 21, 22, 23, 24, 25, 26, 27, 28, 29, 30, 31, 32, 33, 34, 35, 36, 37, 38, 39, 40, 41, 42, 43, 44, 45, 46, 47, 48, 49, 50, 51, 52, 53, 54, 55] (by decide +kernel) (by decide +kernel)
set_option maxRecDepth 20000 in
theorem gJx4a65c_add_9ea2d_Jx4a65c_add_72be8 : GoodIn wsJx4a65c_add_9ea2d (wsV RJx4a65c 131 RJx4a65c yJx4a65c_add_72be8 wsJx4a65c_add_72be8) := goodIn_app (goodIn_of _ (by decide +kernel)) ggJx4a65c_add_9ea2d_Jx4a65c_add_72be8
theorem dJx4a65c_add_9ea2d_0 : decode cJx4a65c_add_9ea2d 0 = .ok (.aload_n 0, 1) := by decide +kernel
theorem dJx4a65c_add_9ea2d_1 : decode cJx4a65c_add_9ea2d 1 = .ok (.dup, 1) := by decide +kernel
theorem dJx4a65c_add_9ea2d_2 : decode cJx4a65c_add_9ea2d 2 = .ok (.getfield 63, 3) := by decide +kernel
theorem dJx4a65c_add_9ea2d_5 : decode cJx4a65c_add_9ea2d 5 = .ok (.iconst 1, 1) := by decide +kernel
theorem dJx4a65c_add_9ea2d_6 : decode cJx4a65c_add_9ea2d 6 = .ok (.iadd, 1) := by decide +kernel
theorem dJx4a65c_add_9ea2d_7 : decode cJx4a65c_add_9ea2d 7 = .ok (.putfield 63, 3) := by decide +kernel
theorem dJx4a65c_add_9ea2d_10 : decode cJx4a65c_add_9ea2d 10 = .ok (.aload_n 0, 1) := by decide +kernel
theorem dJx4a65c_add_9ea2d_11 : decode cJx4a65c_add_9ea2d 11 = .ok (.aload_n 1, 1) := by decide +kernel
theorem dJx4a65c_add_9ea2d_12 : decode cJx4a65c_add_9ea2d 12 = .ok (.aload_n 0, 1) := by decide +kernel
theorem dJx4a65c_add_9ea2d_13 : decode cJx4a65c_add_9ea2d 13 = .ok (.getfield 9, 3) := by decide +kernel
theorem dJx4a65c_add_9ea2d_16 : decode cJx4a65c_add_9ea2d 16 = .ok (.aload_n 0, 1) := by decide +kernel
theorem dJx4a65c_add_9ea2d_17 : decode cJx4a65c_add_9ea2d 17 = .ok (.getfield 48, 3) := by decide +kernel
theorem dJx4a65c_add_9ea2d_20 : decode cJx4a65c_add_9ea2d 20 = .ok (.invokevirtual 131, 3) := by decide +kernel
theorem dJx4a65c_add_9ea2d_23 : decode cJx4a65c_add_9ea2d 23 = .ok (.iconst 1, 1) := by decide +kernel
theorem dJx4a65c_add_9ea2d_24 : decode cJx4a65c_add_9ea2d 24 = .ok (.ireturn, 1) := by decide +kernel
set_option maxRecDepth 20000 in
theorem ggJx4a65c_add_7a177_Jx4a65c_rangeCheckForAdd_d00df : GoodIn wsJx4a65c_add_7a177 wsJx4a65c_rangeCheckForAdd_d00df := goodIn_r _ [13, 3, 54, 55, 56] (by decide +kernel) (by decide +kernel)
set_option maxRecDepth 20000 in
theorem gJx4a65c_add_7a177_Jx4a65c_rangeCheckForAdd_d00df : GoodIn wsJx4a65c_add_7a177 (wsV RJx4a65c 135 RJx4a65c yJx4a65c_rangeCheckForAdd_d00df wsJx4a65c_rangeCheckForAdd_d00df) := goodIn_app (goodIn_of _ (by decide +kernel)) ggJx4a65c_add_7a177_Jx4a65c_rangeCheckForAdd_d00df
set_option maxRecDepth 20000 in
theorem ggJx4a65c_add_7a177_Jx4a65c_grow_d5877 : GoodIn wsJx4a65c_add_7a177 wsJx4a65c_grow_d5877 := goodIn_r _ [17, 3, 18, 19, 20, 12, 21, 4, 22, 23, 24, 25, 26, 27, 28, 29, 30, 31, 32, 33, 34, 35, 36, 37, 38, 39, 40, 41, 42, 43, 44, 45, 46, 47, 48, 49, 50, 51, 52, 53, 6, 7, 8, 54, 55, 56] (by decide +kernel) (by decide +kernel)
set_option maxRecDepth 20000 in
theorem gJx4a65c_add_7a177_Jx4a65c_grow_d5877 : GoodIn wsJx4a65c_add_7a177 (wsV RJx4a65c 129 RJx4a65c yJx4a65c_grow_d5877 wsJx4a65c_grow_d5877) := goodIn_app (goodIn_of _ (by decide +kernel)) ggJx4a65c_add_7a177_Jx4a65c_grow_d5877
theorem dJx4a65c_add_7a177_0 : decode cJx4a65c_add_7a177 0 = .ok (.aload_n 0, 1) := by decide +kernel
theorem dJx4a65c_add_7a177_1 : decode cJx4a65c_add_7a177 1 = .ok (.iload_n 1, 1) := by decide +kernel
theorem dJx4a65c_add_7a177_2 : decode cJx4a65c_add_7a177 2 = .ok (.invokevirtual 135, 3) := by decide +kernel
theorem dJx4a65c_add_7a177_5 : decode cJx4a65c_add_7a177 5 = .ok (.aload_n 0, 1) := by decide +kernel
theorem dJx4a65c_add_7a177_6 : decode cJx4a65c_add_7a177 6 = .ok (.dup, 1) := by decide +kernel
theorem dJx4a65c_add_7a177_7 : decode cJx4a65c_add_7a177 7 = .ok (.getfield 63, 3) := by decide +kernel
theorem dJx4a65c_add_7a177_10 : decode cJx4a65c_add_7a177 10 = .ok (.iconst 1, 1) := by decide +kernel
theorem dJx4a65c_add_7a177_11 : decode cJx4a65c_add_7a177 11 = .ok (.iadd, 1) := by decide +kernel
theorem dJx4a65c_add_7a177_12 : decode cJx4a65c_add_7a177 12 = .ok (.putfield 63, 3) := by decide +kernel
theorem dJx4a65c_add_7a177_15 : decode cJx4a65c_add_7a177 15 = .ok (.aload_n 0, 1) := by decide +kernel
theorem dJx4a65c_add_7a177_16 : decode cJx4a65c_add_7a177 16 = .ok (.getfield 48, 3) := by decide +kernel
theorem dJx4a65c_add_7a177_19 : decode cJx4a65c_add_7a177 19 = .ok (.dup, 1) := by decide +kernel
theorem dJx4a65c_add_7a177_20 : decode cJx4a65c_add_7a177 20 = .ok (.istore_n 3, 1) := by decide +kernel
theorem dJx4a65c_add_7a177_21 : decode cJx4a65c_add_7a177 21 = .ok (.aload_n 0, 1) := by decide +kernel
theorem dJx4a65c_add_7a177_22 : decode cJx4a65c_add_7a177 22 = .ok (.getfield 9, 3) := by decide +kernel
theorem dJx4a65c_add_7a177_25 : decode cJx4a65c_add_7a177 25 = .ok (.dup, 1) := by decide +kernel
theorem dJx4a65c_add_7a177_26 : decode cJx4a65c_add_7a177 26 = .ok (.astore 4, 2) := by decide +kernel
theorem dJx4a65c_add_7a177_28 : decode cJx4a65c_add_7a177 28 = .ok (.arraylength, 1) := by decide +kernel
theorem dJx4a65c_add_7a177_29 : decode cJx4a65c_add_7a177 29 = .ok (.if_icmp .ne 9, 3) := by decide +kernel
theorem dJx4a65c_add_7a177_32 : decode cJx4a65c_add_7a177 32 = .ok (.aload_n 0, 1) := by decide +kernel
theorem dJx4a65c_add_7a177_33 : decode cJx4a65c_add_7a177 33 = .ok (.invokevirtual 129, 3) := by decide +kernel
theorem dJx4a65c_add_7a177_36 : decode cJx4a65c_add_7a177 36 = .ok (.astore 4, 2) := by decide +kernel
theorem dJx4a65c_add_7a177_38 : decode cJx4a65c_add_7a177 38 = .ok (.aload 4, 2) := by decide +kernel
theorem dJx4a65c_add_7a177_40 : decode cJx4a65c_add_7a177 40 = .ok (.iload_n 1, 1) := by decide +kernel
theorem dJx4a65c_add_7a177_41 : decode cJx4a65c_add_7a177 41 = .ok (.aload 4, 2) := by decide +kernel
theorem dJx4a65c_add_7a177_43 : decode cJx4a65c_add_7a177 43 = .ok (.iload_n 1, 1) := by decide +kernel
theorem dJx4a65c_add_7a177_44 : decode cJx4a65c_add_7a177 44 = .ok (.iconst 1, 1) := by decide +kernel
theorem dJx4a65c_add_7a177_45 : decode cJx4a65c_add_7a177 45 = .ok (.iadd, 1) := by decide +kernel
theorem dJx4a65c_add_7a177_46 : decode cJx4a65c_add_7a177 46 = .ok (.iload_n 3, 1) := by decide +kernel
theorem dJx4a65c_add_7a177_47 : decode cJx4a65c_add_7a177 47 = .ok (.iload_n 1, 1) := by decide +kernel
theorem dJx4a65c_add_7a177_48 : decode cJx4a65c_add_7a177 48 = .ok (.isub, 1) := by decide +kernel
theorem dJx4a65c_add_7a177_49 : decode cJx4a65c_add_7a177 49 = .ok (.invokestatic 112, 3) := by decide +kernel
theorem dJx4a65c_add_7a177_52 : decode cJx4a65c_add_7a177 52 = .ok (.aload 4, 2) := by decide +kernel
theorem dJx4a65c_add_7a177_54 : decode cJx4a65c_add_7a177 54 = .ok (.iload_n 1, 1) := by decide +kernel
theorem dJx4a65c_add_7a177_55 : decode cJx4a65c_add_7a177 55 = .ok (.aload_n 2, 1) := by decide +kernel
theorem dJx4a65c_add_7a177_56 : decode cJx4a65c_add_7a177 56 = .ok (.aastore, 1) := by decide +kernel
theorem dJx4a65c_add_7a177_57 : decode cJx4a65c_add_7a177 57 = .ok (.aload_n 0, 1) := by decide +kernel
theorem dJx4a65c_add_7a177_58 : decode cJx4a65c_add_7a177 58 = .ok (.iload_n 3, 1) := by decide +kernel
theorem dJx4a65c_add_7a177_59 : decode cJx4a65c_add_7a177 59 = .ok (.iconst 1, 1) := by decide +kernel
theorem dJx4a65c_add_7a177_60 : decode cJx4a65c_add_7a177 60 = .ok (.iadd, 1) := by decide +kernel
theorem dJx4a65c_add_7a177_61 : decode cJx4a65c_add_7a177 61 = .ok (.putfield 48, 3) := by decide +kernel
theorem dJx4a65c_add_7a177_64 : decode cJx4a65c_add_7a177 64 = .ok (.return_, 1) := by decide +kernel
theorem dJx4a65c_rangeCheckForAdd_d00df_0 : decode cJx4a65c_rangeCheckForAdd_d00df 0 = .ok (.iload_n 1, 1) := by decide +kernel
theorem dJx4a65c_rangeCheckForAdd_d00df_1 : decode cJx4a65c_rangeCheckForAdd_d00df 1 = .ok (.aload_n 0, 1) := by decide +kernel
theorem dJx4a65c_rangeCheckForAdd_d00df_2 : decode cJx4a65c_rangeCheckForAdd_d00df 2 = .ok (.getfield 48, 3) := by decide +kernel
theorem dJx4a65c_rangeCheckForAdd_d00df_5 : decode cJx4a65c_rangeCheckForAdd_d00df 5 = .ok (.if_icmp .gt 7, 3) := by decide +kernel
theorem dJx4a65c_rangeCheckForAdd_d00df_8 : decode cJx4a65c_rangeCheckForAdd_d00df 8 = .ok (.iload_n 1, 1) := by decide +kernel
theorem dJx4a65c_rangeCheckForAdd_d00df_9 : decode cJx4a65c_rangeCheckForAdd_d00df 9 = .ok (.ifCond .ge 16, 3) := by decide +kernel
theorem dJx4a65c_rangeCheckForAdd_d00df_12 : decode cJx4a65c_rangeCheckForAdd_d00df 12 = .ok (.new 187, 3) := by decide +kernel
theorem dJx4a65c_rangeCheckForAdd_d00df_15 : decode cJx4a65c_rangeCheckForAdd_d00df 15 = .ok (.dup, 1) := by decide +kernel
theorem dJx4a65c_rangeCheckForAdd_d00df_16 : decode cJx4a65c_rangeCheckForAdd_d00df 16 = .ok (.aload_n 0, 1) := by decide +kernel
theorem dJx4a65c_rangeCheckForAdd_d00df_17 : decode cJx4a65c_rangeCheckForAdd_d00df 17 = .ok (.iload_n 1, 1) := by decide +kernel
theorem dJx4a65c_rangeCheckForAdd_d00df_18 : decode cJx4a65c_rangeCheckForAdd_d00df 18 = .ok (.invokevirtual 198, 3) := by decide +kernel
theorem dJx4a65c_rangeCheckForAdd_d00df_21 : decode cJx4a65c_rangeCheckForAdd_d00df 21 = .ok (.invokespecial 193, 3) := by decide +kernel
theorem dJx4a65c_rangeCheckForAdd_d00df_24 : decode cJx4a65c_rangeCheckForAdd_d00df 24 = .ok (.athrow, 1) := by decide +kernel
theorem dJx4a65c_rangeCheckForAdd_d00df_25 : decode cJx4a65c_rangeCheckForAdd_d00df 25 = .ok (.return_, 1) := by decide +kernel
set_option maxRecDepth 20000 in
theorem ggJ7_copyOf_1904c_J7_copyOf_6403c : GoodIn wsJ7_copyOf_1904c wsJ7_copyOf_6403c := goodIn_r _ [8, 9, 10, 11, 12, 13, 14, 15, 16, 17, 18] (by decide +kernel) (by decide +kernel)
set_option maxRecDepth 20000 in
theorem gJ7_copyOf_1904c_J7_copyOf_6403c : GoodIn wsJ7_copyOf_1904c (va_wsS RJ7 300 yJ7_copyOf_6403c wsJ7_copyOf_6403c) := goodIn_app (goodIn_of _ (by decide +kernel)) ggJ7_copyOf_1904c_J7_copyOf_6403c
theorem dJ7_copyOf_1904c_0 : decode cJ7_copyOf_1904c 0 = .ok (.aload_n 0, 1) := by decide +kernel
theorem dJ7_copyOf_1904c_1 : decode cJ7_copyOf_1904c 1 = .ok (.iload_n 1, 1) := by decide +kernel
theorem dJ7_copyOf_1904c_2 : decode cJ7_copyOf_1904c 2 = .ok (.aload_n 0, 1) := by decide +kernel
theorem dJ7_copyOf_1904c_3 : decode cJ7_copyOf_1904c 3 = .ok (.invokevirtual 86, 3) := by decide +kernel
theorem dJ7_copyOf_1904c_6 : decode cJ7_copyOf_1904c 6 = .ok (.invokestatic 300, 3) := by decide +kernel
theorem dJ7_copyOf_1904c_9 : decode cJ7_copyOf_1904c 9 = .ok (.areturn, 1) := by decide +kernel
theorem dJ7_copyOf_6403c_0 : decode cJ7_copyOf_6403c 0 = .ok (.aload_n 2, 1) := by decide +kernel
theorem dJ7_copyOf_6403c_1 : decode cJ7_copyOf_6403c 1 = .ok (.ldc 110, 2) := by decide +kernel
theorem dJ7_copyOf_6403c_3 : decode cJ7_copyOf_6403c 3 = .ok (.if_acmp .ne 10, 3) := by decide +kernel
theorem dJ7_copyOf_6403c_6 : decode cJ7_copyOf_6403c 6 = .ok (.iload_n 1, 1) := by decide +kernel
theorem dJ7_copyOf_6403c_7 : decode cJ7_copyOf_6403c 7 = .ok (.anewarray 2, 3) := by decide +kernel
theorem dJ7_copyOf_6403c_10 : decode cJ7_copyOf_6403c 10 = .ok (.goto 14, 3) := by decide +kernel
theorem dJ7_copyOf_6403c_13 : decode cJ7_copyOf_6403c 13 = .ok (.aload_n 2, 1) := by decide +kernel
theorem dJ7_copyOf_6403c_14 : decode cJ7_copyOf_6403c 14 = .ok (.invokevirtual 90, 3) := by decide +kernel
theorem dJ7_copyOf_6403c_17 : decode cJ7_copyOf_6403c 17 = .ok (.iload_n 1, 1) := by decide +kernel
theorem dJ7_copyOf_6403c_18 : decode cJ7_copyOf_6403c 18 = .ok (.invokestatic 95, 3) := by decide +kernel
theorem dJ7_copyOf_6403c_21 : decode cJ7_copyOf_6403c 21 = .ok (.checkcast 110, 3) := by decide +kernel
theorem dJ7_copyOf_6403c_24 : decode cJ7_copyOf_6403c 24 = .ok (.astore_n 3, 1) := by decide +kernel
theorem dJ7_copyOf_6403c_25 : decode cJ7_copyOf_6403c 25 = .ok (.aload_n 0, 1) := by decide +kernel
theorem dJ7_copyOf_6403c_26 : decode cJ7_copyOf_6403c 26 = .ok (.iconst 0, 1) := by decide +kernel
theorem dJ7_copyOf_6403c_27 : decode cJ7_copyOf_6403c 27 = .ok (.aload_n 3, 1) := by decide +kernel
theorem dJ7_copyOf_6403c_28 : decode cJ7_copyOf_6403c 28 = .ok (.iconst 0, 1) := by decide +kernel
theorem dJ7_copyOf_6403c_29 : decode cJ7_copyOf_6403c 29 = .ok (.aload_n 0, 1) := by decide +kernel
theorem dJ7_copyOf_6403c_30 : decode cJ7_copyOf_6403c 30 = .ok (.arraylength, 1) := by decide +kernel
theorem dJ7_copyOf_6403c_31 : decode cJ7_copyOf_6403c 31 = .ok (.iload_n 1, 1) := by decide +kernel
theorem dJ7_copyOf_6403c_32 : decode cJ7_copyOf_6403c 32 = .ok (.invokestatic 304, 3) := by decide +kernel
theorem dJ7_copyOf_6403c_35 : decode cJ7_copyOf_6403c 35 = .ok (.invokestatic 150, 3) := by decide +kernel
theorem dJ7_copyOf_6403c_38 : decode cJ7_copyOf_6403c 38 = .ok (.aload_n 3, 1) := by decide +kernel
theorem dJ7_copyOf_6403c_39 : decode cJ7_copyOf_6403c 39 = .ok (.areturn, 1) := by decide +kernel
set_option maxRecDepth 20000 in
theorem ggJ15_checkIndex_7cf53_J3_checkIndex_8e157 : GoodIn wsJ15_checkIndex_7cf53 wsJ3_checkIndex_8e157 := goodIn_r _ [4] (by decide +kernel) (by decide +kernel)
set_option maxRecDepth 20000 in
theorem gJ15_checkIndex_7cf53_J3_checkIndex_8e157 : GoodIn wsJ15_checkIndex_7cf53 (va_wsS RJ15 105 yJ3_checkIndex_8e157 wsJ3_checkIndex_8e157) := goodIn_app (goodIn_of _ (by decide +kernel)) ggJ15_checkIndex_7cf53_J3_checkIndex_8e157
theorem dJ15_checkIndex_7cf53_0 : decode cJ15_checkIndex_7cf53 0 = .ok (.iload_n 0, 1) := by decide +kernel
theorem dJ15_checkIndex_7cf53_1 : decode cJ15_checkIndex_7cf53 1 = .ok (.iload_n 1, 1) := by decide +kernel
theorem dJ15_checkIndex_7cf53_2 : decode cJ15_checkIndex_7cf53 2 = .ok (.aconst_null, 1) := by decide +kernel
theorem dJ15_checkIndex_7cf53_3 : decode cJ15_checkIndex_7cf53 3 = .ok (.invokestatic 105, 3) := by decide +kernel
theorem dJ15_checkIndex_7cf53_6 : decode cJ15_checkIndex_7cf53 6 = .ok (.ireturn, 1) := by decide +kernel
set_option maxRecDepth 20000 in
theorem ggJ8_newLength_cabcc_J8_hugeLength_7cf53 : GoodIn wsJ8_newLength_cabcc wsJ8_hugeLength_7cf53 := goodIn_r _ [9, 5] (by decide +kernel) (by decide +kernel)
set_option maxRecDepth 20000 in
theorem gJ8_newLength_cabcc_J8_hugeLength_7cf53 : GoodIn wsJ8_newLength_cabcc (va_wsS RJ8 201 yJ8_hugeLength_7cf53 wsJ8_hugeLength_7cf53) := goodIn_app (goodIn_of _ (by decide +kernel)) ggJ8_newLength_cabcc_J8_hugeLength_7cf53
theorem dJ8_newLength_cabcc_0 : decode cJ8_newLength_cabcc 0 = .ok (.iload_n 0, 1) := by decide +kernel
theorem dJ8_newLength_cabcc_1 : decode cJ8_newLength_cabcc 1 = .ok (.iload_n 1, 1) := by decide +kernel
theorem dJ8_newLength_cabcc_2 : decode cJ8_newLength_cabcc 2 = .ok (.iload_n 2, 1) := by decide +kernel
theorem dJ8_newLength_cabcc_3 : decode cJ8_newLength_cabcc 3 = .ok (.invokestatic 194, 3) := by decide +kernel
theorem dJ8_newLength_cabcc_6 : decode cJ8_newLength_cabcc 6 = .ok (.iadd, 1) := by decide +kernel
theorem dJ8_newLength_cabcc_7 : decode cJ8_newLength_cabcc 7 = .ok (.istore_n 3, 1) := by decide +kernel
theorem dJ8_newLength_cabcc_8 : decode cJ8_newLength_cabcc 8 = .ok (.iconst 0, 1) := by decide +kernel
theorem dJ8_newLength_cabcc_9 : decode cJ8_newLength_cabcc 9 = .ok (.iload_n 3, 1) := by decide +kernel
theorem dJ8_newLength_cabcc_10 : decode cJ8_newLength_cabcc 10 = .ok (.if_icmp .ge 11, 3) := by decide +kernel
theorem dJ8_newLength_cabcc_13 : decode cJ8_newLength_cabcc 13 = .ok (.iload_n 3, 1) := by decide +kernel
theorem dJ8_newLength_cabcc_14 : decode cJ8_newLength_cabcc 14 = .ok (.ldc 200, 2) := by decide +kernel
theorem dJ8_newLength_cabcc_16 : decode cJ8_newLength_cabcc 16 = .ok (.if_icmp .gt 5, 3) := by decide +kernel
theorem dJ8_newLength_cabcc_19 : decode cJ8_newLength_cabcc 19 = .ok (.iload_n 3, 1) := by decide +kernel
theorem dJ8_newLength_cabcc_20 : decode cJ8_newLength_cabcc 20 = .ok (.ireturn, 1) := by decide +kernel
theorem dJ8_newLength_cabcc_21 : decode cJ8_newLength_cabcc 21 = .ok (.iload_n 0, 1) := by decide +kernel
theorem dJ8_newLength_cabcc_22 : decode cJ8_newLength_cabcc 22 = .ok (.iload_n 1, 1) := by decide +kernel
theorem dJ8_newLength_cabcc_23 : decode cJ8_newLength_cabcc 23 = .ok (.invokestatic 201, 3) := by decide +kernel
theorem dJ8_newLength_cabcc_26 : decode cJ8_newLength_cabcc 26 = .ok (.ireturn, 1) := by decide +kernel
theorem dJ8_hugeLength_7cf53_0 : decode cJ8_hugeLength_7cf53 0 = .ok (.iload_n 0, 1) := by decide +kernel
theorem dJ8_hugeLength_7cf53_1 : decode cJ8_hugeLength_7cf53 1 = .ok (.iload_n 1, 1) := by decide +kernel
theorem dJ8_hugeLength_7cf53_2 : decode cJ8_hugeLength_7cf53 2 = .ok (.iadd, 1) := by decide +kernel
theorem dJ8_hugeLength_7cf53_3 : decode cJ8_hugeLength_7cf53 3 = .ok (.istore_n 2, 1) := by decide +kernel
theorem dJ8_hugeLength_7cf53_4 : decode cJ8_hugeLength_7cf53 4 = .ok (.iload_n 2, 1) := by decide +kernel
theorem dJ8_hugeLength_7cf53_5 : decode cJ8_hugeLength_7cf53 5 = .ok (.ifCond .ge 44, 3) := by decide +kernel
theorem dJ8_hugeLength_7cf53_8 : decode cJ8_hugeLength_7cf53 8 = .ok (.new 204, 3) := by decide +kernel
theorem dJ8_hugeLength_7cf53_11 : decode cJ8_hugeLength_7cf53 11 = .ok (.dup, 1) := by decide +kernel
theorem dJ8_hugeLength_7cf53_12 : decode cJ8_hugeLength_7cf53 12 = .ok (.new 89, 3) := by decide +kernel
theorem dJ8_hugeLength_7cf53_15 : decode cJ8_hugeLength_7cf53 15 = .ok (.dup, 1) := by decide +kernel
theorem dJ8_hugeLength_7cf53_16 : decode cJ8_hugeLength_7cf53 16 = .ok (.invokespecial 91, 3) := by decide +kernel
theorem dJ8_hugeLength_7cf53_19 : decode cJ8_hugeLength_7cf53 19 = .ok (.ldc 206, 2) := by decide +kernel
theorem dJ8_hugeLength_7cf53_21 : decode cJ8_hugeLength_7cf53 21 = .ok (.invokevirtual 94, 3) := by decide +kernel
theorem dJ8_hugeLength_7cf53_24 : decode cJ8_hugeLength_7cf53 24 = .ok (.iload_n 0, 1) := by decide +kernel
theorem dJ8_hugeLength_7cf53_25 : decode cJ8_hugeLength_7cf53 25 = .ok (.invokevirtual 98, 3) := by decide +kernel
theorem dJ8_hugeLength_7cf53_28 : decode cJ8_hugeLength_7cf53 28 = .ok (.ldc 208, 2) := by decide +kernel
theorem dJ8_hugeLength_7cf53_30 : decode cJ8_hugeLength_7cf53 30 = .ok (.invokevirtual 94, 3) := by decide +kernel
theorem dJ8_hugeLength_7cf53_33 : decode cJ8_hugeLength_7cf53 33 = .ok (.iload_n 1, 1) := by decide +kernel
theorem dJ8_hugeLength_7cf53_34 : decode cJ8_hugeLength_7cf53 34 = .ok (.invokevirtual 98, 3) := by decide +kernel
theorem dJ8_hugeLength_7cf53_37 : decode cJ8_hugeLength_7cf53 37 = .ok (.ldc 210, 2) := by decide +kernel
theorem dJ8_hugeLength_7cf53_39 : decode cJ8_hugeLength_7cf53 39 = .ok (.invokevirtual 94, 3) := by decide +kernel
theorem dJ8_hugeLength_7cf53_42 : decode cJ8_hugeLength_7cf53 42 = .ok (.invokevirtual 101, 3) := by decide +kernel
theorem dJ8_hugeLength_7cf53_45 : decode cJ8_hugeLength_7cf53 45 = .ok (.invokespecial 212, 3) := by decide +kernel
theorem dJ8_hugeLength_7cf53_48 : decode cJ8_hugeLength_7cf53 48 = .ok (.athrow, 1) := by decide +kernel
theorem dJ8_hugeLength_7cf53_49 : decode cJ8_hugeLength_7cf53 49 = .ok (.iload_n 2, 1) := by decide +kernel
theorem dJ8_hugeLength_7cf53_50 : decode cJ8_hugeLength_7cf53 50 = .ok (.ldc 200, 2) := by decide +kernel
theorem dJ8_hugeLength_7cf53_52 : decode cJ8_hugeLength_7cf53 52 = .ok (.if_icmp .gt 6, 3) := by decide +kernel
theorem dJ8_hugeLength_7cf53_55 : decode cJ8_hugeLength_7cf53 55 = .ok (.ldc 200, 2) := by decide +kernel
theorem dJ8_hugeLength_7cf53_57 : decode cJ8_hugeLength_7cf53 57 = .ok (.ireturn, 1) := by decide +kernel
theorem dJ8_hugeLength_7cf53_58 : decode cJ8_hugeLength_7cf53 58 = .ok (.iload_n 2, 1) := by decide +kernel
theorem dJ8_hugeLength_7cf53_59 : decode cJ8_hugeLength_7cf53 59 = .ok (.ireturn, 1) := by decide +kernel
theorem dJ3_checkIndex_8e157_0 : decode cJ3_checkIndex_8e157 0 = .ok (.iload_n 0, 1) := by decide +kernel
theorem dJ3_checkIndex_8e157_1 : decode cJ3_checkIndex_8e157 1 = .ok (.ifCond .lt 8, 3) := by decide +kernel
theorem dJ3_checkIndex_8e157_4 : decode cJ3_checkIndex_8e157 4 = .ok (.iload_n 0, 1) := by decide +kernel
theorem dJ3_checkIndex_8e157_5 : decode cJ3_checkIndex_8e157 5 = .ok (.iload_n 1, 1) := by decide +kernel
theorem dJ3_checkIndex_8e157_6 : decode cJ3_checkIndex_8e157 6 = .ok (.if_icmp .lt 10, 3) := by decide +kernel
theorem dJ3_checkIndex_8e157_9 : decode cJ3_checkIndex_8e157 9 = .ok (.aload_n 2, 1) := by decide +kernel
theorem dJ3_checkIndex_8e157_10 : decode cJ3_checkIndex_8e157 10 = .ok (.iload_n 0, 1) := by decide +kernel
theorem dJ3_checkIndex_8e157_11 : decode cJ3_checkIndex_8e157 11 = .ok (.iload_n 1, 1) := by decide +kernel
theorem dJ3_checkIndex_8e157_12 : decode cJ3_checkIndex_8e157 12 = .ok (.invokestatic 95, 3) := by decide +kernel
theorem dJ3_checkIndex_8e157_15 : decode cJ3_checkIndex_8e157 15 = .ok (.athrow, 1) := by decide +kernel
theorem dJ3_checkIndex_8e157_16 : decode cJ3_checkIndex_8e157 16 = .ok (.iload_n 0, 1) := by decide +kernel
theorem dJ3_checkIndex_8e157_17 : decode cJ3_checkIndex_8e157 17 = .ok (.ireturn, 1) := by decide +kernel
set_option maxRecDepth 20000 in
theorem ggL_law_X1_init : GoodIn wsL_law wsX1_init := goodIn_r _ [8, 9, 10, 11, 12, 13, 14, 15, 16, 17, 18, 19, 20, 21, 22, 23, 24, 25, 26, 27, 28, 29, 30, 31, 32, 33, 34, 35, 36, 37, 38, 39, 40, 41, 42, 43, 534, 535, 536, 496, 497, 498, 499, 500, 501, 502, 503, 504, 505, 506, 507, 508, 509] (by decide +kernel) (by decide +kernel)
set_option maxRecDepth 20000 in
theorem gL_law_X1_init : GoodIn wsL_law (wsX1_init) := ggL_law_X1_init
set_option maxRecDepth 20000 in
theorem ggL_law_X2_init : GoodIn wsL_law wsX2_init := goodIn_r _ [46, 47, 10, 11, 48, 49, 50, 51, 52, 53, 54, 55, 56, 57, 58, 59, 60, 61, 62, 510, 511, 512, 513, 514, 515, 516, 517, 518, 519, 520, 521, 522, 523, 524, 525, 526, 527, 528, 529, 530, 531, 532, 533] (by decide +kernel) (by decide +kernel)
set_option maxRecDepth 20000 in
theorem gL_law_X2_init : GoodIn wsL_law (wsX2_init) := ggL_law_X2_init
set_option maxRecDepth 20000 in
theorem ggL_law_X1_device : GoodIn wsL_law wsX1_device := goodIn_r _ [66, 17, 15, 67, 68, 69, 16, 70, 71, 72, 73, 74, 75, 2, 76, 77, 78, 79, 14, 80, 81, 82, 83, 84, 85, 86, 87, 88, 89, 90, 91, 92, 93, 94, 95, 96, 97, 98, 99, 100, 101, 102, 103, 104, 105, 33, 106, 107, 108, 109, 110, 111, 112, 113, 114, 115, 116, 117, 118, 119, 120, 121, 122, 123, 10, 11, 124, 125, 126, 127, 128, 129, 130, 131, 132, 133, 134, 135, 136, 137, 138, 139, 140, 141, 142, 143, 144, 145, 146, 147, 148, 149, 150, 151, 152, 153, 154, 32, 155, 156, 157, 158, 159, 160, 161, 162, 163, 164, 165, 166, 167, 168, 169, 170, 171, 172, 173, 174, 175, 176, 177, 178, 179, 180, 181, 182, 183, 184, 185, 186, 187, 188, 189, 190, 191, 192, 193, 194, 195, 196, 197, 198, 199, 200, 201, 202, 203, 204, 205, 206, 207, 208, 28, 496, 497, 498, 499, 500, 501, 502, 503, 504, 505, 506, 507, 508, 509, 537, 538, 539, 540, 541, 542, 543, 544, 545, 546, 547, 548, 549, 534, 535, 536] (by decide +kernel) (by decide +kernel)
set_option maxRecDepth 20000 in
theorem gL_law_X1_device : GoodIn wsL_law (wsV RL 13 RX1 yX1_device wsX1_device) := goodIn_app (goodIn_of _ (by decide +kernel)) ggL_law_X1_device
set_option maxRecDepth 20000 in
theorem ggL_law_X2_device : GoodIn wsL_law wsX2_device := goodIn_r _ [212, 213, 214, 49, 50, 51, 52, 53, 55, 56, 57, 59, 215, 216, 217, 5, 218, 219, 220, 221, 222, 510, 511, 512, 513, 514, 515, 516, 517, 518, 519, 520, 521, 522, 523, 524, 525, 526, 527, 528, 529, 530, 531, 532, 533] (by decide +kernel) (by decide +kernel)
set_option maxRecDepth 20000 in
theorem gL_law_X2_device : GoodIn wsL_law (wsV RL 17 RX2 yX2_device wsX2_device) := goodIn_app (goodIn_of _ (by decide +kernel)) ggL_law_X2_device
set_option maxRecDepth 20000 in
theorem ggL_law_X1_use : GoodIn wsL_law wsX1_use := goodIn_r _ [226, 17, 227, 28, 71, 228, 229, 230, 2, 231, 15, 89, 77, 78, 79, 14, 80, 81, 82, 83, 84, 90, 91, 92, 93, 94, 95, 96, 97, 98, 99, 100, 101, 102, 103, 104, 105, 33, 109, 110, 111, 72, 199, 200, 201, 202, 203, 106, 107, 108, 204, 205, 206, 207, 208, 496, 497, 498, 499, 500, 501, 502, 503, 504, 505, 506, 507, 508, 509, 537, 538, 539, 540, 541, 542, 543, 544, 545, 546, 547, 548, 549, 534, 535, 536] (by decide +kernel) (by decide +kernel)
set_option maxRecDepth 20000 in
theorem gL_law_X1_use : GoodIn wsL_law (wsV RL 18 RX1 yX1_use wsX1_use) := goodIn_app (goodIn_of _ (by decide +kernel)) ggL_law_X1_use
set_option maxRecDepth 20000 in
theorem ggL_law_X2_use : GoodIn wsL_law wsX2_use := goodIn_r _ [235, 214, 55, 236, 237, 238, 5, 239, 213, 215, 216, 217, 218, 49, 219, 220, 221, 222, 53, 56, 510, 511, 512, 513, 514, 515, 516, 517, 518, 519, 520, 521, 522, 523, 524, 525, 526, 527, 528, 529, 530, 531, 532, 533] (by decide +kernel) (by decide +kernel)
set_option maxRecDepth 20000 in
theorem gL_law_X2_use : GoodIn wsL_law (wsV RL 22 RX2 yX2_use wsX2_use) := goodIn_app (goodIn_of _ (by decide +kernel)) ggL_law_X2_use
set_option maxRecDepth 20000 in
theorem ggL_law_X1_release : GoodIn wsL_law wsX1_release := goodIn_r _ [243, 17, 227, 228, 229, 230, 2, 231, 15, 89, 77, 78, 79, 14, 80, 81, 82, 83, 84, 90, 91, 92, 93, 94, 95, 96, 97, 98, 99, 100, 101, 102, 103, 104, 105, 33, 496, 497, 498, 499, 500, 501, 502, 503, 504, 505, 506, 507, 508, 509, 537, 538, 539, 540, 541, 542, 543, 544, 545, 546, 547, 548, 549, 534, 535, 536] (by decide +kernel) (by decide +kernel)
set_option maxRecDepth 20000 in
theorem gL_law_X1_release : GoodIn wsL_law (wsV RL 23 RX1 yX1_release wsX1_release) := goodIn_app (goodIn_of _ (by decide +kernel)) ggL_law_X1_release
set_option maxRecDepth 20000 in
theorem ggL_law_X2_release : GoodIn wsL_law wsX2_release := goodIn_r _ [247, 214, 55, 236, 237, 238, 5, 239, 213, 510, 511, 512, 513, 514, 515, 516, 517, 518, 519, 520, 521, 522, 523, 524, 525, 526, 527, 528, 529, 530, 531, 532, 533] (by decide +kernel) (by decide +kernel)
set_option maxRecDepth 20000 in
theorem gL_law_X2_release : GoodIn wsL_law (wsV RL 26 RX2 yX2_release wsX2_release) := goodIn_app (goodIn_of _ (by decide +kernel)) ggL_law_X2_release
set_option maxRecDepth 20000 in
theorem ggL_law_X1_waker : GoodIn wsL_law wsX1_waker := goodIn_r _ [251, 252, 228, 229, 230, 2, 231, 15, 89, 77, 78, 79, 14, 80, 81, 82, 83, 84, 90, 91, 92, 93, 94, 95, 96, 97, 98, 99, 100, 101, 102, 103, 104, 105, 33, 537, 538, 539, 540, 541, 542, 543, 544, 545, 546, 547, 548, 549, 496, 497, 498, 499, 500, 501, 502, 503, 504, 505, 506, 507, 508, 509, 534, 535, 536] (by decide +kernel) (by decide +kernel)
set_option maxRecDepth 20000 in
theorem gL_law_X1_waker : GoodIn wsL_law (wsV RL 27 RX1 yX1_waker wsX1_waker) := goodIn_app (goodIn_of _ (by decide +kernel)) ggL_law_X1_waker
set_option maxRecDepth 20000 in
theorem ggL_law_X2_waker : GoodIn wsL_law wsX2_waker := goodIn_r _ [256, 59, 236, 237, 238, 5, 239, 213, 510, 511, 512, 513, 514, 515, 516, 517, 518, 519, 520, 521, 522, 523, 524, 525, 526, 527, 528, 529, 530, 531, 532, 533] (by decide +kernel) (by decide +kernel)
set_option maxRecDepth 20000 in
theorem gL_law_X2_waker : GoodIn wsL_law (wsV RL 31 RX2 yX2_waker wsX2_waker) := goodIn_app (goodIn_of _ (by decide +kernel)) ggL_law_X2_waker
set_option maxRecDepth 20000 in
theorem ggL_law_X1_refuse : GoodIn wsL_law wsX1_refuse := goodIn_r _ [260, 261, 228, 229, 230, 2, 231, 15, 89, 77, 78, 79, 14, 80, 81, 82, 83, 84, 90, 91, 92, 93, 94, 95, 96, 97, 98, 99, 100, 101, 102, 103, 104, 105, 33, 537, 538, 539, 540, 541, 542, 543, 544, 545, 546, 547, 548, 549, 496, 497, 498, 499, 500, 501, 502, 503, 504, 505, 506, 507, 508, 509, 534, 535, 536] (by decide +kernel) (by decide +kernel)
set_option maxRecDepth 20000 in
theorem gL_law_X1_refuse : GoodIn wsL_law (wsV RL 32 RX1 yX1_refuse wsX1_refuse) := goodIn_app (goodIn_of _ (by decide +kernel)) ggL_law_X1_refuse
set_option maxRecDepth 20000 in
theorem ggL_law_X2_refuse : GoodIn wsL_law wsX2_refuse := goodIn_r _ [265, 57, 236, 237, 238, 5, 239, 213, 510, 511, 512, 513, 514, 515, 516, 517, 518, 519, 520, 521, 522, 523, 524, 525, 526, 527, 528, 529, 530, 531, 532, 533] (by decide +kernel) (by decide +kernel)
set_option maxRecDepth 20000 in
theorem gL_law_X2_refuse : GoodIn wsL_law (wsV RL 36 RX2 yX2_refuse wsX2_refuse) := goodIn_app (goodIn_of _ (by decide +kernel)) ggL_law_X2_refuse
set_option maxRecDepth 20000 in
theorem ggL_law_X1_signal : GoodIn wsL_law wsX1_signal := goodIn_r _ [269, 252, 17, 228, 229, 230, 2, 231, 15, 89, 77, 78, 79, 14, 80, 81, 82, 83, 84, 90, 91, 92, 93, 94, 95, 96, 97, 98, 99, 100, 101, 102, 103, 104, 105, 33, 270, 271, 272, 273, 274, 275, 276, 277, 16, 208, 278, 279, 280, 281, 282, 283, 18, 19, 204, 205, 206, 207, 28, 284, 285, 286, 287, 288, 289, 290, 291, 25, 26, 72, 27, 537, 538, 539, 540, 541, 542, 543, 544, 545, 546, 547, 548, 549, 496, 497, 498, 499, 500, 501, 502, 503, 504, 505, 506, 507, 508, 509, 534, 535, 536] (by decide +kernel) (by decide +kernel)
set_option maxRecDepth 20000 in
theorem gL_law_X1_signal : GoodIn wsL_law (wsV RL 37 RX1 yX1_signal wsX1_signal) := goodIn_app (goodIn_of _ (by decide +kernel)) ggL_law_X1_signal
set_option maxRecDepth 20000 in
theorem ggL_law_X2_signal : GoodIn wsL_law wsX2_signal := goodIn_r _ [295, 59, 214, 236, 237, 238, 5, 239, 213, 296, 297, 298, 299, 61, 62, 300, 301, 302, 303, 304, 305, 306, 307, 308, 309, 310, 53, 50, 311, 312, 313, 314, 315, 316, 317, 318, 319, 320, 321, 322, 323, 49, 324, 325, 326, 327, 328, 329, 330, 331, 332, 54, 51, 333, 334, 335, 336, 510, 511, 512, 513, 514, 515, 516, 517, 518, 519, 520, 521, 522, 523, 524, 525, 526, 527, 528, 529, 530, 531, 532, 533] (by decide +kernel) (by decide +kernel)
set_option maxRecDepth 20000 in
theorem gL_law_X2_signal : GoodIn wsL_law (wsV RL 40 RX2 yX2_signal wsX2_signal) := goodIn_app (goodIn_of _ (by decide +kernel)) ggL_law_X2_signal
set_option maxRecDepth 20000 in
theorem ggL_law_X1_sleep : GoodIn wsL_law wsX1_sleep := goodIn_r _ [340, 17, 15, 89, 208, 278, 77, 78, 79, 14, 80, 81, 90, 91, 92, 93, 94, 95, 96, 97, 98, 99, 100, 101, 102, 103, 104, 105, 33, 341, 342, 343, 2, 344, 16, 345, 24, 280, 281, 282, 283, 18, 19, 204, 205, 206, 207, 28, 284, 285, 286, 287, 496, 497, 498, 499, 500, 501, 502, 503, 504, 505, 506, 507, 508, 509, 537, 538, 539, 540, 541, 542, 543, 544, 545, 546, 547, 548, 549, 534, 535, 536] (by decide +kernel) (by decide +kernel)
set_option maxRecDepth 20000 in
theorem gL_law_X1_sleep : GoodIn wsL_law (wsV RL 41 RX1 yX1_sleep wsX1_sleep) := goodIn_app (goodIn_of _ (by decide +kernel)) ggL_law_X1_sleep
set_option maxRecDepth 20000 in
theorem ggL_law_X2_sleep : GoodIn wsL_law wsX2_sleep := goodIn_r _ [349, 214, 213, 54, 53, 302, 303, 304, 5, 305, 61, 306, 307, 308, 309, 310, 50, 311, 312, 313, 314, 315, 316, 317, 318, 319, 320, 321, 322, 323, 49, 324, 325, 326, 327, 328, 329, 330, 331, 332, 51, 333, 334, 335, 336, 510, 511, 512, 513, 514, 515, 516, 517, 518, 519, 520, 521, 522, 523, 524, 525, 526, 527, 528, 529, 530, 531, 532, 533] (by decide +kernel) (by decide +kernel)
set_option maxRecDepth 20000 in
theorem gL_law_X2_sleep : GoodIn wsL_law (wsV RL 45 RX2 yX2_sleep wsX2_sleep) := goodIn_app (goodIn_of _ (by decide +kernel)) ggL_law_X2_sleep
set_option maxRecDepth 20000 in
theorem ggL_law_X1_watch : GoodIn wsL_law wsX1_watch := goodIn_r _ [353, 21, 22, 82, 83, 2, 84, 496, 497, 498, 499, 500, 501, 502, 503, 504, 505, 506, 507, 508, 509] (by decide +kernel) (by decide +kernel)
set_option maxRecDepth 20000 in
theorem gL_law_X1_watch : GoodIn wsL_law (wsV RL 46 RX1 yX1_watch wsX1_watch) := goodIn_app (goodIn_of _ (by decide +kernel)) ggL_law_X1_watch
set_option maxRecDepth 20000 in
theorem ggL_law_X2_watch : GoodIn wsL_law wsX2_watch := goodIn_r _ [357, 358, 359, 510, 511, 512, 513, 514, 515, 516, 517, 518, 519, 520, 521, 522, 523, 524, 525, 526, 527, 528, 529, 530, 531, 532, 533] (by decide +kernel) (by decide +kernel)
set_option maxRecDepth 20000 in
theorem gL_law_X2_watch : GoodIn wsL_law (wsV RL 50 RX2 yX2_watch wsX2_watch) := goodIn_app (goodIn_of _ (by decide +kernel)) ggL_law_X2_watch
set_option maxRecDepth 20000 in
theorem ggL_law_X1_kick : GoodIn wsL_law wsX1_kick := goodIn_r _ [363, 22, 496, 497, 498, 499, 500, 501, 502, 503, 504, 505, 506, 507, 508, 509] (by decide +kernel) (by decide +kernel)
set_option maxRecDepth 20000 in
theorem gL_law_X1_kick : GoodIn wsL_law (wsV RL 51 RX1 yX1_kick wsX1_kick) := goodIn_app (goodIn_of _ (by decide +kernel)) ggL_law_X1_kick
set_option maxRecDepth 20000 in
theorem ggL_law_X2_kick : GoodIn wsL_law wsX2_kick := goodIn_r _ [367, 359, 510, 511, 512, 513, 514, 515, 516, 517, 518, 519, 520, 521, 522, 523, 524, 525, 526, 527, 528, 529, 530, 531, 532, 533] (by decide +kernel) (by decide +kernel)
set_option maxRecDepth 20000 in
theorem gL_law_X2_kick : GoodIn wsL_law (wsV RL 54 RX2 yX2_kick wsX2_kick) := goodIn_app (goodIn_of _ (by decide +kernel)) ggL_law_X2_kick
set_option maxRecDepth 20000 in
theorem ggL_law_X1_tick : GoodIn wsL_law wsX1_tick := goodIn_r _ [371, 28, 82, 83, 2, 84, 372, 373, 374, 375, 20, 17, 18, 376, 377, 378, 379, 21, 22, 380, 381, 382, 383, 15, 89, 227, 203, 27, 26, 23, 77, 78, 79, 14, 80, 81, 90, 91, 92, 93, 94, 95, 96, 97, 98, 99, 100, 101, 102, 103, 104, 105, 33, 204, 205, 206, 207, 208, 284, 285, 286, 287, 19, 384, 385, 386, 387, 388, 389, 390, 391, 392, 393, 106, 107, 108, 109, 110, 111, 72, 394, 395, 396, 397, 261, 274, 275, 276, 277, 16, 278, 279, 280, 281, 282, 283, 288, 289, 290, 291, 25, 270, 271, 272, 273, 341, 342, 343, 344, 345, 24, 496, 497, 498, 499, 500, 501, 502, 503, 504, 505, 506, 507, 508, 509, 537, 538, 539, 540, 541, 542, 543, 544, 545, 546, 547, 548, 549, 534, 535, 536] (by decide +kernel) (by decide +kernel)
set_option maxRecDepth 20000 in
theorem gL_law_X1_tick : GoodIn wsL_law (wsV RL 55 RX1 yX1_tick wsX1_tick) := goodIn_app (goodIn_of _ (by decide +kernel)) ggL_law_X1_tick
set_option maxRecDepth 20000 in
theorem ggL_law_X2_tick : GoodIn wsL_law wsX2_tick := goodIn_r _ [401, 328, 402, 403, 404, 5, 405, 406, 358, 214, 359, 407, 408, 409, 410, 213, 53, 55, 56, 61, 62, 300, 411, 412, 413, 414, 415, 60, 52, 416, 417, 418, 419, 49, 324, 325, 326, 327, 420, 421, 422, 423, 311, 57, 296, 297, 298, 299, 301, 302, 303, 304, 305, 306, 307, 308, 309, 310, 50, 312, 313, 314, 315, 316, 317, 318, 319, 320, 321, 322, 323, 329, 330, 331, 332, 54, 51, 333, 334, 335, 336, 510, 511, 512, 513, 514, 515, 516, 517, 518, 519, 520, 521, 522, 523, 524, 525, 526, 527, 528, 529, 530, 531, 532, 533] (by decide +kernel) (by decide +kernel)
set_option maxRecDepth 20000 in
theorem gL_law_X2_tick : GoodIn wsL_law (wsV RL 58 RX2 yX2_tick wsX2_tick) := goodIn_app (goodIn_of _ (by decide +kernel)) ggL_law_X2_tick
set_option maxRecDepth 20000 in
theorem ggL_law_X1_phase : GoodIn wsL_law wsX1_phase := goodIn_r _ [427, 17, 496, 497, 498, 499, 500, 501, 502, 503, 504, 505, 506, 507, 508, 509] (by decide +kernel) (by decide +kernel)
set_option maxRecDepth 20000 in
theorem gL_law_X1_phase : GoodIn wsL_law (wsV RL 59 RX1 yX1_phase wsX1_phase) := goodIn_app (goodIn_of _ (by decide +kernel)) ggL_law_X1_phase
set_option maxRecDepth 20000 in
theorem ggL_law_X2_phase : GoodIn wsL_law wsX2_phase := goodIn_r _ [431, 214, 510, 511, 512, 513, 514, 515, 516, 517, 518, 519, 520, 521, 522, 523, 524, 525, 526, 527, 528, 529, 530, 531, 532, 533] (by decide +kernel) (by decide +kernel)
set_option maxRecDepth 20000 in
theorem gL_law_X2_phase : GoodIn wsL_law (wsV RL 62 RX2 yX2_phase wsX2_phase) := goodIn_app (goodIn_of _ (by decide +kernel)) ggL_law_X2_phase
set_option maxRecDepth 20000 in
theorem ggL_law_X1_state : GoodIn wsL_law wsX1_state := goodIn_r _ [435, 208, 228, 229, 230, 2, 231, 15, 89, 77, 78, 79, 14, 80, 81, 82, 83, 84, 90, 91, 92, 93, 94, 95, 96, 97, 98, 99, 100, 101, 102, 103, 104, 105, 33, 537, 538, 539, 540, 541, 542, 543, 544, 545, 546, 547, 548, 549, 496, 497, 498, 499, 500, 501, 502, 503, 504, 505, 506, 507, 508, 509, 534, 535, 536] (by decide +kernel) (by decide +kernel)
set_option maxRecDepth 20000 in
theorem gL_law_X1_state : GoodIn wsL_law (wsV RL 63 RX1 yX1_state wsX1_state) := goodIn_app (goodIn_of _ (by decide +kernel)) ggL_law_X1_state
set_option maxRecDepth 20000 in
theorem ggL_law_X2_state : GoodIn wsL_law wsX2_state := goodIn_r _ [439, 53, 236, 237, 238, 5, 239, 213, 510, 511, 512, 513, 514, 515, 516, 517, 518, 519, 520, 521, 522, 523, 524, 525, 526, 527, 528, 529, 530, 531, 532, 533] (by decide +kernel) (by decide +kernel)
set_option maxRecDepth 20000 in
theorem gL_law_X2_state : GoodIn wsL_law (wsV RL 66 RX2 yX2_state wsX2_state) := goodIn_app (goodIn_of _ (by decide +kernel)) ggL_law_X2_state
set_option maxRecDepth 20000 in
theorem ggL_law_X1_uses : GoodIn wsL_law wsX1_uses := goodIn_r _ [443, 227, 228, 229, 230, 2, 231, 15, 89, 77, 78, 79, 14, 80, 81, 82, 83, 84, 90, 91, 92, 93, 94, 95, 96, 97, 98, 99, 100, 101, 102, 103, 104, 105, 33, 537, 538, 539, 540, 541, 542, 543, 544, 545, 546, 547, 548, 549, 496, 497, 498, 499, 500, 501, 502, 503, 504, 505, 506, 507, 508, 509, 534, 535, 536] (by decide +kernel) (by decide +kernel)
set_option maxRecDepth 20000 in
theorem gL_law_X1_uses : GoodIn wsL_law (wsV RL 67 RX1 yX1_uses wsX1_uses) := goodIn_app (goodIn_of _ (by decide +kernel)) ggL_law_X1_uses
set_option maxRecDepth 20000 in
theorem ggL_law_X2_uses : GoodIn wsL_law wsX2_uses := goodIn_r _ [447, 55, 236, 237, 238, 5, 239, 213, 510, 511, 512, 513, 514, 515, 516, 517, 518, 519, 520, 521, 522, 523, 524, 525, 526, 527, 528, 529, 530, 531, 532, 533] (by decide +kernel) (by decide +kernel)
set_option maxRecDepth 20000 in
theorem gL_law_X2_uses : GoodIn wsL_law (wsV RL 70 RX2 yX2_uses wsX2_uses) := goodIn_app (goodIn_of _ (by decide +kernel)) ggL_law_X2_uses
set_option maxRecDepth 20000 in
theorem ggL_law_X1_idle : GoodIn wsL_law wsX1_idle := goodIn_r _ [451, 203, 228, 229, 230, 2, 231, 15, 89, 77, 78, 79, 14, 80, 81, 82, 83, 84, 90, 91, 92, 93, 94, 95, 96, 97, 98, 99, 100, 101, 102, 103, 104, 105, 33, 537, 538, 539, 540, 541, 542, 543, 544, 545, 546, 547, 548, 549, 496, 497, 498, 499, 500, 501, 502, 503, 504, 505, 506, 507, 508, 509, 534, 535, 536] (by decide +kernel) (by decide +kernel)
set_option maxRecDepth 20000 in
theorem gL_law_X1_idle : GoodIn wsL_law (wsV RL 71 RX1 yX1_idle wsX1_idle) := goodIn_app (goodIn_of _ (by decide +kernel)) ggL_law_X1_idle
set_option maxRecDepth 20000 in
theorem ggL_law_X2_idle : GoodIn wsL_law wsX2_idle := goodIn_r _ [455, 56, 236, 237, 238, 5, 239, 213, 510, 511, 512, 513, 514, 515, 516, 517, 518, 519, 520, 521, 522, 523, 524, 525, 526, 527, 528, 529, 530, 531, 532, 533] (by decide +kernel) (by decide +kernel)
set_option maxRecDepth 20000 in
theorem gL_law_X2_idle : GoodIn wsL_law (wsV RL 74 RX2 yX2_idle wsX2_idle) := goodIn_app (goodIn_of _ (by decide +kernel)) ggL_law_X2_idle
set_option maxRecDepth 20000 in
theorem ggL_law_X1_refusals : GoodIn wsL_law wsX1_refusals := goodIn_r _ [459, 261, 228, 229, 230, 2, 231, 15, 89, 77, 78, 79, 14, 80, 81, 82, 83, 84, 90, 91, 92, 93, 94, 95, 96, 97, 98, 99, 100, 101, 102, 103, 104, 105, 33, 537, 538, 539, 540, 541, 542, 543, 544, 545, 546, 547, 548, 549, 496, 497, 498, 499, 500, 501, 502, 503, 504, 505, 506, 507, 508, 509, 534, 535, 536] (by decide +kernel) (by decide +kernel)
set_option maxRecDepth 20000 in
theorem gL_law_X1_refusals : GoodIn wsL_law (wsV RL 75 RX1 yX1_refusals wsX1_refusals) := goodIn_app (goodIn_of _ (by decide +kernel)) ggL_law_X1_refusals
set_option maxRecDepth 20000 in
theorem ggL_law_X2_refusals : GoodIn wsL_law wsX2_refusals := goodIn_r _ [463, 57, 236, 237, 238, 5, 239, 213, 510, 511, 512, 513, 514, 515, 516, 517, 518, 519, 520, 521, 522, 523, 524, 525, 526, 527, 528, 529, 530, 531, 532, 533] (by decide +kernel) (by decide +kernel)
set_option maxRecDepth 20000 in
theorem gL_law_X2_refusals : GoodIn wsL_law (wsV RL 78 RX2 yX2_refusals wsX2_refusals) := goodIn_app (goodIn_of _ (by decide +kernel)) ggL_law_X2_refusals
set_option maxRecDepth 20000 in
theorem ggL_law_X1_due : GoodIn wsL_law wsX1_due := goodIn_r _ [467, 18, 72, 496, 497, 498, 499, 500, 501, 502, 503, 504, 505, 506, 507, 508, 509, 537, 538, 539, 540, 541, 542, 543, 544, 545, 546, 547, 548, 549] (by decide +kernel) (by decide +kernel)
set_option maxRecDepth 20000 in
theorem gL_law_X1_due : GoodIn wsL_law (wsV RL 79 RX1 yX1_due wsX1_due) := goodIn_app (goodIn_of _ (by decide +kernel)) ggL_law_X1_due
set_option maxRecDepth 20000 in
theorem ggL_law_X2_due : GoodIn wsL_law wsX2_due := goodIn_r _ [471, 61, 510, 511, 512, 513, 514, 515, 516, 517, 518, 519, 520, 521, 522, 523, 524, 525, 526, 527, 528, 529, 530, 531, 532, 533] (by decide +kernel) (by decide +kernel)
set_option maxRecDepth 20000 in
theorem gL_law_X2_due : GoodIn wsL_law (wsV RL 82 RX2 yX2_due wsX2_due) := goodIn_app (goodIn_of _ (by decide +kernel)) ggL_law_X2_due
set_option maxRecDepth 20000 in
theorem ggL_law_X1_left : GoodIn wsL_law wsX1_left := goodIn_r _ [475, 19, 496, 497, 498, 499, 500, 501, 502, 503, 504, 505, 506, 507, 508, 509] (by decide +kernel) (by decide +kernel)
set_option maxRecDepth 20000 in
theorem gL_law_X1_left : GoodIn wsL_law (wsV RL 83 RX1 yX1_left wsX1_left) := goodIn_app (goodIn_of _ (by decide +kernel)) ggL_law_X1_left
set_option maxRecDepth 20000 in
theorem ggL_law_X2_left : GoodIn wsL_law wsX2_left := goodIn_r _ [479, 61, 311, 510, 511, 512, 513, 514, 515, 516, 517, 518, 519, 520, 521, 522, 523, 524, 525, 526, 527, 528, 529, 530, 531, 532, 533] (by decide +kernel) (by decide +kernel)
set_option maxRecDepth 20000 in
theorem gL_law_X2_left : GoodIn wsL_law (wsV RL 86 RX2 yX2_left wsX2_left) := goodIn_app (goodIn_of _ (by decide +kernel)) ggL_law_X2_left
set_option maxRecDepth 20000 in
theorem ggL_law_X1_named : GoodIn wsL_law wsX1_named := goodIn_r _ [483, 27, 496, 497, 498, 499, 500, 501, 502, 503, 504, 505, 506, 507, 508, 509] (by decide +kernel) (by decide +kernel)
set_option maxRecDepth 20000 in
theorem gL_law_X1_named : GoodIn wsL_law (wsV RL 87 RX1 yX1_named wsX1_named) := goodIn_app (goodIn_of _ (by decide +kernel)) ggL_law_X1_named
set_option maxRecDepth 20000 in
theorem ggL_law_X2_named : GoodIn wsL_law wsX2_named := goodIn_r _ [487, 62, 510, 511, 512, 513, 514, 515, 516, 517, 518, 519, 520, 521, 522, 523, 524, 525, 526, 527, 528, 529, 530, 531, 532, 533] (by decide +kernel) (by decide +kernel)
set_option maxRecDepth 20000 in
theorem gL_law_X2_named : GoodIn wsL_law (wsV RL 90 RX2 yX2_named wsX2_named) := goodIn_app (goodIn_of _ (by decide +kernel)) ggL_law_X2_named
set_option maxRecDepth 20000 in
theorem ggL_law_X1_figure : GoodIn wsL_law wsX1_figure := goodIn_r _ [491, 20, 22, 23, 24, 25, 26, 15, 77, 78, 79, 14, 80, 81, 496, 497, 498, 499, 500, 501, 502, 503, 504, 505, 506, 507, 508, 509, 534, 535, 536] (by decide +kernel) (by decide +kernel)
set_option maxRecDepth 20000 in
theorem gL_law_X1_figure : GoodIn wsL_law (wsV RL 91 RX1 yX1_figure wsX1_figure) := goodIn_app (goodIn_of _ (by decide +kernel)) ggL_law_X1_figure
set_option maxRecDepth 20000 in
theorem ggL_law_X2_figure : GoodIn wsL_law wsX2_figure := goodIn_r _ [495, 406, 359, 411, 310, 301, 300, 213, 510, 511, 512, 513, 514, 515, 516, 517, 518, 519, 520, 521, 522, 523, 524, 525, 526, 527, 528, 529, 530, 531, 532, 533] (by decide +kernel) (by decide +kernel)
set_option maxRecDepth 20000 in
theorem gL_law_X2_figure : GoodIn wsL_law (wsV RL 94 RX2 yX2_figure wsX2_figure) := goodIn_app (goodIn_of _ (by decide +kernel)) ggL_law_X2_figure
theorem dL_law_0 : decode cL_law 0 = .ok (.new 7, 3) := by decide +kernel
theorem dL_law_3 : decode cL_law 3 = .ok (.dup, 1) := by decide +kernel
theorem dL_law_4 : decode cL_law 4 = .ok (.invokespecial 9, 3) := by decide +kernel
theorem dL_law_7 : decode cL_law 7 = .ok (.astore_n 1, 1) := by decide +kernel
theorem dL_law_8 : decode cL_law 8 = .ok (.new 10, 3) := by decide +kernel
theorem dL_law_11 : decode cL_law 11 = .ok (.dup, 1) := by decide +kernel
theorem dL_law_12 : decode cL_law 12 = .ok (.invokespecial 12, 3) := by decide +kernel
theorem dL_law_15 : decode cL_law 15 = .ok (.astore_n 2, 1) := by decide +kernel
theorem dL_law_16 : decode cL_law 16 = .ok (.iconst 0, 1) := by decide +kernel
theorem dL_law_17 : decode cL_law 17 = .ok (.istore_n 3, 1) := by decide +kernel
theorem dL_law_18 : decode cL_law 18 = .ok (.iload_n 3, 1) := by decide +kernel
theorem dL_law_19 : decode cL_law 19 = .ok (.aload_n 0, 1) := by decide +kernel
theorem dL_law_20 : decode cL_law 20 = .ok (.arraylength, 1) := by decide +kernel
theorem dL_law_21 : decode cL_law 21 = .ok (.iconst 5, 1) := by decide +kernel
theorem dL_law_22 : decode cL_law 22 = .ok (.isub, 1) := by decide +kernel
theorem dL_law_23 : decode cL_law 23 = .ok (.if_icmp .gt 550, 3) := by decide +kernel
theorem dL_law_26 : decode cL_law 26 = .ok (.aload_n 0, 1) := by decide +kernel
theorem dL_law_27 : decode cL_law 27 = .ok (.iload_n 3, 1) := by decide +kernel
theorem dL_law_28 : decode cL_law 28 = .ok (.iaload, 1) := by decide +kernel
theorem dL_law_29 : decode cL_law 29 = .ok (.bipush 31, 2) := by decide +kernel
theorem dL_law_31 : decode cL_law 31 = .ok (.iand, 1) := by decide +kernel
theorem dL_law_32 : decode cL_law 32 = .ok (.tableswitch 535 0 18 #[92, 145, 168, 191, 240, 273, 296, 309, 332, 345, 368, 381, 404, 427, 450, 473, 486, 499, 512], 92) := by decide +kernel
theorem dL_law_124 : decode cL_law 124 = .ok (.aload_n 1, 1) := by decide +kernel
theorem dL_law_125 : decode cL_law 125 = .ok (.aload_n 0, 1) := by decide +kernel
theorem dL_law_126 : decode cL_law 126 = .ok (.iload_n 3, 1) := by decide +kernel
theorem dL_law_127 : decode cL_law 127 = .ok (.iconst 1, 1) := by decide +kernel
theorem dL_law_128 : decode cL_law 128 = .ok (.iadd, 1) := by decide +kernel
theorem dL_law_129 : decode cL_law 129 = .ok (.iaload, 1) := by decide +kernel
theorem dL_law_130 : decode cL_law 130 = .ok (.aload_n 0, 1) := by decide +kernel
theorem dL_law_131 : decode cL_law 131 = .ok (.iload_n 3, 1) := by decide +kernel
theorem dL_law_132 : decode cL_law 132 = .ok (.iconst 2, 1) := by decide +kernel
theorem dL_law_133 : decode cL_law 133 = .ok (.iadd, 1) := by decide +kernel
theorem dL_law_134 : decode cL_law 134 = .ok (.iaload, 1) := by decide +kernel
theorem dL_law_135 : decode cL_law 135 = .ok (.aload_n 0, 1) := by decide +kernel
theorem dL_law_136 : decode cL_law 136 = .ok (.iload_n 3, 1) := by decide +kernel
theorem dL_law_137 : decode cL_law 137 = .ok (.iconst 3, 1) := by decide +kernel
theorem dL_law_138 : decode cL_law 138 = .ok (.iadd, 1) := by decide +kernel
theorem dL_law_139 : decode cL_law 139 = .ok (.iaload, 1) := by decide +kernel
theorem dL_law_140 : decode cL_law 140 = .ok (.aload_n 0, 1) := by decide +kernel
theorem dL_law_141 : decode cL_law 141 = .ok (.iload_n 3, 1) := by decide +kernel
theorem dL_law_142 : decode cL_law 142 = .ok (.iconst 4, 1) := by decide +kernel
theorem dL_law_143 : decode cL_law 143 = .ok (.iadd, 1) := by decide +kernel
theorem dL_law_144 : decode cL_law 144 = .ok (.iaload, 1) := by decide +kernel
theorem dL_law_145 : decode cL_law 145 = .ok (.invokevirtual 13, 3) := by decide +kernel
theorem dL_law_148 : decode cL_law 148 = .ok (.aload_n 2, 1) := by decide +kernel
theorem dL_law_149 : decode cL_law 149 = .ok (.aload_n 0, 1) := by decide +kernel
theorem dL_law_150 : decode cL_law 150 = .ok (.iload_n 3, 1) := by decide +kernel
theorem dL_law_151 : decode cL_law 151 = .ok (.iconst 1, 1) := by decide +kernel
theorem dL_law_152 : decode cL_law 152 = .ok (.iadd, 1) := by decide +kernel
theorem dL_law_153 : decode cL_law 153 = .ok (.iaload, 1) := by decide +kernel
theorem dL_law_154 : decode cL_law 154 = .ok (.aload_n 0, 1) := by decide +kernel
theorem dL_law_155 : decode cL_law 155 = .ok (.iload_n 3, 1) := by decide +kernel
theorem dL_law_156 : decode cL_law 156 = .ok (.iconst 2, 1) := by decide +kernel
theorem dL_law_157 : decode cL_law 157 = .ok (.iadd, 1) := by decide +kernel
theorem dL_law_158 : decode cL_law 158 = .ok (.iaload, 1) := by decide +kernel
theorem dL_law_159 : decode cL_law 159 = .ok (.aload_n 0, 1) := by decide +kernel
theorem dL_law_160 : decode cL_law 160 = .ok (.iload_n 3, 1) := by decide +kernel
theorem dL_law_161 : decode cL_law 161 = .ok (.iconst 3, 1) := by decide +kernel
theorem dL_law_162 : decode cL_law 162 = .ok (.iadd, 1) := by decide +kernel
theorem dL_law_163 : decode cL_law 163 = .ok (.iaload, 1) := by decide +kernel
theorem dL_law_164 : decode cL_law 164 = .ok (.aload_n 0, 1) := by decide +kernel
theorem dL_law_165 : decode cL_law 165 = .ok (.iload_n 3, 1) := by decide +kernel
theorem dL_law_166 : decode cL_law 166 = .ok (.iconst 4, 1) := by decide +kernel
theorem dL_law_167 : decode cL_law 167 = .ok (.iadd, 1) := by decide +kernel
theorem dL_law_168 : decode cL_law 168 = .ok (.iaload, 1) := by decide +kernel
theorem dL_law_169 : decode cL_law 169 = .ok (.invokevirtual 17, 3) := by decide +kernel
theorem dL_law_172 : decode cL_law 172 = .ok (.if_icmp .eq 395, 3) := by decide +kernel
theorem dL_law_175 : decode cL_law 175 = .ok (.iconst 0, 1) := by decide +kernel
theorem dL_law_176 : decode cL_law 176 = .ok (.ireturn, 1) := by decide +kernel
theorem dL_law_177 : decode cL_law 177 = .ok (.aload_n 1, 1) := by decide +kernel
theorem dL_law_178 : decode cL_law 178 = .ok (.aload_n 0, 1) := by decide +kernel
theorem dL_law_179 : decode cL_law 179 = .ok (.iload_n 3, 1) := by decide +kernel
theorem dL_law_180 : decode cL_law 180 = .ok (.iconst 1, 1) := by decide +kernel
theorem dL_law_181 : decode cL_law 181 = .ok (.iadd, 1) := by decide +kernel
theorem dL_law_182 : decode cL_law 182 = .ok (.iaload, 1) := by decide +kernel
theorem dL_law_183 : decode cL_law 183 = .ok (.invokevirtual 18, 3) := by decide +kernel
theorem dL_law_186 : decode cL_law 186 = .ok (.aload_n 2, 1) := by decide +kernel
theorem dL_law_187 : decode cL_law 187 = .ok (.aload_n 0, 1) := by decide +kernel
theorem dL_law_188 : decode cL_law 188 = .ok (.iload_n 3, 1) := by decide +kernel
theorem dL_law_189 : decode cL_law 189 = .ok (.iconst 1, 1) := by decide +kernel
theorem dL_law_190 : decode cL_law 190 = .ok (.iadd, 1) := by decide +kernel
theorem dL_law_191 : decode cL_law 191 = .ok (.iaload, 1) := by decide +kernel
theorem dL_law_192 : decode cL_law 192 = .ok (.invokevirtual 22, 3) := by decide +kernel
theorem dL_law_195 : decode cL_law 195 = .ok (.if_icmp .eq 372, 3) := by decide +kernel
theorem dL_law_198 : decode cL_law 198 = .ok (.iconst 0, 1) := by decide +kernel
theorem dL_law_199 : decode cL_law 199 = .ok (.ireturn, 1) := by decide +kernel
theorem dL_law_200 : decode cL_law 200 = .ok (.aload_n 1, 1) := by decide +kernel
theorem dL_law_201 : decode cL_law 201 = .ok (.aload_n 0, 1) := by decide +kernel
theorem dL_law_202 : decode cL_law 202 = .ok (.iload_n 3, 1) := by decide +kernel
theorem dL_law_203 : decode cL_law 203 = .ok (.iconst 1, 1) := by decide +kernel
theorem dL_law_204 : decode cL_law 204 = .ok (.iadd, 1) := by decide +kernel
theorem dL_law_205 : decode cL_law 205 = .ok (.iaload, 1) := by decide +kernel
theorem dL_law_206 : decode cL_law 206 = .ok (.invokevirtual 23, 3) := by decide +kernel
theorem dL_law_209 : decode cL_law 209 = .ok (.aload_n 2, 1) := by decide +kernel
theorem dL_law_210 : decode cL_law 210 = .ok (.aload_n 0, 1) := by decide +kernel
theorem dL_law_211 : decode cL_law 211 = .ok (.iload_n 3, 1) := by decide +kernel
theorem dL_law_212 : decode cL_law 212 = .ok (.iconst 1, 1) := by decide +kernel
theorem dL_law_213 : decode cL_law 213 = .ok (.iadd, 1) := by decide +kernel
theorem dL_law_214 : decode cL_law 214 = .ok (.iaload, 1) := by decide +kernel
theorem dL_law_215 : decode cL_law 215 = .ok (.invokevirtual 26, 3) := by decide +kernel
theorem dL_law_218 : decode cL_law 218 = .ok (.if_icmp .eq 349, 3) := by decide +kernel
theorem dL_law_221 : decode cL_law 221 = .ok (.iconst 0, 1) := by decide +kernel
theorem dL_law_222 : decode cL_law 222 = .ok (.ireturn, 1) := by decide +kernel
theorem dL_law_223 : decode cL_law 223 = .ok (.aload_n 1, 1) := by decide +kernel
theorem dL_law_224 : decode cL_law 224 = .ok (.aload_n 0, 1) := by decide +kernel
theorem dL_law_225 : decode cL_law 225 = .ok (.iload_n 3, 1) := by decide +kernel
theorem dL_law_226 : decode cL_law 226 = .ok (.iconst 1, 1) := by decide +kernel
theorem dL_law_227 : decode cL_law 227 = .ok (.iadd, 1) := by decide +kernel
theorem dL_law_228 : decode cL_law 228 = .ok (.iaload, 1) := by decide +kernel
theorem dL_law_229 : decode cL_law 229 = .ok (.aload_n 0, 1) := by decide +kernel
theorem dL_law_230 : decode cL_law 230 = .ok (.iload_n 3, 1) := by decide +kernel
theorem dL_law_231 : decode cL_law 231 = .ok (.iconst 2, 1) := by decide +kernel
theorem dL_law_232 : decode cL_law 232 = .ok (.iadd, 1) := by decide +kernel
theorem dL_law_233 : decode cL_law 233 = .ok (.iaload, 1) := by decide +kernel
theorem dL_law_234 : decode cL_law 234 = .ok (.ifCond .eq 7, 3) := by decide +kernel
theorem dL_law_237 : decode cL_law 237 = .ok (.iconst 1, 1) := by decide +kernel
theorem dL_law_238 : decode cL_law 238 = .ok (.goto 4, 3) := by decide +kernel
theorem dL_law_241 : decode cL_law 241 = .ok (.iconst 0, 1) := by decide +kernel
theorem dL_law_242 : decode cL_law 242 = .ok (.invokevirtual 27, 3) := by decide +kernel
theorem dL_law_245 : decode cL_law 245 = .ok (.aload_n 2, 1) := by decide +kernel
theorem dL_law_246 : decode cL_law 246 = .ok (.aload_n 0, 1) := by decide +kernel
theorem dL_law_247 : decode cL_law 247 = .ok (.iload_n 3, 1) := by decide +kernel
theorem dL_law_248 : decode cL_law 248 = .ok (.iconst 1, 1) := by decide +kernel
theorem dL_law_249 : decode cL_law 249 = .ok (.iadd, 1) := by decide +kernel
theorem dL_law_250 : decode cL_law 250 = .ok (.iaload, 1) := by decide +kernel
theorem dL_law_251 : decode cL_law 251 = .ok (.aload_n 0, 1) := by decide +kernel
theorem dL_law_252 : decode cL_law 252 = .ok (.iload_n 3, 1) := by decide +kernel
theorem dL_law_253 : decode cL_law 253 = .ok (.iconst 2, 1) := by decide +kernel
theorem dL_law_254 : decode cL_law 254 = .ok (.iadd, 1) := by decide +kernel
theorem dL_law_255 : decode cL_law 255 = .ok (.iaload, 1) := by decide +kernel
theorem dL_law_256 : decode cL_law 256 = .ok (.ifCond .eq 7, 3) := by decide +kernel
theorem dL_law_259 : decode cL_law 259 = .ok (.iconst 1, 1) := by decide +kernel
theorem dL_law_260 : decode cL_law 260 = .ok (.goto 4, 3) := by decide +kernel
theorem dL_law_263 : decode cL_law 263 = .ok (.iconst 0, 1) := by decide +kernel
theorem dL_law_264 : decode cL_law 264 = .ok (.invokevirtual 31, 3) := by decide +kernel
theorem dL_law_267 : decode cL_law 267 = .ok (.if_icmp .eq 300, 3) := by decide +kernel
theorem dL_law_270 : decode cL_law 270 = .ok (.iconst 0, 1) := by decide +kernel
theorem dL_law_271 : decode cL_law 271 = .ok (.ireturn, 1) := by decide +kernel
theorem dL_law_272 : decode cL_law 272 = .ok (.aload_n 1, 1) := by decide +kernel
theorem dL_law_273 : decode cL_law 273 = .ok (.aload_n 0, 1) := by decide +kernel
theorem dL_law_274 : decode cL_law 274 = .ok (.iload_n 3, 1) := by decide +kernel
theorem dL_law_275 : decode cL_law 275 = .ok (.iconst 1, 1) := by decide +kernel
theorem dL_law_276 : decode cL_law 276 = .ok (.iadd, 1) := by decide +kernel
theorem dL_law_277 : decode cL_law 277 = .ok (.iaload, 1) := by decide +kernel
theorem dL_law_278 : decode cL_law 278 = .ok (.aload_n 0, 1) := by decide +kernel
theorem dL_law_279 : decode cL_law 279 = .ok (.iload_n 3, 1) := by decide +kernel
theorem dL_law_280 : decode cL_law 280 = .ok (.iconst 2, 1) := by decide +kernel
theorem dL_law_281 : decode cL_law 281 = .ok (.iadd, 1) := by decide +kernel
theorem dL_law_282 : decode cL_law 282 = .ok (.iaload, 1) := by decide +kernel
theorem dL_law_283 : decode cL_law 283 = .ok (.invokevirtual 32, 3) := by decide +kernel
theorem dL_law_286 : decode cL_law 286 = .ok (.aload_n 2, 1) := by decide +kernel
theorem dL_law_287 : decode cL_law 287 = .ok (.aload_n 0, 1) := by decide +kernel
theorem dL_law_288 : decode cL_law 288 = .ok (.iload_n 3, 1) := by decide +kernel
theorem dL_law_289 : decode cL_law 289 = .ok (.iconst 1, 1) := by decide +kernel
theorem dL_law_290 : decode cL_law 290 = .ok (.iadd, 1) := by decide +kernel
theorem dL_law_291 : decode cL_law 291 = .ok (.iaload, 1) := by decide +kernel
theorem dL_law_292 : decode cL_law 292 = .ok (.aload_n 0, 1) := by decide +kernel
theorem dL_law_293 : decode cL_law 293 = .ok (.iload_n 3, 1) := by decide +kernel
theorem dL_law_294 : decode cL_law 294 = .ok (.iconst 2, 1) := by decide +kernel
theorem dL_law_295 : decode cL_law 295 = .ok (.iadd, 1) := by decide +kernel
theorem dL_law_296 : decode cL_law 296 = .ok (.iaload, 1) := by decide +kernel
theorem dL_law_297 : decode cL_law 297 = .ok (.invokevirtual 36, 3) := by decide +kernel
theorem dL_law_300 : decode cL_law 300 = .ok (.if_icmp .eq 267, 3) := by decide +kernel
theorem dL_law_303 : decode cL_law 303 = .ok (.iconst 0, 1) := by decide +kernel
theorem dL_law_304 : decode cL_law 304 = .ok (.ireturn, 1) := by decide +kernel
theorem dL_law_305 : decode cL_law 305 = .ok (.aload_n 1, 1) := by decide +kernel
theorem dL_law_306 : decode cL_law 306 = .ok (.aload_n 0, 1) := by decide +kernel
theorem dL_law_307 : decode cL_law 307 = .ok (.iload_n 3, 1) := by decide +kernel
theorem dL_law_308 : decode cL_law 308 = .ok (.iconst 1, 1) := by decide +kernel
theorem dL_law_309 : decode cL_law 309 = .ok (.iadd, 1) := by decide +kernel
theorem dL_law_310 : decode cL_law 310 = .ok (.iaload, 1) := by decide +kernel
theorem dL_law_311 : decode cL_law 311 = .ok (.invokevirtual 37, 3) := by decide +kernel
theorem dL_law_314 : decode cL_law 314 = .ok (.aload_n 2, 1) := by decide +kernel
theorem dL_law_315 : decode cL_law 315 = .ok (.aload_n 0, 1) := by decide +kernel
theorem dL_law_316 : decode cL_law 316 = .ok (.iload_n 3, 1) := by decide +kernel
theorem dL_law_317 : decode cL_law 317 = .ok (.iconst 1, 1) := by decide +kernel
theorem dL_law_318 : decode cL_law 318 = .ok (.iadd, 1) := by decide +kernel
theorem dL_law_319 : decode cL_law 319 = .ok (.iaload, 1) := by decide +kernel
theorem dL_law_320 : decode cL_law 320 = .ok (.invokevirtual 40, 3) := by decide +kernel
theorem dL_law_323 : decode cL_law 323 = .ok (.if_icmp .eq 244, 3) := by decide +kernel
theorem dL_law_326 : decode cL_law 326 = .ok (.iconst 0, 1) := by decide +kernel
theorem dL_law_327 : decode cL_law 327 = .ok (.ireturn, 1) := by decide +kernel
theorem dL_law_328 : decode cL_law 328 = .ok (.aload_n 1, 1) := by decide +kernel
theorem dL_law_329 : decode cL_law 329 = .ok (.invokevirtual 41, 3) := by decide +kernel
theorem dL_law_332 : decode cL_law 332 = .ok (.aload_n 2, 1) := by decide +kernel
theorem dL_law_333 : decode cL_law 333 = .ok (.invokevirtual 45, 3) := by decide +kernel
theorem dL_law_336 : decode cL_law 336 = .ok (.if_icmp .eq 231, 3) := by decide +kernel
theorem dL_law_339 : decode cL_law 339 = .ok (.iconst 0, 1) := by decide +kernel
theorem dL_law_340 : decode cL_law 340 = .ok (.ireturn, 1) := by decide +kernel
theorem dL_law_341 : decode cL_law 341 = .ok (.aload_n 1, 1) := by decide +kernel
theorem dL_law_342 : decode cL_law 342 = .ok (.aload_n 0, 1) := by decide +kernel
theorem dL_law_343 : decode cL_law 343 = .ok (.iload_n 3, 1) := by decide +kernel
theorem dL_law_344 : decode cL_law 344 = .ok (.iconst 1, 1) := by decide +kernel
theorem dL_law_345 : decode cL_law 345 = .ok (.iadd, 1) := by decide +kernel
theorem dL_law_346 : decode cL_law 346 = .ok (.iaload, 1) := by decide +kernel
theorem dL_law_347 : decode cL_law 347 = .ok (.invokevirtual 46, 3) := by decide +kernel
theorem dL_law_350 : decode cL_law 350 = .ok (.aload_n 2, 1) := by decide +kernel
theorem dL_law_351 : decode cL_law 351 = .ok (.aload_n 0, 1) := by decide +kernel
theorem dL_law_352 : decode cL_law 352 = .ok (.iload_n 3, 1) := by decide +kernel
theorem dL_law_353 : decode cL_law 353 = .ok (.iconst 1, 1) := by decide +kernel
theorem dL_law_354 : decode cL_law 354 = .ok (.iadd, 1) := by decide +kernel
theorem dL_law_355 : decode cL_law 355 = .ok (.iaload, 1) := by decide +kernel
theorem dL_law_356 : decode cL_law 356 = .ok (.invokevirtual 50, 3) := by decide +kernel
theorem dL_law_359 : decode cL_law 359 = .ok (.if_icmp .eq 208, 3) := by decide +kernel
theorem dL_law_362 : decode cL_law 362 = .ok (.iconst 0, 1) := by decide +kernel
theorem dL_law_363 : decode cL_law 363 = .ok (.ireturn, 1) := by decide +kernel
theorem dL_law_364 : decode cL_law 364 = .ok (.aload_n 1, 1) := by decide +kernel
theorem dL_law_365 : decode cL_law 365 = .ok (.invokevirtual 51, 3) := by decide +kernel
theorem dL_law_368 : decode cL_law 368 = .ok (.aload_n 2, 1) := by decide +kernel
theorem dL_law_369 : decode cL_law 369 = .ok (.invokevirtual 54, 3) := by decide +kernel
theorem dL_law_372 : decode cL_law 372 = .ok (.if_icmp .eq 195, 3) := by decide +kernel
theorem dL_law_375 : decode cL_law 375 = .ok (.iconst 0, 1) := by decide +kernel
theorem dL_law_376 : decode cL_law 376 = .ok (.ireturn, 1) := by decide +kernel
theorem dL_law_377 : decode cL_law 377 = .ok (.aload_n 1, 1) := by decide +kernel
theorem dL_law_378 : decode cL_law 378 = .ok (.aload_n 0, 1) := by decide +kernel
theorem dL_law_379 : decode cL_law 379 = .ok (.iload_n 3, 1) := by decide +kernel
theorem dL_law_380 : decode cL_law 380 = .ok (.iconst 1, 1) := by decide +kernel
theorem dL_law_381 : decode cL_law 381 = .ok (.iadd, 1) := by decide +kernel
theorem dL_law_382 : decode cL_law 382 = .ok (.iaload, 1) := by decide +kernel
theorem dL_law_383 : decode cL_law 383 = .ok (.invokevirtual 55, 3) := by decide +kernel
theorem dL_law_386 : decode cL_law 386 = .ok (.aload_n 2, 1) := by decide +kernel
theorem dL_law_387 : decode cL_law 387 = .ok (.aload_n 0, 1) := by decide +kernel
theorem dL_law_388 : decode cL_law 388 = .ok (.iload_n 3, 1) := by decide +kernel
theorem dL_law_389 : decode cL_law 389 = .ok (.iconst 1, 1) := by decide +kernel
theorem dL_law_390 : decode cL_law 390 = .ok (.iadd, 1) := by decide +kernel
theorem dL_law_391 : decode cL_law 391 = .ok (.iaload, 1) := by decide +kernel
theorem dL_law_392 : decode cL_law 392 = .ok (.invokevirtual 58, 3) := by decide +kernel
theorem dL_law_395 : decode cL_law 395 = .ok (.if_icmp .eq 172, 3) := by decide +kernel
theorem dL_law_398 : decode cL_law 398 = .ok (.iconst 0, 1) := by decide +kernel
theorem dL_law_399 : decode cL_law 399 = .ok (.ireturn, 1) := by decide +kernel
theorem dL_law_400 : decode cL_law 400 = .ok (.aload_n 1, 1) := by decide +kernel
theorem dL_law_401 : decode cL_law 401 = .ok (.invokevirtual 59, 3) := by decide +kernel
theorem dL_law_404 : decode cL_law 404 = .ok (.aload_n 2, 1) := by decide +kernel
theorem dL_law_405 : decode cL_law 405 = .ok (.invokevirtual 62, 3) := by decide +kernel
theorem dL_law_408 : decode cL_law 408 = .ok (.if_icmp .eq 159, 3) := by decide +kernel
theorem dL_law_411 : decode cL_law 411 = .ok (.iconst 0, 1) := by decide +kernel
theorem dL_law_412 : decode cL_law 412 = .ok (.ireturn, 1) := by decide +kernel
theorem dL_law_413 : decode cL_law 413 = .ok (.aload_n 1, 1) := by decide +kernel
theorem dL_law_414 : decode cL_law 414 = .ok (.aload_n 0, 1) := by decide +kernel
theorem dL_law_415 : decode cL_law 415 = .ok (.iload_n 3, 1) := by decide +kernel
theorem dL_law_416 : decode cL_law 416 = .ok (.iconst 1, 1) := by decide +kernel
theorem dL_law_417 : decode cL_law 417 = .ok (.iadd, 1) := by decide +kernel
theorem dL_law_418 : decode cL_law 418 = .ok (.iaload, 1) := by decide +kernel
theorem dL_law_419 : decode cL_law 419 = .ok (.invokevirtual 63, 3) := by decide +kernel
theorem dL_law_422 : decode cL_law 422 = .ok (.aload_n 2, 1) := by decide +kernel
theorem dL_law_423 : decode cL_law 423 = .ok (.aload_n 0, 1) := by decide +kernel
theorem dL_law_424 : decode cL_law 424 = .ok (.iload_n 3, 1) := by decide +kernel
theorem dL_law_425 : decode cL_law 425 = .ok (.iconst 1, 1) := by decide +kernel
theorem dL_law_426 : decode cL_law 426 = .ok (.iadd, 1) := by decide +kernel
theorem dL_law_427 : decode cL_law 427 = .ok (.iaload, 1) := by decide +kernel
theorem dL_law_428 : decode cL_law 428 = .ok (.invokevirtual 66, 3) := by decide +kernel
theorem dL_law_431 : decode cL_law 431 = .ok (.if_icmp .eq 136, 3) := by decide +kernel
theorem dL_law_434 : decode cL_law 434 = .ok (.iconst 0, 1) := by decide +kernel
theorem dL_law_435 : decode cL_law 435 = .ok (.ireturn, 1) := by decide +kernel
theorem dL_law_436 : decode cL_law 436 = .ok (.aload_n 1, 1) := by decide +kernel
theorem dL_law_437 : decode cL_law 437 = .ok (.aload_n 0, 1) := by decide +kernel
theorem dL_law_438 : decode cL_law 438 = .ok (.iload_n 3, 1) := by decide +kernel
theorem dL_law_439 : decode cL_law 439 = .ok (.iconst 1, 1) := by decide +kernel
theorem dL_law_440 : decode cL_law 440 = .ok (.iadd, 1) := by decide +kernel
theorem dL_law_441 : decode cL_law 441 = .ok (.iaload, 1) := by decide +kernel
theorem dL_law_442 : decode cL_law 442 = .ok (.invokevirtual 67, 3) := by decide +kernel
theorem dL_law_445 : decode cL_law 445 = .ok (.aload_n 2, 1) := by decide +kernel
theorem dL_law_446 : decode cL_law 446 = .ok (.aload_n 0, 1) := by decide +kernel
theorem dL_law_447 : decode cL_law 447 = .ok (.iload_n 3, 1) := by decide +kernel
theorem dL_law_448 : decode cL_law 448 = .ok (.iconst 1, 1) := by decide +kernel
theorem dL_law_449 : decode cL_law 449 = .ok (.iadd, 1) := by decide +kernel
theorem dL_law_450 : decode cL_law 450 = .ok (.iaload, 1) := by decide +kernel
theorem dL_law_451 : decode cL_law 451 = .ok (.invokevirtual 70, 3) := by decide +kernel
theorem dL_law_454 : decode cL_law 454 = .ok (.if_icmp .eq 113, 3) := by decide +kernel
theorem dL_law_457 : decode cL_law 457 = .ok (.iconst 0, 1) := by decide +kernel
theorem dL_law_458 : decode cL_law 458 = .ok (.ireturn, 1) := by decide +kernel
theorem dL_law_459 : decode cL_law 459 = .ok (.aload_n 1, 1) := by decide +kernel
theorem dL_law_460 : decode cL_law 460 = .ok (.aload_n 0, 1) := by decide +kernel
theorem dL_law_461 : decode cL_law 461 = .ok (.iload_n 3, 1) := by decide +kernel
theorem dL_law_462 : decode cL_law 462 = .ok (.iconst 1, 1) := by decide +kernel
theorem dL_law_463 : decode cL_law 463 = .ok (.iadd, 1) := by decide +kernel
theorem dL_law_464 : decode cL_law 464 = .ok (.iaload, 1) := by decide +kernel
theorem dL_law_465 : decode cL_law 465 = .ok (.invokevirtual 71, 3) := by decide +kernel
theorem dL_law_468 : decode cL_law 468 = .ok (.aload_n 2, 1) := by decide +kernel
theorem dL_law_469 : decode cL_law 469 = .ok (.aload_n 0, 1) := by decide +kernel
theorem dL_law_470 : decode cL_law 470 = .ok (.iload_n 3, 1) := by decide +kernel
theorem dL_law_471 : decode cL_law 471 = .ok (.iconst 1, 1) := by decide +kernel
theorem dL_law_472 : decode cL_law 472 = .ok (.iadd, 1) := by decide +kernel
theorem dL_law_473 : decode cL_law 473 = .ok (.iaload, 1) := by decide +kernel
theorem dL_law_474 : decode cL_law 474 = .ok (.invokevirtual 74, 3) := by decide +kernel
theorem dL_law_477 : decode cL_law 477 = .ok (.if_icmp .eq 90, 3) := by decide +kernel
theorem dL_law_480 : decode cL_law 480 = .ok (.iconst 0, 1) := by decide +kernel
theorem dL_law_481 : decode cL_law 481 = .ok (.ireturn, 1) := by decide +kernel
theorem dL_law_482 : decode cL_law 482 = .ok (.aload_n 1, 1) := by decide +kernel
theorem dL_law_483 : decode cL_law 483 = .ok (.aload_n 0, 1) := by decide +kernel
theorem dL_law_484 : decode cL_law 484 = .ok (.iload_n 3, 1) := by decide +kernel
theorem dL_law_485 : decode cL_law 485 = .ok (.iconst 1, 1) := by decide +kernel
theorem dL_law_486 : decode cL_law 486 = .ok (.iadd, 1) := by decide +kernel
theorem dL_law_487 : decode cL_law 487 = .ok (.iaload, 1) := by decide +kernel
theorem dL_law_488 : decode cL_law 488 = .ok (.invokevirtual 75, 3) := by decide +kernel
theorem dL_law_491 : decode cL_law 491 = .ok (.aload_n 2, 1) := by decide +kernel
theorem dL_law_492 : decode cL_law 492 = .ok (.aload_n 0, 1) := by decide +kernel
theorem dL_law_493 : decode cL_law 493 = .ok (.iload_n 3, 1) := by decide +kernel
theorem dL_law_494 : decode cL_law 494 = .ok (.iconst 1, 1) := by decide +kernel
theorem dL_law_495 : decode cL_law 495 = .ok (.iadd, 1) := by decide +kernel
theorem dL_law_496 : decode cL_law 496 = .ok (.iaload, 1) := by decide +kernel
theorem dL_law_497 : decode cL_law 497 = .ok (.invokevirtual 78, 3) := by decide +kernel
theorem dL_law_500 : decode cL_law 500 = .ok (.if_icmp .eq 67, 3) := by decide +kernel
theorem dL_law_503 : decode cL_law 503 = .ok (.iconst 0, 1) := by decide +kernel
theorem dL_law_504 : decode cL_law 504 = .ok (.ireturn, 1) := by decide +kernel
theorem dL_law_505 : decode cL_law 505 = .ok (.aload_n 1, 1) := by decide +kernel
theorem dL_law_506 : decode cL_law 506 = .ok (.invokevirtual 79, 3) := by decide +kernel
theorem dL_law_509 : decode cL_law 509 = .ok (.aload_n 2, 1) := by decide +kernel
theorem dL_law_510 : decode cL_law 510 = .ok (.invokevirtual 82, 3) := by decide +kernel
theorem dL_law_513 : decode cL_law 513 = .ok (.if_icmp .eq 54, 3) := by decide +kernel
theorem dL_law_516 : decode cL_law 516 = .ok (.iconst 0, 1) := by decide +kernel
theorem dL_law_517 : decode cL_law 517 = .ok (.ireturn, 1) := by decide +kernel
theorem dL_law_518 : decode cL_law 518 = .ok (.aload_n 1, 1) := by decide +kernel
theorem dL_law_519 : decode cL_law 519 = .ok (.invokevirtual 83, 3) := by decide +kernel
theorem dL_law_522 : decode cL_law 522 = .ok (.aload_n 2, 1) := by decide +kernel
theorem dL_law_523 : decode cL_law 523 = .ok (.invokevirtual 86, 3) := by decide +kernel
theorem dL_law_526 : decode cL_law 526 = .ok (.if_icmp .eq 41, 3) := by decide +kernel
theorem dL_law_529 : decode cL_law 529 = .ok (.iconst 0, 1) := by decide +kernel
theorem dL_law_530 : decode cL_law 530 = .ok (.ireturn, 1) := by decide +kernel
theorem dL_law_531 : decode cL_law 531 = .ok (.aload_n 1, 1) := by decide +kernel
theorem dL_law_532 : decode cL_law 532 = .ok (.invokevirtual 87, 3) := by decide +kernel
theorem dL_law_535 : decode cL_law 535 = .ok (.aload_n 2, 1) := by decide +kernel
theorem dL_law_536 : decode cL_law 536 = .ok (.invokevirtual 90, 3) := by decide +kernel
theorem dL_law_539 : decode cL_law 539 = .ok (.if_icmp .eq 28, 3) := by decide +kernel
theorem dL_law_542 : decode cL_law 542 = .ok (.iconst 0, 1) := by decide +kernel
theorem dL_law_543 : decode cL_law 543 = .ok (.ireturn, 1) := by decide +kernel
theorem dL_law_544 : decode cL_law 544 = .ok (.aload_n 1, 1) := by decide +kernel
theorem dL_law_545 : decode cL_law 545 = .ok (.aload_n 0, 1) := by decide +kernel
theorem dL_law_546 : decode cL_law 546 = .ok (.iload_n 3, 1) := by decide +kernel
theorem dL_law_547 : decode cL_law 547 = .ok (.iconst 1, 1) := by decide +kernel
theorem dL_law_548 : decode cL_law 548 = .ok (.iadd, 1) := by decide +kernel
theorem dL_law_549 : decode cL_law 549 = .ok (.iaload, 1) := by decide +kernel
theorem dL_law_550 : decode cL_law 550 = .ok (.invokevirtual 91, 3) := by decide +kernel
theorem dL_law_553 : decode cL_law 553 = .ok (.aload_n 2, 1) := by decide +kernel
theorem dL_law_554 : decode cL_law 554 = .ok (.aload_n 0, 1) := by decide +kernel
theorem dL_law_555 : decode cL_law 555 = .ok (.iload_n 3, 1) := by decide +kernel
theorem dL_law_556 : decode cL_law 556 = .ok (.iconst 1, 1) := by decide +kernel
theorem dL_law_557 : decode cL_law 557 = .ok (.iadd, 1) := by decide +kernel
theorem dL_law_558 : decode cL_law 558 = .ok (.iaload, 1) := by decide +kernel
theorem dL_law_559 : decode cL_law 559 = .ok (.invokevirtual 94, 3) := by decide +kernel
theorem dL_law_562 : decode cL_law 562 = .ok (.if_icmp .eq 5, 3) := by decide +kernel
theorem dL_law_565 : decode cL_law 565 = .ok (.iconst 0, 1) := by decide +kernel
theorem dL_law_566 : decode cL_law 566 = .ok (.ireturn, 1) := by decide +kernel
theorem dL_law_567 : decode cL_law 567 = .ok (.iinc 3 5, 3) := by decide +kernel
theorem dL_law_570 : decode cL_law 570 = .ok (.goto (-552), 3) := by decide +kernel
theorem dL_law_573 : decode cL_law 573 = .ok (.iconst 1, 1) := by decide +kernel
theorem dL_law_574 : decode cL_law 574 = .ok (.ireturn, 1) := by decide +kernel
abbrev vwCl : List vw_C := [(RJx4a65c, TJx4a65c, 3), (RX0, TX0, 13), (RX1, TX1, 14), (RX2, TX2, 24)]
end
section
/-! worlds by their addresses; contracts of methods over a world; calls of them -/
def wA (L : List Nat) (sz : Nat) : Nat → Prop := fun q => q ∈ L ∨ sz ≤ q
theorem wA_up {L : List Nat} {a b : Nat} (h : a ≤ b) : ∀ q, wA L b q → wA L a q := fun _ hq => hq.elim Or.inl (fun h2 => Or.inr (Nat.le_trans h h2))
theorem wD {ws : va_W} {L : List Nat} {A : Nat → Prop} (hL : ws.map (fun q => q.1) = L) (hn : L.Nodup) (hA : ∀ q ∈ L, A q) : va_D A ws := by
  subst hL
  refine ⟨fun i j x y hi hj hxy => ?_, fun k q hk => hA _ (List.mem_map.mpr ⟨q, List.mem_of_getElem? hk, rfl⟩)⟩
  have h1 : (ws.map (fun q => q.1))[i]? = some x.1 := by rw [List.getElem?_map, hi]; rfl
  have h2 : (ws.map (fun q => q.1))[j]? = some x.1 := by rw [List.getElem?_map, hj, hxy]; rfl
  have hl : i < (ws.map (fun q => q.1)).length := (List.getElem?_eq_some_iff.mp h1).1
  exact (List.getElem?_inj hl hn).mp (h1.trans h2.symm)
def rmz (f lo : Nat) : Room := { frames := f, cells := 0, slots := 0, locals := lo }
/-- int answer, world w0 becomes w1 -/
def mI (l : Launch) (y : MethodName) (ws : List Cond) (rm : Room) (D : va_G) (tys : List (ClassId × FieldType)) (L : List Nat) (av : List Value) (w0 : va_W) (ans : Int32) (w1 : va_W) : Prop :=
  ∀ sz : Nat, Met l y ws rm (va_Pc av (fun U => U.heap.size = sz ∧ va_P D vwCl w0 U.heap ∧ va_K D vwCl tys U)) (va_Qi (fun r (_ : Unit) => r = ans) (fun _ t => va_P D vwCl w1 t.heap ∧ va_K D vwCl tys t) (wA L sz)) 0 0 (wA L sz)
/-- no answer -/
def mV (l : Launch) (y : MethodName) (ws : List Cond) (rm : Room) (D : va_G) (tys : List (ClassId × FieldType)) (L : List Nat) (av : List Value) (w0 w1 : va_W) : Prop :=
  ∀ sz : Nat, Met l y ws rm (va_Pc av (fun U => U.heap.size = sz ∧ va_P D vwCl w0 U.heap ∧ va_K D vwCl tys U)) (va_Qv (fun _ : Unit => True) (fun _ t => va_P D vwCl w1 t.heap ∧ va_K D vwCl tys t) (wA L sz)) 0 0 (wA L sz)
/-- int answer, nothing changes -/
def mR (l : Launch) (y : MethodName) (ws : List Cond) (rm : Room) (D : va_G) (tys : List (ClassId × FieldType)) (av : List Value) (w0 : va_W) (ans : Int32) : Prop :=
  Met l y ws rm (va_Pc av (fun U => va_P D vwCl w0 U.heap ∧ va_K D vwCl tys U)) (vp_Si (fun r => r = ans)) 0 0 (fun _ => False)
/-- an answer that is a reference or null, nothing changes -/
def mQ (l : Launch) (y : MethodName) (ws : List Cond) (rm : Room) (D : va_G) (tys : List (ClassId × FieldType)) (av : List Value) (w0 : va_W) (ans : Option Nat) : Prop :=
  Met l y ws rm (va_Pc av (fun U => va_P D vwCl w0 U.heap ∧ va_K D vwCl tys U)) (va_Sq (fun r => r = ans)) 0 0 (fun _ => False)
section MC
variable {p : Program} {l : Launch} {e : Env} {R : Room} {s : State} {m : MethodId} {args : Array Value} {below : List Frame} {meth : Method} {c : Code} {H : Heap} {locs : List Loc} {cells slots : Nat} {Q : State → Prop}
variable {cc bytes : ByteArray} {pc index nL n maxL : Nat} {ls : Array Slot} {rest st0 As : List Value} {y : MethodName} {ws Ts : List Cond} {rm : Room} {ret : Option FieldType} {own C : String} {b : Nat} {D : va_G} {tys : List (ClassId × FieldType)} {L : List Nat} {w0 w1 : va_W} {ans : Int32} {A0 : Nat → Prop} {H0 : Heap}
theorem m_blind {av : List Value} {sz : Nat} {w : va_W} : FrameBlind (va_Pc av (fun U => U.heap.size = sz ∧ va_P D vwCl w U.heap ∧ va_K D vwCl tys U)) := fun a U g mk q => by
  obtain ⟨q0, q1, qP, qK⟩ := q
  exact ⟨q0, q1, qP, va_K.moved (u := U) (U := U.calling g mk a) (Vm.Alike.refl U.vm) qK⟩
theorem m_blindR {av : List Value} {w : va_W} : FrameBlind (va_Pc av (fun U => va_P D vwCl w U.heap ∧ va_K D vwCl tys U)) := fun a U g mk q => by
  obtain ⟨q0, qP, qK⟩ := q
  exact ⟨q0, qP, va_K.moved (u := U) (U := U.calling g mk a) (Vm.Alike.refl U.vm) qK⟩
/-- a call with an int answer; hfr: what stays -/
theorem m_calli (S : CallFix p m c cc nL s args Ts own) (hM : mI l y ws rm D tys L (.ref b :: As) w0 ans w1) (cw : CallW R s args own C index y bytes maxL ret ws rm 0 0 n) (hK : va_K D vwCl tys s) (hP : va_P D vwCl w0 H) (hS : va_S A0 H0 H locs) (hA : ∀ q, wA L H.size q → A0 q)
    (hrec : ∃ cellB : Cell, H[b]? = some cellB ∧ cellB.vm.isStatics = false ∧ s.vm.findClass C = some cellB.cls) (hn : As.length = n) (hsize : ls.size = nL) (hstack : st0 = As.reverse ++ .ref b :: rest) (hW : (rest.map fun v => v.category).sum ≤ 8) (hdg : decode cc pc = .ok (.invokevirtual index, 3)) (hf : cells + 0 ≤ R.cells ∧ slots + 0 ≤ R.slots)
    (kk : ∀ (H1 : Heap) (locs1 : List Loc), va_P D vwCl w1 H1 → va_S A0 H0 H1 locs1 → (∀ q : Nat, q < H.size → ¬ wA L H.size q → H1[q]? = H[q]?) → W p l e R s m args below meth c H1 locs1 cells slots Q (F0 m (pc + 3) ls (.int ans :: rest))) : W p l e R s m args below meth c H locs cells slots Q (F0 m pc ls st0) := by
  refine va_calli (va_runV (As := As) (rest := rest) S (hM H.size) cw ⟨m_blind, hrec, fun U hU hw => ⟨rfl, by rw [hU], by rw [hU]; exact hP, va_K.moved hw.alike hK⟩⟩ rfl hn hsize hstack (lv_room hW) hdg hf) hS (fun q _ h => hA q h) hA (fun r u t H1 locs1 ht hvm hw hB hz1 hk1 hS1 => ?_)
  obtain ⟨hP1, hK1⟩ := hB
  rw [ht] at hP1
  subst hw
  exact kk H1 locs1 hP1 hS1 hk1
theorem m_callv (S : CallFix p m c cc nL s args Ts own) (hM : mV l y ws rm D tys L (.ref b :: As) w0 w1) (cw : CallW R s args own C index y bytes maxL ret ws rm 0 0 n) (hK : va_K D vwCl tys s) (hP : va_P D vwCl w0 H) (hS : va_S A0 H0 H locs) (hA : ∀ q, wA L H.size q → A0 q)
    (hrec : ∃ cellB : Cell, H[b]? = some cellB ∧ cellB.vm.isStatics = false ∧ s.vm.findClass C = some cellB.cls) (hn : As.length = n) (hsize : ls.size = nL) (hstack : st0 = As.reverse ++ .ref b :: rest) (hW : (rest.map fun v => v.category).sum ≤ 8) (hdg : decode cc pc = .ok (.invokevirtual index, 3)) (hf : cells + 0 ≤ R.cells ∧ slots + 0 ≤ R.slots)
    (kk : ∀ (H1 : Heap) (locs1 : List Loc), va_P D vwCl w1 H1 → va_S A0 H0 H1 locs1 → (∀ q : Nat, q < H.size → ¬ wA L H.size q → H1[q]? = H[q]?) → W p l e R s m args below meth c H1 locs1 cells slots Q (F0 m (pc + 3) ls rest)) : W p l e R s m args below meth c H locs cells slots Q (F0 m pc ls st0) := by
  refine va_callv (va_runV (As := As) (rest := rest) S (hM H.size) cw ⟨m_blind, hrec, fun U hU hw => ⟨rfl, by rw [hU], by rw [hU]; exact hP, va_K.moved hw.alike hK⟩⟩ rfl hn hsize hstack (lv_room hW) hdg hf) hS (fun q _ h => hA q h) hA (fun u t H1 locs1 ht hvm hw hB hz1 hk1 hS1 => ?_)
  obtain ⟨hP1, hK1⟩ := hB
  rw [ht] at hP1
  exact kk H1 locs1 hP1 hS1 hk1
theorem m_callR (S : CallFix p m c cc nL s args Ts own) (hM : mR l y ws rm D tys (.ref b :: As) w0 ans) (cw : CallW R s args own C index y bytes maxL ret ws rm 0 0 n) (hK : va_K D vwCl tys s) (hP : va_P D vwCl w0 H)
    (hrec : ∃ cellB : Cell, H[b]? = some cellB ∧ cellB.vm.isStatics = false ∧ s.vm.findClass C = some cellB.cls) (hn : As.length = n) (hsize : ls.size = nL) (hstack : st0 = As.reverse ++ .ref b :: rest) (hW : (rest.map fun v => v.category).sum ≤ 8) (hdg : decode cc pc = .ok (.invokevirtual index, 3)) (hf : cells + 0 ≤ R.cells ∧ slots + 0 ≤ R.slots)
    (kk : W p l e R s m args below meth c H locs cells slots Q (F0 m (pc + 3) ls (.int ans :: rest))) : W p l e R s m args below meth c H locs cells slots Q (F0 m pc ls st0) := by
  refine vp_callSi (W.runV (As := As) (rest := rest) S hM cw ⟨m_blindR, hrec, fun U hU hw => ⟨rfl, by rw [hU]; exact hP, va_K.moved hw.alike hK⟩⟩ rfl hn hsize hstack (lv_room hW) hdg hf) (fun r hr => ?_)
  subst hr
  exact kk
end MC
section ML
variable {p : Program} {l : Launch} {e : Env} {R : Room} {s : State} {m : MethodId} {args : Array Value} {below : List Frame} {meth : Method} {c : Code} {cells slots : Nat} {Q : State → Prop}
/-- a loop by a measure -/
theorem w_loop {σ : Type} {I : σ → Heap → List Loc → Array Slot → Prop} {pc : Nat} {st : List Value} (μ : σ → Nat) (hs : ∀ (x : σ) (H : Heap) (locs : List Loc) (ls : Array Slot), I x H locs ls → (∀ (y : σ) (H' : Heap) (locs' : List Loc) (ls' : Array Slot), μ y < μ x → I y H' locs' ls' → W p l e R s m args below meth c H' locs' cells slots Q (F0 m pc ls' st)) → W p l e R s m args below meth c H locs cells slots Q (F0 m pc ls st))
    (x : σ) {H : Heap} {locs : List Loc} {ls : Array Slot} (h : I x H locs ls) : W p l e R s m args below meth c H locs cells slots Q (F0 m pc ls st) := by
  have key : ∀ (n : Nat) (x : σ) (H : Heap) (locs : List Loc) (ls : Array Slot), μ x < n → I x H locs ls → W p l e R s m args below meth c H locs cells slots Q (F0 m pc ls st) := by
    intro n
    induction n with
    | zero => intro x H locs ls hx; exact absurd hx (Nat.not_lt_zero _)
    | succ n ih => intro x H locs ls hx hI; exact hs x H locs ls hI (fun y H' locs' ls' hy hI' => ih y H' locs' ls' (by omega) hI')
  exact key (μ x + 1) x H locs ls (Nat.lt_succ_self _) h
end ML
end
section
def bt (x : Int32) (i : Nat) : Bool := x.toBitVec.getLsbD i
theorem b_ext {x y : Int32} (h : ∀ i, i < 32 → bt x i = bt y i) : x = y := Int32.toBitVec_inj.mp (BitVec.eq_of_getLsbD_eq (fun i hi => h i hi))
theorem b_or (x y : Int32) (i : Nat) : bt (x ||| y) i = (bt x i || bt y i) := by unfold bt; rw [Int32.toBitVec_or, BitVec.getLsbD_or]
theorem b_and (x y : Int32) (i : Nat) : bt (x &&& y) i = (bt x i && bt y i) := by unfold bt; rw [Int32.toBitVec_and, BitVec.getLsbD_and]
theorem b_xor (x y : Int32) (i : Nat) : bt (x ^^^ y) i = (bt x i ^^ bt y i) := by unfold bt; rw [Int32.toBitVec_xor, BitVec.getLsbD_xor]
theorem b_big {x : Int32} {i : Nat} (h : 32 ≤ i) : bt x i = false := BitVec.getLsbD_of_ge _ _ h
theorem b_255 (i : Nat) : bt 255 i = decide (i < 8) := by
  rcases Nat.lt_or_ge i 32 with h | h
  · exact (by decide +kernel : ∀ i, i < 32 → bt 255 i = decide (i < 8)) i h
  · rw [b_big h, decide_eq_false (by omega)]
theorem b_65535 (i : Nat) : bt 65535 i = decide (i < 16) := by
  rcases Nat.lt_or_ge i 32 with h | h
  · exact (by decide +kernel : ∀ i, i < 32 → bt 65535 i = decide (i < 16)) i h
  · rw [b_big h, decide_eq_false (by omega)]
theorem b_m1 : ∀ i, i < 32 → bt (-1) i = true := by decide +kernel
theorem b_0 (i : Nat) : bt 0 i = false := BitVec.getLsbD_zero
theorem s_l : ∀ n, n < 32 → ((nI n &&& 31).toBitVec.smod 32).toNat = n := by decide +kernel
theorem s_u : ∀ n, n < 32 → (((nI n).toUInt32 &&& Int32.toUInt32 31).toBitVec % 32).toNat = n := by decide +kernel
theorem b_shl (n : Nat) (hn : n < 32) (x : Int32) {i : Nat} (hi : i < 32) : bt (x <<< (nI n &&& 31)) i = (decide (n ≤ i) && bt x (i - n)) := by
  unfold bt
  rw [Int32.toBitVec_shiftLeft]
  show (x.toBitVec <<< ((nI n &&& 31).toBitVec.smod 32).toNat).getLsbD i = _
  rw [s_l n hn, BitVec.getLsbD_shiftLeft]
  rcases Nat.lt_or_ge i n with h | h
  · simp [h, Nat.not_le.mpr h]
  · simp [hi, h, Nat.not_lt.mpr h]
theorem b_ushr (n : Nat) (hn : n < 32) (x : Int32) (i : Nat) : bt ((x.toUInt32 >>> ((nI n).toUInt32 &&& Int32.toUInt32 31)).toInt32) i = bt x (n + i) := by
  show (x.toUInt32 >>> ((nI n).toUInt32 &&& Int32.toUInt32 31)).toBitVec.getLsbD i = x.toUInt32.toBitVec.getLsbD (n + i)
  rw [UInt32.toBitVec_shiftRight]
  show (x.toUInt32.toBitVec >>> (((nI n).toUInt32 &&& Int32.toUInt32 31).toBitVec % 32).toNat).getLsbD i = _
  rw [s_u n hn, BitVec.getLsbD_ushiftRight]
theorem b_sshr (n : Nat) (hn : n < 32) (x : Int32) {i : Nat} (hi : i < 32) : bt (x >>> (nI n &&& 31)) i = if n + i < 32 then bt x (n + i) else bt x 31 := by
  unfold bt
  rw [Int32.toBitVec_shiftRight]
  show (x.toBitVec.sshiftRight ((nI n &&& 31).toBitVec.smod 32).toNat).getLsbD i = _
  rw [s_l n hn, BitVec.getLsbD_sshiftRight, BitVec.msb_eq_getLsbD_last]
  simp [hi]
theorem b_shl8 (x : Int32) {i : Nat} (hi : i < 32) : bt (x <<< ((8 : Int32) &&& 31)) i = (decide (8 ≤ i) && bt x (i - 8)) := b_shl 8 (by omega) x hi
theorem b_shl16 (x : Int32) {i : Nat} (hi : i < 32) : bt (x <<< ((16 : Int32) &&& 31)) i = (decide (16 ≤ i) && bt x (i - 16)) := b_shl 16 (by omega) x hi
theorem b_shl24 (x : Int32) {i : Nat} (hi : i < 32) : bt (x <<< ((24 : Int32) &&& 31)) i = (decide (24 ≤ i) && bt x (i - 24)) := b_shl 24 (by omega) x hi
theorem b_sshr8 (x : Int32) {i : Nat} (hi : i < 32) : bt (x >>> ((8 : Int32) &&& 31)) i = if 8 + i < 32 then bt x (8 + i) else bt x 31 := b_sshr 8 (by omega) x hi
/-- only bits below p -/
def lb (x : Int32) (p : Nat) : Prop := ∀ i, p ≤ i → bt x i = false
theorem lb_0 (p : Nat) : lb 0 p := fun i _ => b_0 i
theorem lb_up {x : Int32} {p q : Nat} (h : lb x p) (hq : p ≤ q) : lb x q := fun i hi => h i (by omega)
theorem lb_or {x y : Int32} {p : Nat} (hx : lb x p) (hy : lb y p) : lb (x ||| y) p := fun i hi => by rw [b_or, hx i hi, hy i hi]; rfl
theorem lb_zero {x : Int32} (h : lb x 0) : x = 0 := b_ext (fun i _ => by rw [h i (Nat.zero_le _), b_0])
theorem b_1 : ∀ i, i < 32 → bt 1 i = decide (i = 0) := by decide +kernel
theorem b_tst {x : Int32} {k : Nat} (hk : k < 32) : (x >>> (nI k &&& 31)) &&& 1 = 1 ↔ bt x k = true := by
  constructor
  · intro h
    have h0 : bt ((x >>> (nI k &&& 31)) &&& 1) 0 = true := by rw [h]; decide
    rw [b_and, b_sshr k hk x (by decide)] at h0
    simp only [Nat.add_zero, hk, if_true, Bool.and_eq_true] at h0
    exact h0.1
  · intro h
    apply b_ext
    intro i hi
    rw [b_and, b_1 i hi, b_sshr k hk x hi]
    by_cases h0 : i = 0
    · subst h0; simp [hk, h]
    · simp [h0]
theorem lb_shr {x : Int32} {n : Nat} (hn : n < 32) (h : x >>> (nI n &&& 31) = 0) : lb x n := by
  intro i hi
  rcases Nat.lt_or_ge i 32 with h2 | h2
  · have h3 : bt (x >>> (nI n &&& 31)) (i - n) = false := by rw [h, b_0]
    rw [b_sshr n hn x (by omega), if_pos (by omega), Nat.add_sub_cancel' hi] at h3
    exact h3
  · exact b_big h2
end
section
/-! the reference's world: v: its numbers by the place of the field, f k: the array at place k; a: the addresses -/
abbrev rSt : Type := (Nat → Int32) × (Nat → Nat → Int32)
def rF (a : Nat → Nat) (v : Nat → Int32) : List Value := [.int (v 0), .ref (a 1), .ref (a 2), .ref (a 3), .ref (a 4), .ref (a 5), .ref (a 6), .ref (a 7), .ref (a 8), .ref (a 9), .ref (a 10), .ref (a 11), .int (v 12), .int (v 13), .int (v 14), .int (v 15), .int (v 16), .int (v 17), .int (v 18), .int (v 19), .int (v 20), .int (v 21), .int (v 22), .int (v 23)]
def rW (cI cZ : ClassId) (a : Nat → Nat) (S : rSt) : va_W := [(a 0, .inr (3, rF a S.1)), (a 1, .inl (cI, 12, .inl (S.2 1))), (a 2, .inl (cI, 12, .inl (S.2 2))), (a 3, .inl (cI, 12, .inl (S.2 3))), (a 4, .inl (cI, 12, .inl (S.2 4))), (a 5, .inl (cI, 12, .inl (S.2 5))), (a 6, .inl (cI, 12, .inl (S.2 6))), (a 7, .inl (cI, 12, .inl (S.2 7))), (a 8, .inl (cI, 12, .inl (S.2 8))), (a 9, .inl (cI, 12, .inl (S.2 9))), (a 10, .inl (cZ, 12, .inl (S.2 10))), (a 11, .inl (cZ, 12, .inl (S.2 11)))]
def rL (a : Nat → Nat) : List Nat := [a 0, a 1, a 2, a 3, a 4, a 5, a 6, a 7, a 8, a 9, a 10, a 11]
abbrev rT (cI cZ : ClassId) : List (ClassId × FieldType) := [(cI, .int), (cZ, .boolean)]
theorem rW_L {cI cZ : ClassId} {a : Nat → Nat} {S : rSt} : (rW cI cZ a S).map (fun q => q.1) = rL a := rfl
def up2 (f : Nat → Nat → Int32) (k i : Nat) (x : Int32) : Nat → Nat → Int32 := va_up f k (upd (f k) i x)
theorem rF_set {a : Nat → Nat} {v : Nat → Int32} {x : Int32} (k : Nat) (hk : k = 0 ∨ (12 ≤ k ∧ k < 24)) : (rF a v).set k (.int x) = rF a (upd v k x) := by
  have h : k = 0 ∨ k = 12 ∨ k = 13 ∨ k = 14 ∨ k = 15 ∨ k = 16 ∨ k = 17 ∨ k = 18 ∨ k = 19 ∨ k = 20 ∨ k = 21 ∨ k = 22 ∨ k = 23 := by omega
  rcases h with rfl | rfl | rfl | rfl | rfl | rfl | rfl | rfl | rfl | rfl | rfl | rfl | rfl <;> rfl
theorem rW_put {cI cZ : ClassId} {a : Nat → Nat} {S : rSt} {x : Int32} (k : Nat) (hk : k = 0 ∨ (12 ≤ k ∧ k < 24)) : (rW cI cZ a S).set 0 (a 0, .inr (3, (rF a S.1).set k (.int x))) = rW cI cZ a (upd S.1 k x, S.2) := by
  rw [rF_set k hk]; rfl
theorem rW_at {cI cZ : ClassId} {a : Nat → Nat} {S : rSt} (k : Nat) (hk : 1 ≤ k ∧ k < 10) : (rW cI cZ a S)[k]? = some (a k, .inl (cI, 12, .inl (S.2 k))) := by
  have h : k = 1 ∨ k = 2 ∨ k = 3 ∨ k = 4 ∨ k = 5 ∨ k = 6 ∨ k = 7 ∨ k = 8 ∨ k = 9 := by omega
  rcases h with rfl | rfl | rfl | rfl | rfl | rfl | rfl | rfl | rfl <;> rfl
theorem rW_atZ {cI cZ : ClassId} {a : Nat → Nat} {S : rSt} (k : Nat) (hk : 10 ≤ k ∧ k < 12) : (rW cI cZ a S)[k]? = some (a k, .inl (cZ, 12, .inl (S.2 k))) := by
  have h : k = 10 ∨ k = 11 := by omega
  rcases h with rfl | rfl <;> rfl
theorem rW_set {cI cZ : ClassId} {a : Nat → Nat} {S : rSt} {g : Nat → Int32} (k : Nat) (hk : 1 ≤ k ∧ k < 10) : (rW cI cZ a S).set k (a k, .inl (cI, 12, .inl g)) = rW cI cZ a (S.1, va_up S.2 k g) := by
  have h : k = 1 ∨ k = 2 ∨ k = 3 ∨ k = 4 ∨ k = 5 ∨ k = 6 ∨ k = 7 ∨ k = 8 ∨ k = 9 := by omega
  rcases h with rfl | rfl | rfl | rfl | rfl | rfl | rfl | rfl | rfl <;> rfl
theorem rW_setZ {cI cZ : ClassId} {a : Nat → Nat} {S : rSt} {g : Nat → Int32} (k : Nat) (hk : 10 ≤ k ∧ k < 12) : (rW cI cZ a S).set k (a k, .inl (cZ, 12, .inl g)) = rW cI cZ a (S.1, va_up S.2 k g) := by
  have h : k = 10 ∨ k = 11 := by omega
  rcases h with rfl | rfl <;> rfl
section RK
variable {p : Program} {l : Launch} {e : Env} {R : Room} {s : State} {m : MethodId} {args : Array Value} {below : List Frame} {meth : Method} {c : Code} {H : Heap} {locs : List Loc} {cells slots : Nat} {Q : State → Prop}
variable {cc : ByteArray} {pc index : Nat} {ls : Array Slot} {rest : List Value} {Ts : List Cond} {D : va_G} {cI cZ : ClassId} {a : Nat → Nat} {S : rSt}
theorem r_get (hx : p.tables.exec = Jvm.exec) (hb : c.code = cc) (hts : ∀ w ∈ Ts, w.before args s = true) (hin : ∀ w ∈ wsX20, w ∈ Ts) (hown : s.vm.findClass RX2 = some m.cls) (hK : va_K D vwCl (rT cI cZ) s) (hP : va_P D vwCl (rW cI cZ a S) H) (k : Nat) (hk : k < 24) (hlink : Cond.fieldLink RX2 index "DozingDevicesModel" (TX2 k).2.1 (TX2 k).2.2.1 ∈ Ts) (hT : (TX2 k).1 = "DozingDevicesModel") {v : Value} (hv : (rF a S.1)[k]? = some v) (hdg : decode cc pc = .ok (.getfield index, 3))
    (kk : W p l e R s m args below meth c H locs cells slots Q (F0 m (pc + 3) ls (v :: rest))) : W p l e R s m args below meth c H locs cells slots Q (F0 m pc ls (.ref (a 0) :: rest)) :=
  va_get (ci := 3) (C := RX2) (T := TX2) (N := 24) hx hb hts hin hown hK hP 0 rfl rfl k hk (hts _ hlink) (fun _ h => by rw [hT] at h; exact h) hv hdg kk
theorem r_put (hn : (rL a).Nodup) (hx : p.tables.exec = Jvm.exec) (hb : c.code = cc) (hts : ∀ w ∈ Ts, w.before args s = true) (hin : ∀ w ∈ wsX20, w ∈ Ts) (hown : s.vm.findClass RX2 = some m.cls) (hK : va_K D vwCl (rT cI cZ) s) (hP : va_P D vwCl (rW cI cZ a S) H) (hS : va_S (wA (rL a) s.heap.size) s.heap H locs) (k : Nat) (hk : k = 0 ∨ (12 ≤ k ∧ k < 24)) (hlink : Cond.fieldLink RX2 index "DozingDevicesModel" (TX2 k).2.1 (TX2 k).2.2.1 ∈ Ts) (hT : (TX2 k).1 = "DozingDevicesModel" ∧ (TX2 k).2.2.2 = false ∧ tyX2 k = .int) {x : Int32} (hdg : decode cc pc = .ok (.putfield index, 3))
    (kk : ∀ (H1 : Heap) (locs1 : List Loc), va_P D vwCl (rW cI cZ a (upd S.1 k x, S.2)) H1 → va_S (wA (rL a) s.heap.size) s.heap H1 locs1 → W p l e R s m args below meth c H1 locs1 cells slots Q (F0 m (pc + 3) ls rest)) : W p l e R s m args below meth c H locs cells slots Q (F0 m pc ls (.int x :: .ref (a 0) :: rest)) := by
  have hk24 : k < 24 := by omega
  refine va_put (ci := 3) (C := RX2) (T := TX2) (N := 24) (ty := .int) hx hb hts hin tyX2 tyX2_ok nmX2 hown hK hP (wD rW_L hn (fun _ h => Or.inl h)) hS 0 rfl rfl k hk24 (hts _ hlink) (fun _ h => by rw [hT.1] at h; exact h) hT.2.1 (by rw [tyX2_ok k hk24, hT.2.2]) rfl rfl (by show k < 24; exact hk24) hdg (fun H1 locs1 hP1 _ hS1 => ?_)
  rw [rW_put k hk] at hP1
  exact kk H1 locs1 hP1 hS1
theorem r_ald {x : Int32} (hx : p.tables.exec = Jvm.exec) (hb : c.code = cc) (hK : va_K D vwCl (rT cI cZ) s) (hP : va_P D vwCl (rW cI cZ a S) H) (k : Nat) (hk : 1 ≤ k ∧ k < 10) {j : Nat} (hj : j < 12) (hx2 : S.2 k j = x) (hdg : decode cc pc = .ok (.iaload, 1))
    (kk : W p l e R s m args below meth c H locs cells slots Q (F0 m (pc + 1) ls (.int x :: rest))) : W p l e R s m args below meth c H locs cells slots Q (F0 m pc ls (.int (nI j) :: .ref (a k) :: rest)) := by
  refine va_iald hx hb hK hP k 0 (rW_at k hk) rfl (vp_in_nI hj (by decide)) hdg ?_
  rw [nI_clamp (Nat.lt_trans hj (by decide)), hx2]
  exact kk
theorem r_zald {x : Int32} (hx : p.tables.exec = Jvm.exec) (hb : c.code = cc) (hK : va_K D vwCl (rT cI cZ) s) (hP : va_P D vwCl (rW cI cZ a S) H) (k : Nat) (hk : 10 ≤ k ∧ k < 12) {j : Nat} (hj : j < 12) (hx2 : S.2 k j = x) (hdg : decode cc pc = .ok (.baload, 1))
    (kk : W p l e R s m args below meth c H locs cells slots Q (F0 m (pc + 1) ls (.int x :: rest))) : W p l e R s m args below meth c H locs cells slots Q (F0 m pc ls (.int (nI j) :: .ref (a k) :: rest)) := by
  refine va_zald hx hb hK hP k 1 (rW_atZ k hk) rfl (vp_in_nI hj (by decide)) hdg ?_
  rw [nI_clamp (Nat.lt_trans hj (by decide)), hx2]
  exact kk
theorem r_ast (hn : (rL a).Nodup) (hx : p.tables.exec = Jvm.exec) (hb : c.code = cc) (hK : va_K D vwCl (rT cI cZ) s) (hP : va_P D vwCl (rW cI cZ a S) H) (hS : va_S (wA (rL a) s.heap.size) s.heap H locs) (k : Nat) (hk : 1 ≤ k ∧ k < 10) {j : Nat} {x : Int32} (hj : j < 12) (hdg : decode cc pc = .ok (.iastore, 1))
    (kk : ∀ (H1 : Heap) (locs1 : List Loc), va_P D vwCl (rW cI cZ a (S.1, up2 S.2 k j x)) H1 → va_S (wA (rL a) s.heap.size) s.heap H1 locs1 → W p l e R s m args below meth c H1 locs1 cells slots Q (F0 m (pc + 1) ls rest)) : W p l e R s m args below meth c H locs cells slots Q (F0 m pc ls (.int x :: .int (nI j) :: .ref (a k) :: rest)) := by
  refine va_iast hx hb hK hP (wD rW_L hn (fun _ h => Or.inl h)) hS k 0 (rW_at k hk) rfl (vp_in_nI hj (by decide)) hdg (fun H1 locs1 hP1 _ hS1 => ?_)
  rw [nI_clamp (Nat.lt_trans hj (by decide)), rW_set k hk] at hP1
  exact kk H1 locs1 hP1 hS1
theorem nar01 {x : Int32} (h : x = 0 ∨ x = 1) : vp_nar .boolean x = x := by rcases h with rfl | rfl <;> rfl
theorem r_zast (hn : (rL a).Nodup) (hx : p.tables.exec = Jvm.exec) (hb : c.code = cc) (hK : va_K D vwCl (rT cI cZ) s) (hP : va_P D vwCl (rW cI cZ a S) H) (hS : va_S (wA (rL a) s.heap.size) s.heap H locs) (k : Nat) (hk : 10 ≤ k ∧ k < 12) {j : Nat} {x : Int32} (hj : j < 12) (h01 : x = 0 ∨ x = 1) (hdg : decode cc pc = .ok (.bastore, 1))
    (kk : ∀ (H1 : Heap) (locs1 : List Loc), va_P D vwCl (rW cI cZ a (S.1, up2 S.2 k j x)) H1 → va_S (wA (rL a) s.heap.size) s.heap H1 locs1 → W p l e R s m args below meth c H1 locs1 cells slots Q (F0 m (pc + 1) ls rest)) : W p l e R s m args below meth c H locs cells slots Q (F0 m pc ls (.int x :: .int (nI j) :: .ref (a k) :: rest)) := by
  refine va_zast hx hb hK hP (wD rW_L hn (fun _ h => Or.inl h)) hS k 1 (rW_atZ k hk) rfl (vp_in_nI hj (by decide)) hdg (fun H1 locs1 hP1 _ hS1 => ?_)
  rw [nar01 h01, nI_clamp (Nat.lt_trans hj (by decide)), rW_setZ k hk] at hP1
  exact kk H1 locs1 hP1 hS1
end RK
end
section
/-! the reference: pure pictures of its methods, and their contracts -/
def rOk (n : Nat) (S : rSt) : Prop := S.1 0 = nI n ∧ n ≤ 12 ∧ ∀ p, p < n → lb (S.2 1 p) p
def rSm (S T : rSt) : Prop := T.1 0 = S.1 0 ∧ T.2 1 = S.2 1
theorem rOk_of {n : Nat} {S T : rSt} (h : rSm S T) (hok : rOk n S) : rOk n T := ⟨h.1.trans hok.1, hok.2.1, by rw [h.2]; exact hok.2.2⟩
theorem rSm.rf {S : rSt} : rSm S S := ⟨rfl, rfl⟩
theorem rSm.tr {S T U : rSt} (h : rSm S T) (h2 : rSm T U) : rSm S U := ⟨h2.1.trans h.1, h2.2.trans h.2⟩
def inR (n : Nat) (d : Int32) : Bool := decide (0 ≤ d.toInt) && decide (d.toInt < n)
theorem inR_spec {n : Nat} {d : Int32} (hn : n ≤ 12) (h : inR n d = true) : ∃ j, j < n ∧ d = nI j := by
  simp only [inR, Bool.and_eq_true, decide_eq_true_eq] at h
  refine ⟨d.toInt.toNat, by omega, Int32.toInt_inj.mp ?_⟩
  rw [nI_toInt (by omega)]; omega
theorem inR_iff {n : Nat} {d : Int32} (hn : n ≤ 12) : inR n d = true ↔ (¬ d < 0 ∧ d < nI n) := by
  simp only [inR, Bool.and_eq_true, decide_eq_true_eq, Int32.lt_iff_toInt_lt, Int32.toInt_zero, nI_toInt (show n < 2 ^ 31 by omega)]
  omega
theorem inR_nI {n j : Nat} (hn : n ≤ 12) (h : j < n) : inR n (nI j) = true := by
  simp only [inR, Bool.and_eq_true, decide_eq_true_eq, nI_toInt (show j < 2 ^ 31 by omega)]; omega
def R_none (n : Nat) (S : rSt) (d : Int32) : Int32 := if inR n d = true then 0 else 1

set_option maxHeartbeats 4000000 in
set_option maxRecDepth 100000 in
theorem c_X2_none (l : Launch) (D : va_G) (cI cZ : ClassId) (a : Nat → Nat) (ha : (rL a).Nodup) (n : Nat) (S : rSt) (hok : rOk n S) (d : Int32) : mR l yX2_none wsX2_none (rmz 0 0) D (rT cI cZ) [.ref (a 0), .int d] (rW cI cZ a S) (R_none n S d) := by
  refine Met.ofW (cc := cX2_none) (maxL := 2) (ret := (some .boolean)) (by decide) rfl ?_
  intro p e s m args below meth c s₁ B hml hv
  obtain ⟨rfl, hP, hK⟩ := hv
  have hx := B.exec
  have hb := B.bytes
  have hr := B.returns
  have hts := atoms_spec (ws := wsX2_none) B.pre
  have hin : ∀ w ∈ wsX20, w ∈ wsX2_none := fun w h => List.mem_cons_of_mem _ (List.mem_append_right _ h)
  have hown : s.vm.findClass RX2 = some m.cls := findClass_of_methodNamed B.named
  have hlocks := B.notSynchronized
  have hn12 : n ≤ 12 := hok.2.1
  have hl := lv_entry ([.ref (a 0), .int d]) (n := 2) (Nat.le_of_ble_eq_true rfl)
  rw [lg_entry_eq]
  generalize (lg_sl ([.ref (a 0), .int d]) ++ List.replicate (2 - (lg_sl ([.ref (a 0), .int d])).length) Slot.unset).toArray = ls at hl ⊢
  have hl : lv_has ls 2 [(0, .ref (a 0)), (1, .int d)] := hl
  refine lv_iload_n hx hb dX2_none_0 rfl (lv_at hl 1 rfl) ?_
  refine lv_if_lt (tgt := 12) hx hb dX2_none_1 (by decide) (fun c1 => ?_) (fun c1 => ?_)
  · refine lv_iconst (v := 1) hx hb dX2_none_12 (by decide) ?_
    refine lv_goto (tgt := 17) hx hb dX2_none_13 (by decide) ?_
    have hE : R_none n S d = 1 := by unfold R_none; first | exact if_pos ((inR_iff hn12).mpr ⟨by assumption, by assumption⟩) | exact if_neg (fun h => absurd (by assumption) ((inR_iff hn12).mp h).1) | exact if_neg (fun h => absurd ((inR_iff hn12).mp h).2 (by assumption))
    exact W.zret (v := 1) hx hb hr rfl (fun tt ht hW => ⟨1, rfl, hE.symm, ht⟩) (fun q hq => by cases hq) dX2_none_17
  · refine lv_iload_n hx hb dX2_none_4 rfl (lv_at hl 1 rfl) ?_
    refine lv_aload_n hx hb dX2_none_5 rfl (lv_at hl 0 rfl) ?_
    refine r_get (S := S) (v := .int (nI n)) hx hb hts hin hown hK hP 0 (by decide) (by decide +kernel) rfl (congrArg (fun z => some (Value.int z)) hok.1) dX2_none_6 ?_
    refine lv_icmp_lt (tgt := 16) hx hb dX2_none_9 (by decide) (fun c2 => ?_) (fun c2 => ?_)
    · refine lv_iconst (v := 0) hx hb dX2_none_16 (by decide) ?_
      have hE : R_none n S d = 0 := by unfold R_none; first | exact if_pos ((inR_iff hn12).mpr ⟨by assumption, by assumption⟩) | exact if_neg (fun h => absurd (by assumption) ((inR_iff hn12).mp h).1) | exact if_neg (fun h => absurd ((inR_iff hn12).mp h).2 (by assumption))
      exact W.zret (v := 0) hx hb hr rfl (fun tt ht hW => ⟨0, rfl, hE.symm, ht⟩) (fun q hq => by cases hq) dX2_none_17
    · refine lv_iconst (v := 1) hx hb dX2_none_12 (by decide) ?_
      refine lv_goto (tgt := 17) hx hb dX2_none_13 (by decide) ?_
      have hE : R_none n S d = 1 := by unfold R_none; first | exact if_pos ((inR_iff hn12).mpr ⟨by assumption, by assumption⟩) | exact if_neg (fun h => absurd (by assumption) ((inR_iff hn12).mp h).1) | exact if_neg (fun h => absurd ((inR_iff hn12).mp h).2 (by assumption))
      exact W.zret (v := 1) hx hb hr rfl (fun tt ht hW => ⟨1, rfl, hE.symm, ht⟩) (fun q hq => by cases hq) dX2_none_17


def R_rouse_b (set : Int32) (k1 : Nat) (x2 : Int32) (Z : rSt) : Int32 × rSt :=
  if (set >>> ((nI k1) &&& 31)) &&& 1 = 1 then (if Z.2 5 k1 = 2 then (x2, (Z.1, up2 (up2 (Z.2) 5 k1 2) 8 k1 0))
    else ((x2) + 1, (Z.1, up2 (up2 (Z.2) 5 k1 2) 8 k1 0)))
  else (x2, Z)
theorem R_rouse_b_sm (set : Int32) (k1 : Nat) (x2 : Int32) (Z : rSt) : rSm Z (R_rouse_b set k1 x2 Z).2 := by
  unfold R_rouse_b
  split
  · split
    · exact (show rSm (Z) (Z.1, up2 (up2 (Z.2) 5 k1 2) 8 k1 0) from ⟨rfl, rfl⟩)
    · exact (show rSm (Z) (Z.1, up2 (up2 (Z.2) 5 k1 2) 8 k1 0) from ⟨rfl, rfl⟩)
  · exact rSm.rf
def R_rouse_it (n : Nat) (S : rSt) (set : Int32) : Nat → Int32 × rSt
  | 0 => (0, S)
  | k1 + 1 => R_rouse_b set k1 ((R_rouse_it n S set k1).1) ((R_rouse_it n S set k1).2)
def R_rouse (n : Nat) (S : rSt) (set : Int32) : Int32 × rSt :=
  ((R_rouse_it n S set n).1, (R_rouse_it n S set n).2)
theorem R_rouse_it_sm (n : Nat) (S : rSt) (set : Int32) (k : Nat) : rSm S (R_rouse_it n S set k).2 := by
  induction k with
  | zero => exact rSm.rf
  | succ k ih =>
    refine ih.tr ?_
    show rSm _ (R_rouse_b set k _ _).2
    unfold R_rouse_b
    repeat' split
    all_goals exact ⟨rfl, rfl⟩
theorem R_rouse_it_ok (n : Nat) (S : rSt) (set : Int32) (k : Nat) (hok : rOk n S) : rOk n (R_rouse_it n S set k).2 := rOk_of (R_rouse_it_sm n S set k) hok
theorem R_rouse_ok (n : Nat) (S : rSt) (set : Int32) (hok : rOk n S) : rOk n (R_rouse n S set).2 := R_rouse_it_ok n S set n hok
set_option maxHeartbeats 4000000 in
set_option maxRecDepth 100000 in
theorem c_X2_rouse (l : Launch) (D : va_G) (cI cZ : ClassId) (a : Nat → Nat) (ha : (rL a).Nodup) (n : Nat) (S : rSt) (hok : rOk n S) (set : Int32) : mI l yX2_rouse wsX2_rouse (rmz 0 0) D (rT cI cZ) (rL a) [.ref (a 0), .int set] (rW cI cZ a S) (R_rouse n S set).1 (rW cI cZ a (R_rouse n S set).2) := by
  intro sz
  refine Met.ofW (cc := cX2_rouse) (maxL := 4) (ret := (some .int)) (by decide) rfl ?_
  intro p e s m args below meth c s₁ B hml hv
  obtain ⟨rfl, hsz, hP, hK⟩ := hv
  have hx := B.exec
  have hb := B.bytes
  have hr := B.returns
  have hts := atoms_spec (ws := wsX2_rouse) B.pre
  have hin : ∀ w ∈ wsX20, w ∈ wsX2_rouse := fun w h => List.mem_cons_of_mem _ (List.mem_append_right _ h)
  have hown : s.vm.findClass RX2 = some m.cls := findClass_of_methodNamed B.named
  have hlocks := B.notSynchronized
  have hn12 : n ≤ 12 := hok.2.1
  subst hsz
  have hS : va_S (wA (rL a) s.heap.size) s.heap s.heap [] := va_S.rf
  have hl := lv_entry ([.ref (a 0), .int set]) (n := 4) (Nat.le_of_ble_eq_true rfl)
  rw [lg_entry_eq]
  generalize (lg_sl ([.ref (a 0), .int set]) ++ List.replicate (4 - (lg_sl ([.ref (a 0), .int set])).length) Slot.unset).toArray = ls at hl ⊢
  have hl : lv_has ls 4 [(0, .ref (a 0)), (1, .int set)] := hl
  have hok0 := hok
  refine lv_iconst (v := 0) hx hb dX2_rouse_0 (by decide) ?_
  refine lv_istore_n (lv' := [(2, .int 0), (0, .ref (a 0)), (1, .int set)]) hx hb dX2_rouse_1 rfl hl (by decide) rfl (fun ls hl => ?_)
  refine lv_iconst (v := 0) hx hb dX2_rouse_2 (by decide) ?_
  refine lv_istore_n (lv' := [(3, .int 0), (2, .int 0), (0, .ref (a 0)), (1, .int set)]) hx hb dX2_rouse_3 rfl hl (by decide) rfl (fun ls hl => ?_)
  refine w_loop (σ := Nat) (I := fun k1 H locs ls => k1 ≤ n ∧ va_P D vwCl (rW cI cZ a ((R_rouse_it n S set k1).2)) H ∧ va_S (wA (rL a) s.heap.size) s.heap H locs ∧ lv_has ls 4 [(0, .ref (a 0)), (1, .int set), (2, .int ((R_rouse_it n S set k1).1)), (3, .int (nI k1))]) (fun k1 => n - k1) ?_ 0 ⟨Nat.zero_le _, hP, hS, lv_sub hl [2, 3, 1, 0] rfl⟩
  intro k1 H locs ls hI ih
  obtain ⟨hk, hP, hS, hl⟩ := hI
  have hok : rOk n (R_rouse_it n S set k1).2 := R_rouse_it_ok n S set k1 hok0
  refine lv_iload_n hx hb dX2_rouse_4 rfl (lv_at hl 3 rfl) ?_
  refine lv_aload_n hx hb dX2_rouse_5 rfl (lv_at hl 0 rfl) ?_
  refine r_get (S := (R_rouse_it n S set k1).2) (v := .int (nI n)) hx hb hts hin hown hK hP 0 (by decide) (by decide +kernel) rfl (congrArg (fun z => some (Value.int z)) hok.1) dX2_rouse_6 ?_
  refine lv_icmp_ge (tgt := 59) hx hb dX2_rouse_9 (by decide) (fun c2 => ?_) (fun c2 => ?_)
  · have hkn : k1 = n := Nat.le_antisymm hk ((nI_leI (by omega) (by omega)).mp c2)
    rw [hkn] at hP hl
    have hok : rOk n (R_rouse_it n S set n).2 := R_rouse_it_ok n S set n hok0
    refine lv_iload_n hx hb dX2_rouse_59 rfl (lv_at hl 2 rfl) ?_
    have hE : R_rouse n S set = ((R_rouse_it n S set n).1, (R_rouse_it n S set n).2) := by first | (simp only [R_rouse]; done) | (simp only [R_rouse]; rfl)
    exact W.iret (v := (R_rouse_it n S set n).1) hx hb hr (fun tt ht hW => ⟨⟨(R_rouse_it n S set n).1, (), rfl, by rw [hE], by rw [ht, hE]; exact hP, va_K.moved hW.alike hK⟩, hS.F ht⟩) hS.2.2 dX2_rouse_60
  · have hlt : k1 < n := Nat.lt_of_not_le (fun z => c2 ((nI_leI (by omega) (by omega)).mpr z))
    refine lv_iload_n hx hb dX2_rouse_12 rfl (lv_at hl 1 rfl) ?_
    refine lv_iload_n hx hb dX2_rouse_13 rfl (lv_at hl 3 rfl) ?_
    refine lv_ishr hx hb dX2_rouse_14 ?_
    refine lv_iconst (v := 1) hx hb dX2_rouse_15 (by decide) ?_
    refine lv_iand hx hb dX2_rouse_16 ?_
    refine lv_iconst (v := 1) hx hb dX2_rouse_17 (by decide) ?_
    refine lv_icmp_ne (tgt := 53) hx hb dX2_rouse_18 (by decide) (fun c3 => ?_) (fun c3 => ?_)
    · refine lv_iinc (v := nI (k1 + 1)) (lv' := [(3, .int (nI (k1 + 1))), (0, .ref (a 0)), (1, .int set), (2, .int ((R_rouse_it n S set k1).1))]) hx hb dX2_rouse_53 hl (k := 3) rfl (nI_1 _) (by decide) rfl (fun ls hl => ?_)
      refine lv_goto (tgt := 4) hx hb dX2_rouse_56 (by decide) ?_
      have hE : R_rouse_it n S set (k1 + 1) = ((R_rouse_it n S set k1).1, (R_rouse_it n S set k1).2) := by show R_rouse_b set k1 ((R_rouse_it n S set k1).1) ((R_rouse_it n S set k1).2) = _; first | (simp only [R_rouse_b, if_neg c3]; done) | (simp only [R_rouse_b, if_neg c3]; rfl)
      exact ih (k1 + 1) H locs ls (by omega) ⟨by omega, by rw [hE]; exact hP, hS, by rw [hE]; exact lv_sub hl [1, 2, 3, 0] rfl⟩
    · refine lv_aload_n hx hb dX2_rouse_21 rfl (lv_at hl 0 rfl) ?_
      refine r_get (S := (R_rouse_it n S set k1).2) (v := .ref (a 5)) hx hb hts hin hown hK hP 5 (by decide) (by decide +kernel) rfl rfl dX2_rouse_22 ?_
      refine lv_iload_n hx hb dX2_rouse_25 rfl (lv_at hl 3 rfl) ?_
      refine r_ald (S := (R_rouse_it n S set k1).2) (x := (R_rouse_it n S set k1).2.2 5 k1) hx hb hK hP 5 (by decide) (j := k1) (by omega) rfl dX2_rouse_26 ?_
      refine lv_iconst (v := 2) hx hb dX2_rouse_27 (by decide) ?_
      refine lv_icmp_ne (tgt := 35) hx hb dX2_rouse_28 (by decide) (fun c4 => ?_) (fun c4 => ?_)
      · refine lv_iload_n hx hb dX2_rouse_35 rfl (lv_at hl 2 rfl) ?_
        refine lv_iconst (v := 1) hx hb dX2_rouse_36 (by decide) ?_
        refine lv_iadd hx hb dX2_rouse_37 ?_
        refine lv_istore_n (lv' := [(2, .int (((R_rouse_it n S set k1).1) + 1)), (0, .ref (a 0)), (1, .int set), (3, .int (nI k1))]) hx hb dX2_rouse_38 rfl hl (by decide) rfl (fun ls hl => ?_)
        refine lv_aload_n hx hb dX2_rouse_39 rfl (lv_at hl 1 rfl) ?_
        refine r_get (S := (R_rouse_it n S set k1).2) (v := .ref (a 5)) hx hb hts hin hown hK hP 5 (by decide) (by decide +kernel) rfl rfl dX2_rouse_40 ?_
        refine lv_iload_n hx hb dX2_rouse_43 rfl (lv_at hl 3 rfl) ?_
        refine lv_iconst (v := 2) hx hb dX2_rouse_44 (by decide) ?_
        refine r_ast ha hx hb hK hP hS 5 (by decide) (j := k1) (by omega) dX2_rouse_45 (fun H locs hP hS => ?_)
        have hP : va_P D vwCl (rW cI cZ a ((R_rouse_it n S set k1).2.1, up2 ((R_rouse_it n S set k1).2.2) 5 k1 2)) H := hP
        refine lv_aload_n hx hb dX2_rouse_46 rfl (lv_at hl 1 rfl) ?_
        refine r_get (S := ((R_rouse_it n S set k1).2.1, up2 ((R_rouse_it n S set k1).2.2) 5 k1 2)) (v := .ref (a 8)) hx hb hts hin hown hK hP 8 (by decide) (by decide +kernel) rfl rfl dX2_rouse_47 ?_
        refine lv_iload_n hx hb dX2_rouse_50 rfl (lv_at hl 3 rfl) ?_
        refine lv_iconst (v := 0) hx hb dX2_rouse_51 (by decide) ?_
        refine r_ast ha hx hb hK hP hS 8 (by decide) (j := k1) (by omega) dX2_rouse_52 (fun H locs hP hS => ?_)
        have hP : va_P D vwCl (rW cI cZ a ((R_rouse_it n S set k1).2.1, up2 (up2 ((R_rouse_it n S set k1).2.2) 5 k1 2) 8 k1 0)) H := hP
        refine lv_iinc (v := nI (k1 + 1)) (lv' := [(3, .int (nI (k1 + 1))), (2, .int (((R_rouse_it n S set k1).1) + 1)), (0, .ref (a 0)), (1, .int set)]) hx hb dX2_rouse_53 hl (k := 3) rfl (nI_1 _) (by decide) rfl (fun ls hl => ?_)
        refine lv_goto (tgt := 4) hx hb dX2_rouse_56 (by decide) ?_
        have hE : R_rouse_it n S set (k1 + 1) = (((R_rouse_it n S set k1).1) + 1, ((R_rouse_it n S set k1).2.1, up2 (up2 ((R_rouse_it n S set k1).2.2) 5 k1 2) 8 k1 0)) := by show R_rouse_b set k1 ((R_rouse_it n S set k1).1) ((R_rouse_it n S set k1).2) = _; first | (simp only [R_rouse_b, if_pos c3, if_neg c4]; done) | (simp only [R_rouse_b, if_pos c3, if_neg c4]; rfl)
        exact ih (k1 + 1) H locs ls (by omega) ⟨by omega, by rw [hE]; exact hP, hS, by rw [hE]; exact lv_sub hl [2, 3, 1, 0] rfl⟩
      · refine lv_iload_n hx hb dX2_rouse_31 rfl (lv_at hl 2 rfl) ?_
        refine lv_goto (tgt := 38) hx hb dX2_rouse_32 (by decide) ?_
        refine lv_istore_n (lv' := [(2, .int ((R_rouse_it n S set k1).1)), (0, .ref (a 0)), (1, .int set), (3, .int (nI k1))]) hx hb dX2_rouse_38 rfl hl (by decide) rfl (fun ls hl => ?_)
        refine lv_aload_n hx hb dX2_rouse_39 rfl (lv_at hl 1 rfl) ?_
        refine r_get (S := (R_rouse_it n S set k1).2) (v := .ref (a 5)) hx hb hts hin hown hK hP 5 (by decide) (by decide +kernel) rfl rfl dX2_rouse_40 ?_
        refine lv_iload_n hx hb dX2_rouse_43 rfl (lv_at hl 3 rfl) ?_
        refine lv_iconst (v := 2) hx hb dX2_rouse_44 (by decide) ?_
        refine r_ast ha hx hb hK hP hS 5 (by decide) (j := k1) (by omega) dX2_rouse_45 (fun H locs hP hS => ?_)
        have hP : va_P D vwCl (rW cI cZ a ((R_rouse_it n S set k1).2.1, up2 ((R_rouse_it n S set k1).2.2) 5 k1 2)) H := hP
        refine lv_aload_n hx hb dX2_rouse_46 rfl (lv_at hl 1 rfl) ?_
        refine r_get (S := ((R_rouse_it n S set k1).2.1, up2 ((R_rouse_it n S set k1).2.2) 5 k1 2)) (v := .ref (a 8)) hx hb hts hin hown hK hP 8 (by decide) (by decide +kernel) rfl rfl dX2_rouse_47 ?_
        refine lv_iload_n hx hb dX2_rouse_50 rfl (lv_at hl 3 rfl) ?_
        refine lv_iconst (v := 0) hx hb dX2_rouse_51 (by decide) ?_
        refine r_ast ha hx hb hK hP hS 8 (by decide) (j := k1) (by omega) dX2_rouse_52 (fun H locs hP hS => ?_)
        have hP : va_P D vwCl (rW cI cZ a ((R_rouse_it n S set k1).2.1, up2 (up2 ((R_rouse_it n S set k1).2.2) 5 k1 2) 8 k1 0)) H := hP
        refine lv_iinc (v := nI (k1 + 1)) (lv' := [(3, .int (nI (k1 + 1))), (2, .int ((R_rouse_it n S set k1).1)), (0, .ref (a 0)), (1, .int set)]) hx hb dX2_rouse_53 hl (k := 3) rfl (nI_1 _) (by decide) rfl (fun ls hl => ?_)
        refine lv_goto (tgt := 4) hx hb dX2_rouse_56 (by decide) ?_
        have hE : R_rouse_it n S set (k1 + 1) = ((R_rouse_it n S set k1).1, ((R_rouse_it n S set k1).2.1, up2 (up2 ((R_rouse_it n S set k1).2.2) 5 k1 2) 8 k1 0)) := by show R_rouse_b set k1 ((R_rouse_it n S set k1).1) ((R_rouse_it n S set k1).2) = _; first | (simp only [R_rouse_b, if_pos c3, if_pos c4]; done) | (simp only [R_rouse_b, if_pos c3, if_pos c4]; rfl)
        exact ih (k1 + 1) H locs ls (by omega) ⟨by omega, by rw [hE]; exact hP, hS, by rw [hE]; exact lv_sub hl [2, 3, 1, 0] rfl⟩

def R_become (n : Nat) (S : rSt) (d : Nat) (to : Int32) : rSt :=
  (upd (S.1) 23 ((S.1 23) + 1), up2 (S.2) 5 d to)
theorem R_become_sm (n : Nat) (S : rSt) (d : Nat) (to : Int32) : rSm S ((R_become n S d to)) := by
  unfold R_become
  repeat' split
  all_goals exact ⟨rfl, rfl⟩
theorem R_become_ok (n : Nat) (S : rSt) (d : Nat) (to : Int32) (hok : rOk n S) : rOk n ((R_become n S d to)) := rOk_of (R_become_sm n S d to) hok
set_option maxHeartbeats 4000000 in
set_option maxRecDepth 100000 in
theorem c_X2_become (l : Launch) (D : va_G) (cI cZ : ClassId) (a : Nat → Nat) (ha : (rL a).Nodup) (n : Nat) (S : rSt) (hok : rOk n S) (d : Nat) (hd : d < n) (to : Int32) : mV l yX2_become wsX2_become (rmz 0 0) D (rT cI cZ) (rL a) [.ref (a 0), .int (nI d), .int to] (rW cI cZ a S) (rW cI cZ a (R_become n S d to)) := by
  intro sz
  refine Met.ofW (cc := cX2_become) (maxL := 3) (ret := none) (by decide) rfl ?_
  intro p e s m args below meth c s₁ B hml hv
  obtain ⟨rfl, hsz, hP, hK⟩ := hv
  have hx := B.exec
  have hb := B.bytes
  have hr := B.returns
  have hts := atoms_spec (ws := wsX2_become) B.pre
  have hin : ∀ w ∈ wsX20, w ∈ wsX2_become := fun w h => List.mem_cons_of_mem _ (List.mem_append_right _ h)
  have hown : s.vm.findClass RX2 = some m.cls := findClass_of_methodNamed B.named
  have hlocks := B.notSynchronized
  have hn12 : n ≤ 12 := hok.2.1
  subst hsz
  have hS : va_S (wA (rL a) s.heap.size) s.heap s.heap [] := va_S.rf
  have hl := lv_entry ([.ref (a 0), .int (nI d), .int to]) (n := 3) (Nat.le_of_ble_eq_true rfl)
  rw [lg_entry_eq]
  generalize (lg_sl ([.ref (a 0), .int (nI d), .int to]) ++ List.replicate (3 - (lg_sl ([.ref (a 0), .int (nI d), .int to])).length) Slot.unset).toArray = ls at hl ⊢
  have hl : lv_has ls 3 [(0, .ref (a 0)), (1, .int (nI d)), (2, .int to)] := hl
  refine lv_aload_n hx hb dX2_become_0 rfl (lv_at hl 0 rfl) ?_
  refine r_get (S := S) (v := .ref (a 5)) hx hb hts hin hown hK hP 5 (by decide) (by decide +kernel) rfl rfl dX2_become_1 ?_
  refine lv_iload_n hx hb dX2_become_4 rfl (lv_at hl 1 rfl) ?_
  refine lv_iload_n hx hb dX2_become_5 rfl (lv_at hl 2 rfl) ?_
  refine r_ast ha hx hb hK hP hS 5 (by decide) (j := d) (by omega) dX2_become_6 (fun H locs hP hS => ?_)
  have hP : va_P D vwCl (rW cI cZ a (S.1, up2 (S.2) 5 d to)) H := hP
  refine lv_aload_n hx hb dX2_become_7 rfl (lv_at hl 0 rfl) ?_
  refine lv_dup hx hb dX2_become_8 rfl ?_
  refine r_get (S := (S.1, up2 (S.2) 5 d to)) (v := .int (S.1 23)) hx hb hts hin hown hK hP 23 (by decide) (by decide +kernel) rfl rfl dX2_become_9 ?_
  refine lv_iconst (v := 1) hx hb dX2_become_12 (by decide) ?_
  refine lv_iadd hx hb dX2_become_13 ?_
  refine r_put ha hx hb hts hin hown hK hP hS 23 (by decide) (by decide +kernel) ⟨rfl, rfl, rfl⟩ dX2_become_14 (fun H locs hP hS => ?_)
  have hP : va_P D vwCl (rW cI cZ a (upd (S.1) 23 ((S.1 23) + 1), up2 (S.2) 5 d to)) H := hP
  have hE : R_become n S d to = (upd (S.1) 23 ((S.1 23) + 1), up2 (S.2) 5 d to) := by first | (simp only [R_become]; done) | (simp only [R_become]; rfl)
  exact W.vret hx hb hr (fun tt ht hW => ⟨⟨(), rfl, trivial, by rw [ht, hE]; exact hP, va_K.moved hW.alike hK⟩, hS.F ht⟩) hS.2.2 dX2_become_17

def R_giveUp (n : Nat) (S : rSt) (why : Int32) (d : Int32) : rSt :=
  (upd (upd (upd (upd (upd (S.1) 12 4) 13 (-1)) 15 d) 16 why) 22 ((S.1 22) + 1), S.2)
theorem R_giveUp_sm (n : Nat) (S : rSt) (why : Int32) (d : Int32) : rSm S ((R_giveUp n S why d)) := by
  unfold R_giveUp
  repeat' split
  all_goals exact ⟨rfl, rfl⟩
theorem R_giveUp_ok (n : Nat) (S : rSt) (why : Int32) (d : Int32) (hok : rOk n S) : rOk n ((R_giveUp n S why d)) := rOk_of (R_giveUp_sm n S why d) hok
set_option maxHeartbeats 4000000 in
set_option maxRecDepth 100000 in
theorem c_X2_giveUp (l : Launch) (D : va_G) (cI cZ : ClassId) (a : Nat → Nat) (ha : (rL a).Nodup) (n : Nat) (S : rSt) (hok : rOk n S) (why : Int32) (d : Int32) : mV l yX2_giveUp wsX2_giveUp (rmz 0 0) D (rT cI cZ) (rL a) [.ref (a 0), .int why, .int d] (rW cI cZ a S) (rW cI cZ a (R_giveUp n S why d)) := by
  intro sz
  refine Met.ofW (cc := cX2_giveUp) (maxL := 3) (ret := none) (by decide) rfl ?_
  intro p e s m args below meth c s₁ B hml hv
  obtain ⟨rfl, hsz, hP, hK⟩ := hv
  have hx := B.exec
  have hb := B.bytes
  have hr := B.returns
  have hts := atoms_spec (ws := wsX2_giveUp) B.pre
  have hin : ∀ w ∈ wsX20, w ∈ wsX2_giveUp := fun w h => List.mem_cons_of_mem _ (List.mem_append_right _ h)
  have hown : s.vm.findClass RX2 = some m.cls := findClass_of_methodNamed B.named
  have hlocks := B.notSynchronized
  have hn12 : n ≤ 12 := hok.2.1
  subst hsz
  have hS : va_S (wA (rL a) s.heap.size) s.heap s.heap [] := va_S.rf
  have hl := lv_entry ([.ref (a 0), .int why, .int d]) (n := 3) (Nat.le_of_ble_eq_true rfl)
  rw [lg_entry_eq]
  generalize (lg_sl ([.ref (a 0), .int why, .int d]) ++ List.replicate (3 - (lg_sl ([.ref (a 0), .int why, .int d])).length) Slot.unset).toArray = ls at hl ⊢
  have hl : lv_has ls 3 [(0, .ref (a 0)), (1, .int why), (2, .int d)] := hl
  refine lv_aload_n hx hb dX2_giveUp_0 rfl (lv_at hl 0 rfl) ?_
  refine lv_iconst (v := 4) hx hb dX2_giveUp_1 (by decide) ?_
  refine r_put ha hx hb hts hin hown hK hP hS 12 (by decide) (by decide +kernel) ⟨rfl, rfl, rfl⟩ dX2_giveUp_2 (fun H locs hP hS => ?_)
  have hP : va_P D vwCl (rW cI cZ a (upd (S.1) 12 4, S.2)) H := hP
  refine lv_aload_n hx hb dX2_giveUp_5 rfl (lv_at hl 0 rfl) ?_
  refine lv_iconst (v := (-1)) hx hb dX2_giveUp_6 (by decide) ?_
  refine r_put ha hx hb hts hin hown hK hP hS 13 (by decide) (by decide +kernel) ⟨rfl, rfl, rfl⟩ dX2_giveUp_7 (fun H locs hP hS => ?_)
  have hP : va_P D vwCl (rW cI cZ a (upd (upd (S.1) 12 4) 13 (-1), S.2)) H := hP
  refine lv_aload_n hx hb dX2_giveUp_10 rfl (lv_at hl 0 rfl) ?_
  refine lv_iload_n hx hb dX2_giveUp_11 rfl (lv_at hl 2 rfl) ?_
  refine r_put ha hx hb hts hin hown hK hP hS 15 (by decide) (by decide +kernel) ⟨rfl, rfl, rfl⟩ dX2_giveUp_12 (fun H locs hP hS => ?_)
  have hP : va_P D vwCl (rW cI cZ a (upd (upd (upd (S.1) 12 4) 13 (-1)) 15 d, S.2)) H := hP
  refine lv_aload_n hx hb dX2_giveUp_15 rfl (lv_at hl 0 rfl) ?_
  refine lv_iload_n hx hb dX2_giveUp_16 rfl (lv_at hl 1 rfl) ?_
  refine r_put ha hx hb hts hin hown hK hP hS 16 (by decide) (by decide +kernel) ⟨rfl, rfl, rfl⟩ dX2_giveUp_17 (fun H locs hP hS => ?_)
  have hP : va_P D vwCl (rW cI cZ a (upd (upd (upd (upd (S.1) 12 4) 13 (-1)) 15 d) 16 why, S.2)) H := hP
  refine lv_aload_n hx hb dX2_giveUp_20 rfl (lv_at hl 0 rfl) ?_
  refine lv_dup hx hb dX2_giveUp_21 rfl ?_
  refine r_get (S := (upd (upd (upd (upd (S.1) 12 4) 13 (-1)) 15 d) 16 why, S.2)) (v := .int (S.1 22)) hx hb hts hin hown hK hP 22 (by decide) (by decide +kernel) rfl rfl dX2_giveUp_22 ?_
  refine lv_iconst (v := 1) hx hb dX2_giveUp_25 (by decide) ?_
  refine lv_iadd hx hb dX2_giveUp_26 ?_
  refine r_put ha hx hb hts hin hown hK hP hS 22 (by decide) (by decide +kernel) ⟨rfl, rfl, rfl⟩ dX2_giveUp_27 (fun H locs hP hS => ?_)
  have hP : va_P D vwCl (rW cI cZ a (upd (upd (upd (upd (upd (S.1) 12 4) 13 (-1)) 15 d) 16 why) 22 ((S.1 22) + 1), S.2)) H := hP
  have hE : R_giveUp n S why d = (upd (upd (upd (upd (upd (S.1) 12 4) 13 (-1)) 15 d) 16 why) 22 ((S.1 22) + 1), S.2) := by first | (simp only [R_giveUp]; done) | (simp only [R_giveUp]; rfl)
  exact W.vret hx hb hr (fun tt ht hW => ⟨⟨(), rfl, trivial, by rw [ht, hE]; exact hP, va_K.moved hW.alike hK⟩, hS.F ht⟩) hS.2.2 dX2_giveUp_30

def R_watch (n : Nat) (S : rSt) (ticks : Int32) : Int32 × rSt :=
  if ticks < 0 then (0, S)
  else if ticks ≤ 100 then (1, (upd (upd (S.1) 18 ticks) 19 0, S.2))
  else (0, S)
theorem R_watch_sm (n : Nat) (S : rSt) (ticks : Int32) : rSm S ((R_watch n S ticks).2) := by
  unfold R_watch
  repeat' split
  all_goals exact ⟨rfl, rfl⟩
theorem R_watch_ok (n : Nat) (S : rSt) (ticks : Int32) (hok : rOk n S) : rOk n ((R_watch n S ticks).2) := rOk_of (R_watch_sm n S ticks) hok
set_option maxHeartbeats 4000000 in
set_option maxRecDepth 100000 in
theorem c_X2_watch (l : Launch) (D : va_G) (cI cZ : ClassId) (a : Nat → Nat) (ha : (rL a).Nodup) (n : Nat) (S : rSt) (hok : rOk n S) (ticks : Int32) : mI l yX2_watch wsX2_watch (rmz 0 0) D (rT cI cZ) (rL a) [.ref (a 0), .int ticks] (rW cI cZ a S) (R_watch n S ticks).1 (rW cI cZ a (R_watch n S ticks).2) := by
  intro sz
  refine Met.ofW (cc := cX2_watch) (maxL := 2) (ret := (some .boolean)) (by decide) rfl ?_
  intro p e s m args below meth c s₁ B hml hv
  obtain ⟨rfl, hsz, hP, hK⟩ := hv
  have hx := B.exec
  have hb := B.bytes
  have hr := B.returns
  have hts := atoms_spec (ws := wsX2_watch) B.pre
  have hin : ∀ w ∈ wsX20, w ∈ wsX2_watch := fun w h => List.mem_cons_of_mem _ (List.mem_append_right _ h)
  have hown : s.vm.findClass RX2 = some m.cls := findClass_of_methodNamed B.named
  have hlocks := B.notSynchronized
  have hn12 : n ≤ 12 := hok.2.1
  subst hsz
  have hS : va_S (wA (rL a) s.heap.size) s.heap s.heap [] := va_S.rf
  have hl := lv_entry ([.ref (a 0), .int ticks]) (n := 2) (Nat.le_of_ble_eq_true rfl)
  rw [lg_entry_eq]
  generalize (lg_sl ([.ref (a 0), .int ticks]) ++ List.replicate (2 - (lg_sl ([.ref (a 0), .int ticks])).length) Slot.unset).toArray = ls at hl ⊢
  have hl : lv_has ls 2 [(0, .ref (a 0)), (1, .int ticks)] := hl
  refine lv_iload_n hx hb dX2_watch_0 rfl (lv_at hl 1 rfl) ?_
  refine lv_if_lt (tgt := 10) hx hb dX2_watch_1 (by decide) (fun c1 => ?_) (fun c1 => ?_)
  · refine lv_iconst (v := 0) hx hb dX2_watch_10 (by decide) ?_
    have hE : R_watch n S ticks = (0, S) := by first | (simp only [R_watch, if_pos c1]; done) | (simp only [R_watch, if_pos c1]; rfl)
    exact W.zret (v := 0) hx hb hr rfl (fun tt ht hW => ⟨⟨0, (), rfl, by rw [hE], by rw [ht, hE]; exact hP, va_K.moved hW.alike hK⟩, hS.F ht⟩) hS.2.2 dX2_watch_11
  · refine lv_iload_n hx hb dX2_watch_4 rfl (lv_at hl 1 rfl) ?_
    refine lv_bipush (v := 100) hx hb dX2_watch_5 (by decide) ?_
    refine lv_icmp_le (tgt := 12) hx hb dX2_watch_7 (by decide) (fun c2 => ?_) (fun c2 => ?_)
    · refine lv_aload_n hx hb dX2_watch_12 rfl (lv_at hl 0 rfl) ?_
      refine lv_iload_n hx hb dX2_watch_13 rfl (lv_at hl 1 rfl) ?_
      refine r_put ha hx hb hts hin hown hK hP hS 18 (by decide) (by decide +kernel) ⟨rfl, rfl, rfl⟩ dX2_watch_14 (fun H locs hP hS => ?_)
      have hP : va_P D vwCl (rW cI cZ a (upd (S.1) 18 ticks, S.2)) H := hP
      refine lv_aload_n hx hb dX2_watch_17 rfl (lv_at hl 0 rfl) ?_
      refine lv_iconst (v := 0) hx hb dX2_watch_18 (by decide) ?_
      refine r_put ha hx hb hts hin hown hK hP hS 19 (by decide) (by decide +kernel) ⟨rfl, rfl, rfl⟩ dX2_watch_19 (fun H locs hP hS => ?_)
      have hP : va_P D vwCl (rW cI cZ a (upd (upd (S.1) 18 ticks) 19 0, S.2)) H := hP
      refine lv_iconst (v := 1) hx hb dX2_watch_22 (by decide) ?_
      have hE : R_watch n S ticks = (1, (upd (upd (S.1) 18 ticks) 19 0, S.2)) := by first | (simp only [R_watch, if_neg c1, if_pos c2]; done) | (simp only [R_watch, if_neg c1, if_pos c2]; rfl)
      exact W.zret (v := 1) hx hb hr rfl (fun tt ht hW => ⟨⟨1, (), rfl, by rw [hE], by rw [ht, hE]; exact hP, va_K.moved hW.alike hK⟩, hS.F ht⟩) hS.2.2 dX2_watch_23
    · refine lv_iconst (v := 0) hx hb dX2_watch_10 (by decide) ?_
      have hE : R_watch n S ticks = (0, S) := by first | (simp only [R_watch, if_neg c1, if_neg c2]; done) | (simp only [R_watch, if_neg c1, if_neg c2]; rfl)
      exact W.zret (v := 0) hx hb hr rfl (fun tt ht hW => ⟨⟨0, (), rfl, by rw [hE], by rw [ht, hE]; exact hP, va_K.moved hW.alike hK⟩, hS.F ht⟩) hS.2.2 dX2_watch_11

def R_kick (n : Nat) (S : rSt) : Int32 × rSt :=
  (S.1 19, (upd (S.1) 19 0, S.2))
theorem R_kick_sm (n : Nat) (S : rSt) : rSm S ((R_kick n S).2) := by
  unfold R_kick
  repeat' split
  all_goals exact ⟨rfl, rfl⟩
theorem R_kick_ok (n : Nat) (S : rSt) (hok : rOk n S) : rOk n ((R_kick n S).2) := rOk_of (R_kick_sm n S) hok
set_option maxHeartbeats 4000000 in
set_option maxRecDepth 100000 in
theorem c_X2_kick (l : Launch) (D : va_G) (cI cZ : ClassId) (a : Nat → Nat) (ha : (rL a).Nodup) (n : Nat) (S : rSt) (hok : rOk n S) : mI l yX2_kick wsX2_kick (rmz 0 0) D (rT cI cZ) (rL a) [.ref (a 0)] (rW cI cZ a S) (R_kick n S).1 (rW cI cZ a (R_kick n S).2) := by
  intro sz
  refine Met.ofW (cc := cX2_kick) (maxL := 2) (ret := (some .int)) (by decide) rfl ?_
  intro p e s m args below meth c s₁ B hml hv
  obtain ⟨rfl, hsz, hP, hK⟩ := hv
  have hx := B.exec
  have hb := B.bytes
  have hr := B.returns
  have hts := atoms_spec (ws := wsX2_kick) B.pre
  have hin : ∀ w ∈ wsX20, w ∈ wsX2_kick := fun w h => List.mem_cons_of_mem _ (List.mem_append_right _ h)
  have hown : s.vm.findClass RX2 = some m.cls := findClass_of_methodNamed B.named
  have hlocks := B.notSynchronized
  have hn12 : n ≤ 12 := hok.2.1
  subst hsz
  have hS : va_S (wA (rL a) s.heap.size) s.heap s.heap [] := va_S.rf
  have hl := lv_entry ([.ref (a 0)]) (n := 2) (Nat.le_of_ble_eq_true rfl)
  rw [lg_entry_eq]
  generalize (lg_sl ([.ref (a 0)]) ++ List.replicate (2 - (lg_sl ([.ref (a 0)])).length) Slot.unset).toArray = ls at hl ⊢
  have hl : lv_has ls 2 [(0, .ref (a 0))] := hl
  refine lv_aload_n hx hb dX2_kick_0 rfl (lv_at hl 0 rfl) ?_
  refine r_get (S := S) (v := .int (S.1 19)) hx hb hts hin hown hK hP 19 (by decide) (by decide +kernel) rfl rfl dX2_kick_1 ?_
  refine lv_istore_n (lv' := [(1, .int (S.1 19)), (0, .ref (a 0))]) hx hb dX2_kick_4 rfl hl (by decide) rfl (fun ls hl => ?_)
  refine lv_aload_n hx hb dX2_kick_5 rfl (lv_at hl 1 rfl) ?_
  refine lv_iconst (v := 0) hx hb dX2_kick_6 (by decide) ?_
  refine r_put ha hx hb hts hin hown hK hP hS 19 (by decide) (by decide +kernel) ⟨rfl, rfl, rfl⟩ dX2_kick_7 (fun H locs hP hS => ?_)
  have hP : va_P D vwCl (rW cI cZ a (upd (S.1) 19 0, S.2)) H := hP
  refine lv_iload_n hx hb dX2_kick_10 rfl (lv_at hl 0 rfl) ?_
  have hE : R_kick n S = (S.1 19, (upd (S.1) 19 0, S.2)) := by first | (simp only [R_kick]; done) | (simp only [R_kick]; rfl)
  exact W.iret (v := S.1 19) hx hb hr (fun tt ht hW => ⟨⟨S.1 19, (), rfl, by rw [hE], by rw [ht, hE]; exact hP, va_K.moved hW.alike hK⟩, hS.F ht⟩) hS.2.2 dX2_kick_11

def R_phase (n : Nat) (S : rSt) : Int32 :=
  S.1 12
set_option maxHeartbeats 4000000 in
set_option maxRecDepth 100000 in
theorem c_X2_phase (l : Launch) (D : va_G) (cI cZ : ClassId) (a : Nat → Nat) (ha : (rL a).Nodup) (n : Nat) (S : rSt) (hok : rOk n S) : mR l yX2_phase wsX2_phase (rmz 0 0) D (rT cI cZ) [.ref (a 0)] (rW cI cZ a S) (R_phase n S) := by
  refine Met.ofW (cc := cX2_phase) (maxL := 1) (ret := (some .int)) (by decide) rfl ?_
  intro p e s m args below meth c s₁ B hml hv
  obtain ⟨rfl, hP, hK⟩ := hv
  have hx := B.exec
  have hb := B.bytes
  have hr := B.returns
  have hts := atoms_spec (ws := wsX2_phase) B.pre
  have hin : ∀ w ∈ wsX20, w ∈ wsX2_phase := fun w h => List.mem_cons_of_mem _ (List.mem_append_right _ h)
  have hown : s.vm.findClass RX2 = some m.cls := findClass_of_methodNamed B.named
  have hlocks := B.notSynchronized
  have hn12 : n ≤ 12 := hok.2.1
  have hl := lv_entry ([.ref (a 0)]) (n := 1) (Nat.le_of_ble_eq_true rfl)
  rw [lg_entry_eq]
  generalize (lg_sl ([.ref (a 0)]) ++ List.replicate (1 - (lg_sl ([.ref (a 0)])).length) Slot.unset).toArray = ls at hl ⊢
  have hl : lv_has ls 1 [(0, .ref (a 0))] := hl
  refine lv_aload_n hx hb dX2_phase_0 rfl (lv_at hl 0 rfl) ?_
  refine r_get (S := S) (v := .int (S.1 12)) hx hb hts hin hown hK hP 12 (by decide) (by decide +kernel) rfl rfl dX2_phase_1 ?_
  have hE : R_phase n S = S.1 12 := by first | (simp only [R_phase]; done) | (simp only [R_phase]; rfl)
  exact W.iret (v := S.1 12) hx hb hr (fun tt ht hW => ⟨S.1 12, rfl, hE.symm, ht⟩) (fun q hq => by cases hq) dX2_phase_4

def R_due (n : Nat) (S : rSt) : Int32 :=
  S.1 13
set_option maxHeartbeats 4000000 in
set_option maxRecDepth 100000 in
theorem c_X2_due (l : Launch) (D : va_G) (cI cZ : ClassId) (a : Nat → Nat) (ha : (rL a).Nodup) (n : Nat) (S : rSt) (hok : rOk n S) : mR l yX2_due wsX2_due (rmz 0 0) D (rT cI cZ) [.ref (a 0)] (rW cI cZ a S) (R_due n S) := by
  refine Met.ofW (cc := cX2_due) (maxL := 1) (ret := (some .int)) (by decide) rfl ?_
  intro p e s m args below meth c s₁ B hml hv
  obtain ⟨rfl, hP, hK⟩ := hv
  have hx := B.exec
  have hb := B.bytes
  have hr := B.returns
  have hts := atoms_spec (ws := wsX2_due) B.pre
  have hin : ∀ w ∈ wsX20, w ∈ wsX2_due := fun w h => List.mem_cons_of_mem _ (List.mem_append_right _ h)
  have hown : s.vm.findClass RX2 = some m.cls := findClass_of_methodNamed B.named
  have hlocks := B.notSynchronized
  have hn12 : n ≤ 12 := hok.2.1
  have hl := lv_entry ([.ref (a 0)]) (n := 1) (Nat.le_of_ble_eq_true rfl)
  rw [lg_entry_eq]
  generalize (lg_sl ([.ref (a 0)]) ++ List.replicate (1 - (lg_sl ([.ref (a 0)])).length) Slot.unset).toArray = ls at hl ⊢
  have hl : lv_has ls 1 [(0, .ref (a 0))] := hl
  refine lv_aload_n hx hb dX2_due_0 rfl (lv_at hl 0 rfl) ?_
  refine r_get (S := S) (v := .int (S.1 13)) hx hb hts hin hown hK hP 13 (by decide) (by decide +kernel) rfl rfl dX2_due_1 ?_
  have hE : R_due n S = S.1 13 := by first | (simp only [R_due]; done) | (simp only [R_due]; rfl)
  exact W.iret (v := S.1 13) hx hb hr (fun tt ht hW => ⟨S.1 13, rfl, hE.symm, ht⟩) (fun q hq => by cases hq) dX2_due_4

def R_left (n : Nat) (S : rSt) : Int32 :=
  if 0 ≤ S.1 13 then S.1 14
  else 0
set_option maxHeartbeats 4000000 in
set_option maxRecDepth 100000 in
theorem c_X2_left (l : Launch) (D : va_G) (cI cZ : ClassId) (a : Nat → Nat) (ha : (rL a).Nodup) (n : Nat) (S : rSt) (hok : rOk n S) : mR l yX2_left wsX2_left (rmz 0 0) D (rT cI cZ) [.ref (a 0)] (rW cI cZ a S) (R_left n S) := by
  refine Met.ofW (cc := cX2_left) (maxL := 1) (ret := (some .int)) (by decide) rfl ?_
  intro p e s m args below meth c s₁ B hml hv
  obtain ⟨rfl, hP, hK⟩ := hv
  have hx := B.exec
  have hb := B.bytes
  have hr := B.returns
  have hts := atoms_spec (ws := wsX2_left) B.pre
  have hin : ∀ w ∈ wsX20, w ∈ wsX2_left := fun w h => List.mem_cons_of_mem _ (List.mem_append_right _ h)
  have hown : s.vm.findClass RX2 = some m.cls := findClass_of_methodNamed B.named
  have hlocks := B.notSynchronized
  have hn12 : n ≤ 12 := hok.2.1
  have hl := lv_entry ([.ref (a 0)]) (n := 1) (Nat.le_of_ble_eq_true rfl)
  rw [lg_entry_eq]
  generalize (lg_sl ([.ref (a 0)]) ++ List.replicate (1 - (lg_sl ([.ref (a 0)])).length) Slot.unset).toArray = ls at hl ⊢
  have hl : lv_has ls 1 [(0, .ref (a 0))] := hl
  refine lv_aload_n hx hb dX2_left_0 rfl (lv_at hl 0 rfl) ?_
  refine r_get (S := S) (v := .int (S.1 13)) hx hb hts hin hown hK hP 13 (by decide) (by decide +kernel) rfl rfl dX2_left_1 ?_
  refine lv_if_ge (tgt := 11) hx hb dX2_left_4 (by decide) (fun c1 => ?_) (fun c1 => ?_)
  · refine lv_aload_n hx hb dX2_left_11 rfl (lv_at hl 0 rfl) ?_
    refine r_get (S := S) (v := .int (S.1 14)) hx hb hts hin hown hK hP 14 (by decide) (by decide +kernel) rfl rfl dX2_left_12 ?_
    have hE : R_left n S = S.1 14 := by first | (simp only [R_left, if_pos c1]; done) | (simp only [R_left, if_pos c1]; rfl)
    exact W.iret (v := S.1 14) hx hb hr (fun tt ht hW => ⟨S.1 14, rfl, hE.symm, ht⟩) (fun q hq => by cases hq) dX2_left_15
  · refine lv_iconst (v := 0) hx hb dX2_left_7 (by decide) ?_
    refine lv_goto (tgt := 15) hx hb dX2_left_8 (by decide) ?_
    have hE : R_left n S = 0 := by first | (simp only [R_left, if_neg c1]; done) | (simp only [R_left, if_neg c1]; rfl)
    exact W.iret (v := 0) hx hb hr (fun tt ht hW => ⟨0, rfl, hE.symm, ht⟩) (fun q hq => by cases hq) dX2_left_15

def R_named (n : Nat) (S : rSt) : Int32 :=
  S.1 15
set_option maxHeartbeats 4000000 in
set_option maxRecDepth 100000 in
theorem c_X2_named (l : Launch) (D : va_G) (cI cZ : ClassId) (a : Nat → Nat) (ha : (rL a).Nodup) (n : Nat) (S : rSt) (hok : rOk n S) : mR l yX2_named wsX2_named (rmz 0 0) D (rT cI cZ) [.ref (a 0)] (rW cI cZ a S) (R_named n S) := by
  refine Met.ofW (cc := cX2_named) (maxL := 1) (ret := (some .int)) (by decide) rfl ?_
  intro p e s m args below meth c s₁ B hml hv
  obtain ⟨rfl, hP, hK⟩ := hv
  have hx := B.exec
  have hb := B.bytes
  have hr := B.returns
  have hts := atoms_spec (ws := wsX2_named) B.pre
  have hin : ∀ w ∈ wsX20, w ∈ wsX2_named := fun w h => List.mem_cons_of_mem _ (List.mem_append_right _ h)
  have hown : s.vm.findClass RX2 = some m.cls := findClass_of_methodNamed B.named
  have hlocks := B.notSynchronized
  have hn12 : n ≤ 12 := hok.2.1
  have hl := lv_entry ([.ref (a 0)]) (n := 1) (Nat.le_of_ble_eq_true rfl)
  rw [lg_entry_eq]
  generalize (lg_sl ([.ref (a 0)]) ++ List.replicate (1 - (lg_sl ([.ref (a 0)])).length) Slot.unset).toArray = ls at hl ⊢
  have hl : lv_has ls 1 [(0, .ref (a 0))] := hl
  refine lv_aload_n hx hb dX2_named_0 rfl (lv_at hl 0 rfl) ?_
  refine r_get (S := S) (v := .int (S.1 15)) hx hb hts hin hown hK hP 15 (by decide) (by decide +kernel) rfl rfl dX2_named_1 ?_
  have hE : R_named n S = S.1 15 := by first | (simp only [R_named]; done) | (simp only [R_named]; rfl)
  exact W.iret (v := S.1 15) hx hb hr (fun tt ht hW => ⟨S.1 15, rfl, hE.symm, ht⟩) (fun q hq => by cases hq) dX2_named_4

def R_state (n : Nat) (S : rSt) (d : Int32) : Int32 :=
  if inR n d = true then S.2 5 (d.toNatClampNeg)
  else (-2)
set_option maxHeartbeats 4000000 in
set_option maxRecDepth 100000 in
theorem c_X2_state (l : Launch) (D : va_G) (cI cZ : ClassId) (a : Nat → Nat) (ha : (rL a).Nodup) (n : Nat) (S : rSt) (hok : rOk n S) (d : Int32) : mR l yX2_state wsX2_state (rmz 1 21) D (rT cI cZ) [.ref (a 0), .int d] (rW cI cZ a S) (R_state n S d) := by
  refine Met.ofW (cc := cX2_state) (maxL := 2) (ret := (some .int)) (by decide) rfl ?_
  intro p e s m args below meth c s₁ B hml hv
  obtain ⟨rfl, hP, hK⟩ := hv
  have hx := B.exec
  have hb := B.bytes
  have hr := B.returns
  have hts := atoms_spec (ws := wsX2_state) B.pre
  have hin : ∀ w ∈ wsX20, w ∈ wsX2_state := fun w h => List.mem_cons_of_mem _ (List.mem_append_right _ h)
  have hown : s.vm.findClass RX2 = some m.cls := findClass_of_methodNamed B.named
  have hlocks := B.notSynchronized
  have hn12 : n ≤ 12 := hok.2.1
  have hl := lv_entry ([.ref (a 0), .int d]) (n := 2) (Nat.le_of_ble_eq_true rfl)
  rw [lg_entry_eq]
  generalize (lg_sl ([.ref (a 0), .int d]) ++ List.replicate (2 - (lg_sl ([.ref (a 0), .int d])).length) Slot.unset).toArray = ls at hl ⊢
  have hl : lv_has ls 2 [(0, .ref (a 0)), (1, .int d)] := hl
  refine lv_aload_n hx hb dX2_state_0 rfl (lv_at hl 0 rfl) ?_
  refine lv_iload_n hx hb dX2_state_1 rfl (lv_at hl 1 rfl) ?_
  refine m_callR (As := [.int d]) (rest := []) ⟨hx, hb, hml, hown, hts⟩ (c_X2_none l D cI cZ a ha n S hok d) (cwV 1 hts gX2_state_X2_none rfl rfl rfl (by decide +kernel) ⟨Nat.le_of_ble_eq_true rfl, Nat.le_of_ble_eq_true rfl⟩) hK hP (va_recv hK hP (ci := 3) (q0 := 0) rfl rfl) rfl hl.1 rfl (Nat.le_of_ble_eq_true rfl) dX2_state_2 ⟨Nat.zero_le _, Nat.zero_le _⟩ ?_
  by_cases hd : inR n d = true
  · obtain ⟨j, hj, rfl⟩ := inR_spec hn12 hd
    have hjc : (nI j).toNatClampNeg = j := nI_clamp (by omega)
    have hN : R_none n S (nI j) = 0 := if_pos hd
    rw [hN]
    refine lv_if_eq (tgt := 13) hx hb dX2_state_5 (by decide) (fun c1 => ?_) (fun c1 => ?_)
    · refine lv_aload_n hx hb dX2_state_13 rfl (lv_at hl 0 rfl) ?_
      refine r_get (S := S) (v := .ref (a 5)) hx hb hts hin hown hK hP 5 (by decide) (by decide +kernel) rfl rfl dX2_state_14 ?_
      refine lv_iload_n hx hb dX2_state_17 rfl (lv_at hl 1 rfl) ?_
      refine r_ald (S := S) (x := S.2 5 j) hx hb hK hP 5 (by decide) (j := j) (by omega) rfl dX2_state_18 ?_
      have hE : R_state n S (nI j) = S.2 5 j := by first | (simp only [R_state, if_pos hd, hjc]; done) | (simp only [R_state, if_pos hd, hjc]; rfl)
      exact W.iret (v := S.2 5 j) hx hb hr (fun tt ht hW => ⟨S.2 5 j, rfl, hE.symm, ht⟩) (fun q hq => by cases hq) dX2_state_19
    · exact absurd (by decide) c1
  · have hN : R_none n S d = 1 := if_neg hd
    rw [hN]
    refine lv_if_eq (tgt := 13) hx hb dX2_state_5 (by decide) (fun c2 => ?_) (fun c2 => ?_)
    · exact absurd c2 (by decide)
    · refine lv_bipush (v := (-2)) hx hb dX2_state_8 (by decide) ?_
      refine lv_goto (tgt := 19) hx hb dX2_state_10 (by decide) ?_
      have hE : R_state n S d = (-2) := by first | (simp only [R_state, if_neg hd]; done) | (simp only [R_state, if_neg hd]; rfl)
      exact W.iret (v := (-2)) hx hb hr (fun tt ht hW => ⟨(-2), rfl, hE.symm, ht⟩) (fun q hq => by cases hq) dX2_state_19

def R_uses (n : Nat) (S : rSt) (d : Int32) : Int32 :=
  if inR n d = true then S.2 7 (d.toNatClampNeg)
  else (-2)
set_option maxHeartbeats 4000000 in
set_option maxRecDepth 100000 in
theorem c_X2_uses (l : Launch) (D : va_G) (cI cZ : ClassId) (a : Nat → Nat) (ha : (rL a).Nodup) (n : Nat) (S : rSt) (hok : rOk n S) (d : Int32) : mR l yX2_uses wsX2_uses (rmz 1 21) D (rT cI cZ) [.ref (a 0), .int d] (rW cI cZ a S) (R_uses n S d) := by
  refine Met.ofW (cc := cX2_uses) (maxL := 2) (ret := (some .int)) (by decide) rfl ?_
  intro p e s m args below meth c s₁ B hml hv
  obtain ⟨rfl, hP, hK⟩ := hv
  have hx := B.exec
  have hb := B.bytes
  have hr := B.returns
  have hts := atoms_spec (ws := wsX2_uses) B.pre
  have hin : ∀ w ∈ wsX20, w ∈ wsX2_uses := fun w h => List.mem_cons_of_mem _ (List.mem_append_right _ h)
  have hown : s.vm.findClass RX2 = some m.cls := findClass_of_methodNamed B.named
  have hlocks := B.notSynchronized
  have hn12 : n ≤ 12 := hok.2.1
  have hl := lv_entry ([.ref (a 0), .int d]) (n := 2) (Nat.le_of_ble_eq_true rfl)
  rw [lg_entry_eq]
  generalize (lg_sl ([.ref (a 0), .int d]) ++ List.replicate (2 - (lg_sl ([.ref (a 0), .int d])).length) Slot.unset).toArray = ls at hl ⊢
  have hl : lv_has ls 2 [(0, .ref (a 0)), (1, .int d)] := hl
  refine lv_aload_n hx hb dX2_uses_0 rfl (lv_at hl 0 rfl) ?_
  refine lv_iload_n hx hb dX2_uses_1 rfl (lv_at hl 1 rfl) ?_
  refine m_callR (As := [.int d]) (rest := []) ⟨hx, hb, hml, hown, hts⟩ (c_X2_none l D cI cZ a ha n S hok d) (cwV 1 hts gX2_uses_X2_none rfl rfl rfl (by decide +kernel) ⟨Nat.le_of_ble_eq_true rfl, Nat.le_of_ble_eq_true rfl⟩) hK hP (va_recv hK hP (ci := 3) (q0 := 0) rfl rfl) rfl hl.1 rfl (Nat.le_of_ble_eq_true rfl) dX2_uses_2 ⟨Nat.zero_le _, Nat.zero_le _⟩ ?_
  by_cases hd : inR n d = true
  · obtain ⟨j, hj, rfl⟩ := inR_spec hn12 hd
    have hjc : (nI j).toNatClampNeg = j := nI_clamp (by omega)
    have hN : R_none n S (nI j) = 0 := if_pos hd
    rw [hN]
    refine lv_if_eq (tgt := 13) hx hb dX2_uses_5 (by decide) (fun c1 => ?_) (fun c1 => ?_)
    · refine lv_aload_n hx hb dX2_uses_13 rfl (lv_at hl 0 rfl) ?_
      refine r_get (S := S) (v := .ref (a 7)) hx hb hts hin hown hK hP 7 (by decide) (by decide +kernel) rfl rfl dX2_uses_14 ?_
      refine lv_iload_n hx hb dX2_uses_17 rfl (lv_at hl 1 rfl) ?_
      refine r_ald (S := S) (x := S.2 7 j) hx hb hK hP 7 (by decide) (j := j) (by omega) rfl dX2_uses_18 ?_
      have hE : R_uses n S (nI j) = S.2 7 j := by first | (simp only [R_uses, if_pos hd, hjc]; done) | (simp only [R_uses, if_pos hd, hjc]; rfl)
      exact W.iret (v := S.2 7 j) hx hb hr (fun tt ht hW => ⟨S.2 7 j, rfl, hE.symm, ht⟩) (fun q hq => by cases hq) dX2_uses_19
    · exact absurd (by decide) c1
  · have hN : R_none n S d = 1 := if_neg hd
    rw [hN]
    refine lv_if_eq (tgt := 13) hx hb dX2_uses_5 (by decide) (fun c2 => ?_) (fun c2 => ?_)
    · exact absurd c2 (by decide)
    · refine lv_bipush (v := (-2)) hx hb dX2_uses_8 (by decide) ?_
      refine lv_goto (tgt := 19) hx hb dX2_uses_10 (by decide) ?_
      have hE : R_uses n S d = (-2) := by first | (simp only [R_uses, if_neg hd]; done) | (simp only [R_uses, if_neg hd]; rfl)
      exact W.iret (v := (-2)) hx hb hr (fun tt ht hW => ⟨(-2), rfl, hE.symm, ht⟩) (fun q hq => by cases hq) dX2_uses_19

def R_idle (n : Nat) (S : rSt) (d : Int32) : Int32 :=
  if inR n d = true then S.2 8 (d.toNatClampNeg)
  else (-2)
set_option maxHeartbeats 4000000 in
set_option maxRecDepth 100000 in
theorem c_X2_idle (l : Launch) (D : va_G) (cI cZ : ClassId) (a : Nat → Nat) (ha : (rL a).Nodup) (n : Nat) (S : rSt) (hok : rOk n S) (d : Int32) : mR l yX2_idle wsX2_idle (rmz 1 21) D (rT cI cZ) [.ref (a 0), .int d] (rW cI cZ a S) (R_idle n S d) := by
  refine Met.ofW (cc := cX2_idle) (maxL := 2) (ret := (some .int)) (by decide) rfl ?_
  intro p e s m args below meth c s₁ B hml hv
  obtain ⟨rfl, hP, hK⟩ := hv
  have hx := B.exec
  have hb := B.bytes
  have hr := B.returns
  have hts := atoms_spec (ws := wsX2_idle) B.pre
  have hin : ∀ w ∈ wsX20, w ∈ wsX2_idle := fun w h => List.mem_cons_of_mem _ (List.mem_append_right _ h)
  have hown : s.vm.findClass RX2 = some m.cls := findClass_of_methodNamed B.named
  have hlocks := B.notSynchronized
  have hn12 : n ≤ 12 := hok.2.1
  have hl := lv_entry ([.ref (a 0), .int d]) (n := 2) (Nat.le_of_ble_eq_true rfl)
  rw [lg_entry_eq]
  generalize (lg_sl ([.ref (a 0), .int d]) ++ List.replicate (2 - (lg_sl ([.ref (a 0), .int d])).length) Slot.unset).toArray = ls at hl ⊢
  have hl : lv_has ls 2 [(0, .ref (a 0)), (1, .int d)] := hl
  refine lv_aload_n hx hb dX2_idle_0 rfl (lv_at hl 0 rfl) ?_
  refine lv_iload_n hx hb dX2_idle_1 rfl (lv_at hl 1 rfl) ?_
  refine m_callR (As := [.int d]) (rest := []) ⟨hx, hb, hml, hown, hts⟩ (c_X2_none l D cI cZ a ha n S hok d) (cwV 1 hts gX2_idle_X2_none rfl rfl rfl (by decide +kernel) ⟨Nat.le_of_ble_eq_true rfl, Nat.le_of_ble_eq_true rfl⟩) hK hP (va_recv hK hP (ci := 3) (q0 := 0) rfl rfl) rfl hl.1 rfl (Nat.le_of_ble_eq_true rfl) dX2_idle_2 ⟨Nat.zero_le _, Nat.zero_le _⟩ ?_
  by_cases hd : inR n d = true
  · obtain ⟨j, hj, rfl⟩ := inR_spec hn12 hd
    have hjc : (nI j).toNatClampNeg = j := nI_clamp (by omega)
    have hN : R_none n S (nI j) = 0 := if_pos hd
    rw [hN]
    refine lv_if_eq (tgt := 13) hx hb dX2_idle_5 (by decide) (fun c1 => ?_) (fun c1 => ?_)
    · refine lv_aload_n hx hb dX2_idle_13 rfl (lv_at hl 0 rfl) ?_
      refine r_get (S := S) (v := .ref (a 8)) hx hb hts hin hown hK hP 8 (by decide) (by decide +kernel) rfl rfl dX2_idle_14 ?_
      refine lv_iload_n hx hb dX2_idle_17 rfl (lv_at hl 1 rfl) ?_
      refine r_ald (S := S) (x := S.2 8 j) hx hb hK hP 8 (by decide) (j := j) (by omega) rfl dX2_idle_18 ?_
      have hE : R_idle n S (nI j) = S.2 8 j := by first | (simp only [R_idle, if_pos hd, hjc]; done) | (simp only [R_idle, if_pos hd, hjc]; rfl)
      exact W.iret (v := S.2 8 j) hx hb hr (fun tt ht hW => ⟨S.2 8 j, rfl, hE.symm, ht⟩) (fun q hq => by cases hq) dX2_idle_19
    · exact absurd (by decide) c1
  · have hN : R_none n S d = 1 := if_neg hd
    rw [hN]
    refine lv_if_eq (tgt := 13) hx hb dX2_idle_5 (by decide) (fun c2 => ?_) (fun c2 => ?_)
    · exact absurd c2 (by decide)
    · refine lv_bipush (v := (-2)) hx hb dX2_idle_8 (by decide) ?_
      refine lv_goto (tgt := 19) hx hb dX2_idle_10 (by decide) ?_
      have hE : R_idle n S d = (-2) := by first | (simp only [R_idle, if_neg hd]; done) | (simp only [R_idle, if_neg hd]; rfl)
      exact W.iret (v := (-2)) hx hb hr (fun tt ht hW => ⟨(-2), rfl, hE.symm, ht⟩) (fun q hq => by cases hq) dX2_idle_19

def R_refusals (n : Nat) (S : rSt) (d : Int32) : Int32 :=
  if inR n d = true then S.2 9 (d.toNatClampNeg)
  else (-2)
set_option maxHeartbeats 4000000 in
set_option maxRecDepth 100000 in
theorem c_X2_refusals (l : Launch) (D : va_G) (cI cZ : ClassId) (a : Nat → Nat) (ha : (rL a).Nodup) (n : Nat) (S : rSt) (hok : rOk n S) (d : Int32) : mR l yX2_refusals wsX2_refusals (rmz 1 21) D (rT cI cZ) [.ref (a 0), .int d] (rW cI cZ a S) (R_refusals n S d) := by
  refine Met.ofW (cc := cX2_refusals) (maxL := 2) (ret := (some .int)) (by decide) rfl ?_
  intro p e s m args below meth c s₁ B hml hv
  obtain ⟨rfl, hP, hK⟩ := hv
  have hx := B.exec
  have hb := B.bytes
  have hr := B.returns
  have hts := atoms_spec (ws := wsX2_refusals) B.pre
  have hin : ∀ w ∈ wsX20, w ∈ wsX2_refusals := fun w h => List.mem_cons_of_mem _ (List.mem_append_right _ h)
  have hown : s.vm.findClass RX2 = some m.cls := findClass_of_methodNamed B.named
  have hlocks := B.notSynchronized
  have hn12 : n ≤ 12 := hok.2.1
  have hl := lv_entry ([.ref (a 0), .int d]) (n := 2) (Nat.le_of_ble_eq_true rfl)
  rw [lg_entry_eq]
  generalize (lg_sl ([.ref (a 0), .int d]) ++ List.replicate (2 - (lg_sl ([.ref (a 0), .int d])).length) Slot.unset).toArray = ls at hl ⊢
  have hl : lv_has ls 2 [(0, .ref (a 0)), (1, .int d)] := hl
  refine lv_aload_n hx hb dX2_refusals_0 rfl (lv_at hl 0 rfl) ?_
  refine lv_iload_n hx hb dX2_refusals_1 rfl (lv_at hl 1 rfl) ?_
  refine m_callR (As := [.int d]) (rest := []) ⟨hx, hb, hml, hown, hts⟩ (c_X2_none l D cI cZ a ha n S hok d) (cwV 1 hts gX2_refusals_X2_none rfl rfl rfl (by decide +kernel) ⟨Nat.le_of_ble_eq_true rfl, Nat.le_of_ble_eq_true rfl⟩) hK hP (va_recv hK hP (ci := 3) (q0 := 0) rfl rfl) rfl hl.1 rfl (Nat.le_of_ble_eq_true rfl) dX2_refusals_2 ⟨Nat.zero_le _, Nat.zero_le _⟩ ?_
  by_cases hd : inR n d = true
  · obtain ⟨j, hj, rfl⟩ := inR_spec hn12 hd
    have hjc : (nI j).toNatClampNeg = j := nI_clamp (by omega)
    have hN : R_none n S (nI j) = 0 := if_pos hd
    rw [hN]
    refine lv_if_eq (tgt := 13) hx hb dX2_refusals_5 (by decide) (fun c1 => ?_) (fun c1 => ?_)
    · refine lv_aload_n hx hb dX2_refusals_13 rfl (lv_at hl 0 rfl) ?_
      refine r_get (S := S) (v := .ref (a 9)) hx hb hts hin hown hK hP 9 (by decide) (by decide +kernel) rfl rfl dX2_refusals_14 ?_
      refine lv_iload_n hx hb dX2_refusals_17 rfl (lv_at hl 1 rfl) ?_
      refine r_ald (S := S) (x := S.2 9 j) hx hb hK hP 9 (by decide) (j := j) (by omega) rfl dX2_refusals_18 ?_
      have hE : R_refusals n S (nI j) = S.2 9 j := by first | (simp only [R_refusals, if_pos hd, hjc]; done) | (simp only [R_refusals, if_pos hd, hjc]; rfl)
      exact W.iret (v := S.2 9 j) hx hb hr (fun tt ht hW => ⟨S.2 9 j, rfl, hE.symm, ht⟩) (fun q hq => by cases hq) dX2_refusals_19
    · exact absurd (by decide) c1
  · have hN : R_none n S d = 1 := if_neg hd
    rw [hN]
    refine lv_if_eq (tgt := 13) hx hb dX2_refusals_5 (by decide) (fun c2 => ?_) (fun c2 => ?_)
    · exact absurd c2 (by decide)
    · refine lv_bipush (v := (-2)) hx hb dX2_refusals_8 (by decide) ?_
      refine lv_goto (tgt := 19) hx hb dX2_refusals_10 (by decide) ?_
      have hE : R_refusals n S d = (-2) := by first | (simp only [R_refusals, if_neg hd]; done) | (simp only [R_refusals, if_neg hd]; rfl)
      exact W.iret (v := (-2)) hx hb hr (fun tt ht hW => ⟨(-2), rfl, hE.symm, ht⟩) (fun q hq => by cases hq) dX2_refusals_19

def R_release (n : Nat) (S : rSt) (d : Int32) : Int32 × rSt :=
  if inR n d = true then (if S.1 12 = 0 then (if S.2 7 (d.toNatClampNeg) = 0 then ((-1), S)
      else ((S.2 7 (d.toNatClampNeg)) - 1, (S.1, up2 (S.2) 7 (d.toNatClampNeg) ((S.2 7 (d.toNatClampNeg)) - 1))))
    else ((-3), S))
  else ((-2), S)
theorem R_release_sm (n : Nat) (S : rSt) (d : Int32) : rSm S ((R_release n S d).2) := by
  unfold R_release
  repeat' split
  all_goals exact ⟨rfl, rfl⟩
theorem R_release_ok (n : Nat) (S : rSt) (d : Int32) (hok : rOk n S) : rOk n ((R_release n S d).2) := rOk_of (R_release_sm n S d) hok
set_option maxHeartbeats 4000000 in
set_option maxRecDepth 100000 in
theorem c_X2_release (l : Launch) (D : va_G) (cI cZ : ClassId) (a : Nat → Nat) (ha : (rL a).Nodup) (n : Nat) (S : rSt) (hok : rOk n S) (d : Int32) : mI l yX2_release wsX2_release (rmz 1 21) D (rT cI cZ) (rL a) [.ref (a 0), .int d] (rW cI cZ a S) (R_release n S d).1 (rW cI cZ a (R_release n S d).2) := by
  intro sz
  refine Met.ofW (cc := cX2_release) (maxL := 2) (ret := (some .int)) (by decide) rfl ?_
  intro p e s m args below meth c s₁ B hml hv
  obtain ⟨rfl, hsz, hP, hK⟩ := hv
  have hx := B.exec
  have hb := B.bytes
  have hr := B.returns
  have hts := atoms_spec (ws := wsX2_release) B.pre
  have hin : ∀ w ∈ wsX20, w ∈ wsX2_release := fun w h => List.mem_cons_of_mem _ (List.mem_append_right _ h)
  have hown : s.vm.findClass RX2 = some m.cls := findClass_of_methodNamed B.named
  have hlocks := B.notSynchronized
  have hn12 : n ≤ 12 := hok.2.1
  subst hsz
  have hS : va_S (wA (rL a) s.heap.size) s.heap s.heap [] := va_S.rf
  have hl := lv_entry ([.ref (a 0), .int d]) (n := 2) (Nat.le_of_ble_eq_true rfl)
  rw [lg_entry_eq]
  generalize (lg_sl ([.ref (a 0), .int d]) ++ List.replicate (2 - (lg_sl ([.ref (a 0), .int d])).length) Slot.unset).toArray = ls at hl ⊢
  have hl : lv_has ls 2 [(0, .ref (a 0)), (1, .int d)] := hl
  refine lv_aload_n hx hb dX2_release_0 rfl (lv_at hl 0 rfl) ?_
  refine lv_iload_n hx hb dX2_release_1 rfl (lv_at hl 1 rfl) ?_
  refine m_callR (As := [.int d]) (rest := []) ⟨hx, hb, hml, hown, hts⟩ (c_X2_none l D cI cZ a ha n S hok d) (cwV 1 hts gX2_release_X2_none rfl rfl rfl (by decide +kernel) ⟨Nat.le_of_ble_eq_true rfl, Nat.le_of_ble_eq_true rfl⟩) hK hP (va_recv hK hP (ci := 3) (q0 := 0) rfl rfl) rfl hl.1 rfl (Nat.le_of_ble_eq_true rfl) dX2_release_2 ⟨Nat.zero_le _, Nat.zero_le _⟩ ?_
  by_cases hd : inR n d = true
  · obtain ⟨j, hj, rfl⟩ := inR_spec hn12 hd
    have hjc : (nI j).toNatClampNeg = j := nI_clamp (by omega)
    have hN : R_none n S (nI j) = 0 := if_pos hd
    rw [hN]
    refine lv_if_eq (tgt := 11) hx hb dX2_release_5 (by decide) (fun c1 => ?_) (fun c1 => ?_)
    · refine lv_aload_n hx hb dX2_release_11 rfl (lv_at hl 0 rfl) ?_
      refine r_get (S := S) (v := .int (S.1 12)) hx hb hts hin hown hK hP 12 (by decide) (by decide +kernel) rfl rfl dX2_release_12 ?_
      refine lv_if_eq (tgt := 21) hx hb dX2_release_15 (by decide) (fun c2 => ?_) (fun c2 => ?_)
      · refine lv_aload_n hx hb dX2_release_21 rfl (lv_at hl 0 rfl) ?_
        refine r_get (S := S) (v := .ref (a 7)) hx hb hts hin hown hK hP 7 (by decide) (by decide +kernel) rfl rfl dX2_release_22 ?_
        refine lv_iload_n hx hb dX2_release_25 rfl (lv_at hl 1 rfl) ?_
        refine r_ald (S := S) (x := S.2 7 j) hx hb hK hP 7 (by decide) (j := j) (by omega) rfl dX2_release_26 ?_
        refine lv_if_ne (tgt := 32) hx hb dX2_release_27 (by decide) (fun c3 => ?_) (fun c3 => ?_)
        · refine lv_aload_n hx hb dX2_release_32 rfl (lv_at hl 0 rfl) ?_
          refine r_get (S := S) (v := .ref (a 7)) hx hb hts hin hown hK hP 7 (by decide) (by decide +kernel) rfl rfl dX2_release_33 ?_
          refine lv_iload_n hx hb dX2_release_36 rfl (lv_at hl 1 rfl) ?_
          refine lv_dup2_11 hx hb dX2_release_37 rfl rfl ?_
          refine r_ald (S := S) (x := S.2 7 j) hx hb hK hP 7 (by decide) (j := j) (by omega) rfl dX2_release_38 ?_
          refine lv_iconst (v := 1) hx hb dX2_release_39 (by decide) ?_
          refine lv_isub hx hb dX2_release_40 ?_
          refine r_ast ha hx hb hK hP hS 7 (by decide) (j := j) (by omega) dX2_release_41 (fun H locs hP hS => ?_)
          have hP : va_P D vwCl (rW cI cZ a (S.1, up2 (S.2) 7 j ((S.2 7 j) - 1))) H := hP
          refine lv_aload_n hx hb dX2_release_42 rfl (lv_at hl 0 rfl) ?_
          refine r_get (S := (S.1, up2 (S.2) 7 j ((S.2 7 j) - 1))) (v := .ref (a 7)) hx hb hts hin hown hK hP 7 (by decide) (by decide +kernel) rfl rfl dX2_release_43 ?_
          refine lv_iload_n hx hb dX2_release_46 rfl (lv_at hl 1 rfl) ?_
          refine r_ald (S := (S.1, up2 (S.2) 7 j ((S.2 7 j) - 1))) (x := (S.2 7 j) - 1) hx hb hK hP 7 (by decide) (j := j) (by omega) (by simp [up2, va_up, upd]) dX2_release_47 ?_
          have hE : R_release n S (nI j) = ((S.2 7 j) - 1, (S.1, up2 (S.2) 7 j ((S.2 7 j) - 1))) := by first | (simp only [R_release, if_pos hd, if_pos c2, if_neg c3, hjc]; done) | (simp only [R_release, if_pos hd, if_pos c2, if_neg c3, hjc]; rfl)
          exact W.iret (v := (S.2 7 j) - 1) hx hb hr (fun tt ht hW => ⟨⟨(S.2 7 j) - 1, (), rfl, by rw [hE], by rw [ht, hE]; exact hP, va_K.moved hW.alike hK⟩, hS.F ht⟩) hS.2.2 dX2_release_48
        · refine lv_iconst (v := (-1)) hx hb dX2_release_30 (by decide) ?_
          have hE : R_release n S (nI j) = ((-1), S) := by first | (simp only [R_release, if_pos hd, if_pos c2, if_pos c3, hjc]; done) | (simp only [R_release, if_pos hd, if_pos c2, if_pos c3, hjc]; rfl)
          exact W.iret (v := (-1)) hx hb hr (fun tt ht hW => ⟨⟨(-1), (), rfl, by rw [hE], by rw [ht, hE]; exact hP, va_K.moved hW.alike hK⟩, hS.F ht⟩) hS.2.2 dX2_release_31
      · refine lv_bipush (v := (-3)) hx hb dX2_release_18 (by decide) ?_
        have hE : R_release n S (nI j) = ((-3), S) := by first | (simp only [R_release, if_pos hd, if_neg c2, hjc]; done) | (simp only [R_release, if_pos hd, if_neg c2, hjc]; rfl)
        exact W.iret (v := (-3)) hx hb hr (fun tt ht hW => ⟨⟨(-3), (), rfl, by rw [hE], by rw [ht, hE]; exact hP, va_K.moved hW.alike hK⟩, hS.F ht⟩) hS.2.2 dX2_release_20
    · exact absurd (by decide) c1
  · have hN : R_none n S d = 1 := if_neg hd
    rw [hN]
    refine lv_if_eq (tgt := 11) hx hb dX2_release_5 (by decide) (fun c4 => ?_) (fun c4 => ?_)
    · exact absurd c4 (by decide)
    · refine lv_bipush (v := (-2)) hx hb dX2_release_8 (by decide) ?_
      have hE : R_release n S d = ((-2), S) := by first | (simp only [R_release, if_neg hd]; done) | (simp only [R_release, if_neg hd]; rfl)
      exact W.iret (v := (-2)) hx hb hr (fun tt ht hW => ⟨⟨(-2), (), rfl, by rw [hE], by rw [ht, hE]; exact hP, va_K.moved hW.alike hK⟩, hS.F ht⟩) hS.2.2 dX2_release_10

def R_refuse (n : Nat) (S : rSt) (d : Int32) (k : Int32) : Int32 × rSt :=
  if inR n d = true then (if k < 0 then (0, S)
    else if k ≤ 9 then (1, (S.1, up2 (S.2) 9 (d.toNatClampNeg) k))
    else (0, S))
  else (0, S)
theorem R_refuse_sm (n : Nat) (S : rSt) (d : Int32) (k : Int32) : rSm S ((R_refuse n S d k).2) := by
  unfold R_refuse
  repeat' split
  all_goals exact ⟨rfl, rfl⟩
theorem R_refuse_ok (n : Nat) (S : rSt) (d : Int32) (k : Int32) (hok : rOk n S) : rOk n ((R_refuse n S d k).2) := rOk_of (R_refuse_sm n S d k) hok
set_option maxHeartbeats 4000000 in
set_option maxRecDepth 100000 in
theorem c_X2_refuse (l : Launch) (D : va_G) (cI cZ : ClassId) (a : Nat → Nat) (ha : (rL a).Nodup) (n : Nat) (S : rSt) (hok : rOk n S) (d : Int32) (k : Int32) : mI l yX2_refuse wsX2_refuse (rmz 1 21) D (rT cI cZ) (rL a) [.ref (a 0), .int d, .int k] (rW cI cZ a S) (R_refuse n S d k).1 (rW cI cZ a (R_refuse n S d k).2) := by
  intro sz
  refine Met.ofW (cc := cX2_refuse) (maxL := 3) (ret := (some .boolean)) (by decide) rfl ?_
  intro p e s m args below meth c s₁ B hml hv
  obtain ⟨rfl, hsz, hP, hK⟩ := hv
  have hx := B.exec
  have hb := B.bytes
  have hr := B.returns
  have hts := atoms_spec (ws := wsX2_refuse) B.pre
  have hin : ∀ w ∈ wsX20, w ∈ wsX2_refuse := fun w h => List.mem_cons_of_mem _ (List.mem_append_right _ h)
  have hown : s.vm.findClass RX2 = some m.cls := findClass_of_methodNamed B.named
  have hlocks := B.notSynchronized
  have hn12 : n ≤ 12 := hok.2.1
  subst hsz
  have hS : va_S (wA (rL a) s.heap.size) s.heap s.heap [] := va_S.rf
  have hl := lv_entry ([.ref (a 0), .int d, .int k]) (n := 3) (Nat.le_of_ble_eq_true rfl)
  rw [lg_entry_eq]
  generalize (lg_sl ([.ref (a 0), .int d, .int k]) ++ List.replicate (3 - (lg_sl ([.ref (a 0), .int d, .int k])).length) Slot.unset).toArray = ls at hl ⊢
  have hl : lv_has ls 3 [(0, .ref (a 0)), (1, .int d), (2, .int k)] := hl
  refine lv_aload_n hx hb dX2_refuse_0 rfl (lv_at hl 0 rfl) ?_
  refine lv_iload_n hx hb dX2_refuse_1 rfl (lv_at hl 1 rfl) ?_
  refine m_callR (As := [.int d]) (rest := []) ⟨hx, hb, hml, hown, hts⟩ (c_X2_none l D cI cZ a ha n S hok d) (cwV 1 hts gX2_refuse_X2_none rfl rfl rfl (by decide +kernel) ⟨Nat.le_of_ble_eq_true rfl, Nat.le_of_ble_eq_true rfl⟩) hK hP (va_recv hK hP (ci := 3) (q0 := 0) rfl rfl) rfl hl.1 rfl (Nat.le_of_ble_eq_true rfl) dX2_refuse_2 ⟨Nat.zero_le _, Nat.zero_le _⟩ ?_
  by_cases hd : inR n d = true
  · obtain ⟨j, hj, rfl⟩ := inR_spec hn12 hd
    have hjc : (nI j).toNatClampNeg = j := nI_clamp (by omega)
    have hN : R_none n S (nI j) = 0 := if_pos hd
    rw [hN]
    refine lv_if_ne (tgt := 18) hx hb dX2_refuse_5 (by decide) (fun c1 => ?_) (fun c1 => ?_)
    · exact absurd (by decide) c1
    · refine lv_iload_n hx hb dX2_refuse_8 rfl (lv_at hl 2 rfl) ?_
      refine lv_if_lt (tgt := 18) hx hb dX2_refuse_9 (by decide) (fun c2 => ?_) (fun c2 => ?_)
      · refine lv_iconst (v := 0) hx hb dX2_refuse_18 (by decide) ?_
        have hE : R_refuse n S (nI j) k = (0, S) := by first | (simp only [R_refuse, if_pos hd, if_pos c2, hjc]; done) | (simp only [R_refuse, if_pos hd, if_pos c2, hjc]; rfl)
        exact W.zret (v := 0) hx hb hr rfl (fun tt ht hW => ⟨⟨0, (), rfl, by rw [hE], by rw [ht, hE]; exact hP, va_K.moved hW.alike hK⟩, hS.F ht⟩) hS.2.2 dX2_refuse_19
      · refine lv_iload_n hx hb dX2_refuse_12 rfl (lv_at hl 2 rfl) ?_
        refine lv_bipush (v := 9) hx hb dX2_refuse_13 (by decide) ?_
        refine lv_icmp_le (tgt := 20) hx hb dX2_refuse_15 (by decide) (fun c3 => ?_) (fun c3 => ?_)
        · refine lv_aload_n hx hb dX2_refuse_20 rfl (lv_at hl 0 rfl) ?_
          refine r_get (S := S) (v := .ref (a 9)) hx hb hts hin hown hK hP 9 (by decide) (by decide +kernel) rfl rfl dX2_refuse_21 ?_
          refine lv_iload_n hx hb dX2_refuse_24 rfl (lv_at hl 1 rfl) ?_
          refine lv_iload_n hx hb dX2_refuse_25 rfl (lv_at hl 2 rfl) ?_
          refine r_ast ha hx hb hK hP hS 9 (by decide) (j := j) (by omega) dX2_refuse_26 (fun H locs hP hS => ?_)
          have hP : va_P D vwCl (rW cI cZ a (S.1, up2 (S.2) 9 j k)) H := hP
          refine lv_iconst (v := 1) hx hb dX2_refuse_27 (by decide) ?_
          have hE : R_refuse n S (nI j) k = (1, (S.1, up2 (S.2) 9 j k)) := by first | (simp only [R_refuse, if_pos hd, if_neg c2, if_pos c3, hjc]; done) | (simp only [R_refuse, if_pos hd, if_neg c2, if_pos c3, hjc]; rfl)
          exact W.zret (v := 1) hx hb hr rfl (fun tt ht hW => ⟨⟨1, (), rfl, by rw [hE], by rw [ht, hE]; exact hP, va_K.moved hW.alike hK⟩, hS.F ht⟩) hS.2.2 dX2_refuse_28
        · refine lv_iconst (v := 0) hx hb dX2_refuse_18 (by decide) ?_
          have hE : R_refuse n S (nI j) k = (0, S) := by first | (simp only [R_refuse, if_pos hd, if_neg c2, if_neg c3, hjc]; done) | (simp only [R_refuse, if_pos hd, if_neg c2, if_neg c3, hjc]; rfl)
          exact W.zret (v := 0) hx hb hr rfl (fun tt ht hW => ⟨⟨0, (), rfl, by rw [hE], by rw [ht, hE]; exact hP, va_K.moved hW.alike hK⟩, hS.F ht⟩) hS.2.2 dX2_refuse_19
  · have hN : R_none n S d = 1 := if_neg hd
    rw [hN]
    refine lv_if_ne (tgt := 18) hx hb dX2_refuse_5 (by decide) (fun c4 => ?_) (fun c4 => ?_)
    · refine lv_iconst (v := 0) hx hb dX2_refuse_18 (by decide) ?_
      have hE : R_refuse n S d k = (0, S) := by first | (simp only [R_refuse, if_neg hd]; done) | (simp only [R_refuse, if_neg hd]; rfl)
      exact W.zret (v := 0) hx hb hr rfl (fun tt ht hW => ⟨⟨0, (), rfl, by rw [hE], by rw [ht, hE]; exact hP, va_K.moved hW.alike hK⟩, hS.F ht⟩) hS.2.2 dX2_refuse_19
    · exact absurd c4 (by decide)

def R_waker (n : Nat) (S : rSt) (d : Int32) (on : Int32) : Int32 × rSt :=
  if inR n d = true then (1, (S.1, up2 (S.2) 10 (d.toNatClampNeg) on))
  else (0, S)
theorem R_waker_sm (n : Nat) (S : rSt) (d : Int32) (on : Int32) : rSm S ((R_waker n S d on).2) := by
  unfold R_waker
  repeat' split
  all_goals exact ⟨rfl, rfl⟩
theorem R_waker_ok (n : Nat) (S : rSt) (d : Int32) (on : Int32) (hok : rOk n S) : rOk n ((R_waker n S d on).2) := rOk_of (R_waker_sm n S d on) hok
set_option maxHeartbeats 4000000 in
set_option maxRecDepth 100000 in
theorem c_X2_waker (l : Launch) (D : va_G) (cI cZ : ClassId) (a : Nat → Nat) (ha : (rL a).Nodup) (n : Nat) (S : rSt) (hok : rOk n S) (d : Int32) (on : Int32) (h01 : on = 0 ∨ on = 1) : mI l yX2_waker wsX2_waker (rmz 1 21) D (rT cI cZ) (rL a) [.ref (a 0), .int d, .int on] (rW cI cZ a S) (R_waker n S d on).1 (rW cI cZ a (R_waker n S d on).2) := by
  intro sz
  refine Met.ofW (cc := cX2_waker) (maxL := 3) (ret := (some .boolean)) (by decide) rfl ?_
  intro p e s m args below meth c s₁ B hml hv
  obtain ⟨rfl, hsz, hP, hK⟩ := hv
  have hx := B.exec
  have hb := B.bytes
  have hr := B.returns
  have hts := atoms_spec (ws := wsX2_waker) B.pre
  have hin : ∀ w ∈ wsX20, w ∈ wsX2_waker := fun w h => List.mem_cons_of_mem _ (List.mem_append_right _ h)
  have hown : s.vm.findClass RX2 = some m.cls := findClass_of_methodNamed B.named
  have hlocks := B.notSynchronized
  have hn12 : n ≤ 12 := hok.2.1
  subst hsz
  have hS : va_S (wA (rL a) s.heap.size) s.heap s.heap [] := va_S.rf
  have hl := lv_entry ([.ref (a 0), .int d, .int on]) (n := 3) (Nat.le_of_ble_eq_true rfl)
  rw [lg_entry_eq]
  generalize (lg_sl ([.ref (a 0), .int d, .int on]) ++ List.replicate (3 - (lg_sl ([.ref (a 0), .int d, .int on])).length) Slot.unset).toArray = ls at hl ⊢
  have hl : lv_has ls 3 [(0, .ref (a 0)), (1, .int d), (2, .int on)] := hl
  refine lv_aload_n hx hb dX2_waker_0 rfl (lv_at hl 0 rfl) ?_
  refine lv_iload_n hx hb dX2_waker_1 rfl (lv_at hl 1 rfl) ?_
  refine m_callR (As := [.int d]) (rest := []) ⟨hx, hb, hml, hown, hts⟩ (c_X2_none l D cI cZ a ha n S hok d) (cwV 1 hts gX2_waker_X2_none rfl rfl rfl (by decide +kernel) ⟨Nat.le_of_ble_eq_true rfl, Nat.le_of_ble_eq_true rfl⟩) hK hP (va_recv hK hP (ci := 3) (q0 := 0) rfl rfl) rfl hl.1 rfl (Nat.le_of_ble_eq_true rfl) dX2_waker_2 ⟨Nat.zero_le _, Nat.zero_le _⟩ ?_
  by_cases hd : inR n d = true
  · obtain ⟨j, hj, rfl⟩ := inR_spec hn12 hd
    have hjc : (nI j).toNatClampNeg = j := nI_clamp (by omega)
    have hN : R_none n S (nI j) = 0 := if_pos hd
    rw [hN]
    refine lv_if_eq (tgt := 10) hx hb dX2_waker_5 (by decide) (fun c1 => ?_) (fun c1 => ?_)
    · refine lv_aload_n hx hb dX2_waker_10 rfl (lv_at hl 0 rfl) ?_
      refine r_get (S := S) (v := .ref (a 10)) hx hb hts hin hown hK hP 10 (by decide) (by decide +kernel) rfl rfl dX2_waker_11 ?_
      refine lv_iload_n hx hb dX2_waker_14 rfl (lv_at hl 1 rfl) ?_
      refine lv_iload_n hx hb dX2_waker_15 rfl (lv_at hl 2 rfl) ?_
      refine r_zast ha hx hb hK hP hS 10 (by decide) (j := j) (by omega) h01 dX2_waker_16 (fun H locs hP hS => ?_)
      have hP : va_P D vwCl (rW cI cZ a (S.1, up2 (S.2) 10 j on)) H := hP
      refine lv_iconst (v := 1) hx hb dX2_waker_17 (by decide) ?_
      have hE : R_waker n S (nI j) on = (1, (S.1, up2 (S.2) 10 j on)) := by first | (simp only [R_waker, if_pos hd, hjc]; done) | (simp only [R_waker, if_pos hd, hjc]; rfl)
      exact W.zret (v := 1) hx hb hr rfl (fun tt ht hW => ⟨⟨1, (), rfl, by rw [hE], by rw [ht, hE]; exact hP, va_K.moved hW.alike hK⟩, hS.F ht⟩) hS.2.2 dX2_waker_18
    · exact absurd (by decide) c1
  · have hN : R_none n S d = 1 := if_neg hd
    rw [hN]
    refine lv_if_eq (tgt := 10) hx hb dX2_waker_5 (by decide) (fun c2 => ?_) (fun c2 => ?_)
    · exact absurd c2 (by decide)
    · refine lv_iconst (v := 0) hx hb dX2_waker_8 (by decide) ?_
      have hE : R_waker n S d on = (0, S) := by first | (simp only [R_waker, if_neg hd]; done) | (simp only [R_waker, if_neg hd]; rfl)
      exact W.zret (v := 0) hx hb hr rfl (fun tt ht hW => ⟨⟨0, (), rfl, by rw [hE], by rw [ht, hE]; exact hP, va_K.moved hW.alike hK⟩, hS.F ht⟩) hS.2.2 dX2_waker_9
end
section
def R_line_w (S : rSt) : Nat → Int32 → Int32
  | 0, x => x
  | r + 1, x => R_line_w S r (if (x >>> (nI r &&& 31)) &&& 1 = 1 then x ||| S.2 1 r else x)
def R_line (n : Nat) (S : rSt) (d : Nat) : Int32 := R_line_w S (d + 1) (1 <<< (nI d &&& 31))

set_option maxHeartbeats 4000000 in
set_option maxRecDepth 100000 in
theorem c_X2_line (l : Launch) (D : va_G) (cI cZ : ClassId) (a : Nat → Nat) (ha : (rL a).Nodup) (n : Nat) (S : rSt) (hok : rOk n S) (d : Nat) (hd : d < n) : mR l yX2_line wsX2_line (rmz 0 0) D (rT cI cZ) [.ref (a 0), .int (nI d)] (rW cI cZ a S) (R_line n S d) := by
  refine Met.ofW (cc := cX2_line) (maxL := 4) (ret := (some .int)) (by decide) rfl ?_
  intro p e s m args below meth c s₁ B hml hv
  obtain ⟨rfl, hP, hK⟩ := hv
  have hx := B.exec
  have hb := B.bytes
  have hr := B.returns
  have hts := atoms_spec (ws := wsX2_line) B.pre
  have hin : ∀ w ∈ wsX20, w ∈ wsX2_line := fun w h => List.mem_cons_of_mem _ (List.mem_append_right _ h)
  have hown : s.vm.findClass RX2 = some m.cls := findClass_of_methodNamed B.named
  have hlocks := B.notSynchronized
  have hn12 : n ≤ 12 := hok.2.1
  have hl := lv_entry ([.ref (a 0), .int (nI d)]) (n := 4) (Nat.le_of_ble_eq_true rfl)
  rw [lg_entry_eq]
  generalize (lg_sl ([.ref (a 0), .int (nI d)]) ++ List.replicate (4 - (lg_sl ([.ref (a 0), .int (nI d)])).length) Slot.unset).toArray = ls at hl ⊢
  have hl : lv_has ls 4 [(0, .ref (a 0)), (1, .int (nI d))] := hl
  refine lv_iconst (v := 1) hx hb dX2_line_0 (by decide) ?_
  refine lv_iload_n hx hb dX2_line_1 rfl (lv_at hl 1 rfl) ?_
  refine lv_ishl hx hb dX2_line_2 ?_
  refine lv_istore_n (lv' := [(2, .int (1 <<< ((nI d) &&& 31))), (0, .ref (a 0)), (1, .int (nI d))]) hx hb dX2_line_3 rfl hl (by decide) rfl (fun ls hl => ?_)
  refine lv_iload_n hx hb dX2_line_4 rfl (lv_at hl 2 rfl) ?_
  refine lv_istore_n (lv' := [(3, .int (nI d)), (2, .int (1 <<< ((nI d) &&& 31))), (0, .ref (a 0)), (1, .int (nI d))]) hx hb dX2_line_5 rfl hl (by decide) rfl (fun ls hl => ?_)
  refine w_loop (σ := Nat × Int32) (I := fun z H locs ls => z.1 ≤ d + 1 ∧ R_line_w S z.1 z.2 = R_line n S d ∧ H = s.heap ∧ locs = [] ∧ lv_has ls 4 [(0, .ref (a 0)), (1, .int (nI d)), (2, .int z.2), (3, .int (nI z.1 - 1))]) (fun z => z.1) ?_ (d + 1, 1 <<< (nI d &&& 31)) ⟨Nat.le_refl _, rfl, rfl, rfl, by show lv_has ls 4 [(0, .ref (a 0)), (1, .int (nI d)), (2, .int (1 <<< (nI d &&& 31))), (3, .int (nI (d + 1) - 1))]; rw [nI_pred]; exact lv_sub hl [2, 3, 1, 0] rfl⟩
  intro z H locs ls hI ih
  obtain ⟨r, x⟩ := z
  dsimp only at hI
  obtain ⟨hr1, hw, rfl, rfl, hl⟩ := hI
  rcases r with _ | r
  · rw [show nI 0 - 1 = (-1 : Int32) from by decide] at hl
    refine lv_iload_n hx hb dX2_line_6 rfl (lv_at hl 3 rfl) ?_
    refine lv_if_lt (tgt := 38) hx hb dX2_line_7 (by decide) (fun c1 => ?_) (fun c1 => ?_)
    · refine lv_iload_n hx hb dX2_line_38 rfl (lv_at hl 2 rfl) ?_
      have hE : R_line n S d = x := by exact hw.symm
      exact W.iret (v := x) hx hb hr (fun tt ht hW => ⟨x, rfl, hE.symm, ht⟩) (fun q hq => by cases hq) dX2_line_39
    · exact absurd (by decide) c1
  · rw [nI_pred] at hl
    refine lv_iload_n hx hb dX2_line_6 rfl (lv_at hl 3 rfl) ?_
    refine lv_if_lt (tgt := 38) hx hb dX2_line_7 (by decide) (fun c2 => ?_) (fun c2 => ?_)
    · exact absurd c2 (nI_pos (by omega))
    · refine lv_iload_n hx hb dX2_line_10 rfl (lv_at hl 2 rfl) ?_
      refine lv_iload_n hx hb dX2_line_11 rfl (lv_at hl 3 rfl) ?_
      refine lv_ishr hx hb dX2_line_12 ?_
      refine lv_iconst (v := 1) hx hb dX2_line_13 (by decide) ?_
      refine lv_iand hx hb dX2_line_14 ?_
      refine lv_iconst (v := 1) hx hb dX2_line_15 (by decide) ?_
      refine lv_icmp_ne (tgt := 30) hx hb dX2_line_16 (by decide) (fun c3 => ?_) (fun c3 => ?_)
      · refine lv_iload_n hx hb dX2_line_30 rfl (lv_at hl 2 rfl) ?_
        refine lv_istore_n (lv' := [(2, .int x), (0, .ref (a 0)), (1, .int (nI d)), (3, .int (nI r))]) hx hb dX2_line_31 rfl hl (by decide) rfl (fun ls hl => ?_)
        refine lv_iinc (v := nI r - 1) (lv' := [(3, .int (nI r - 1)), (2, .int x), (0, .ref (a 0)), (1, .int (nI d))]) hx hb dX2_line_32 hl (k := 3) rfl (by rw [Int32.sub_eq_add_neg]; rfl) (by decide) rfl (fun ls hl => ?_)
        refine lv_goto (tgt := 6) hx hb dX2_line_35 (by decide) ?_
        exact ih (r, x) _ _ ls (Nat.lt_succ_self r) ⟨by omega, by rw [← hw]; first | (simp only [R_line_w, if_neg c3]; done) | (simp only [R_line_w, if_neg c3]; rfl), rfl, rfl, lv_sub hl [2, 3, 1, 0] rfl⟩
      · refine lv_iload_n hx hb dX2_line_19 rfl (lv_at hl 2 rfl) ?_
        refine lv_aload_n hx hb dX2_line_20 rfl (lv_at hl 0 rfl) ?_
        refine r_get (S := S) (v := .ref (a 1)) hx hb hts hin hown hK hP 1 (by decide) (by decide +kernel) rfl rfl dX2_line_21 ?_
        refine lv_iload_n hx hb dX2_line_24 rfl (lv_at hl 3 rfl) ?_
        refine r_ald (S := S) (x := S.2 1 r) hx hb hK hP 1 (by decide) (j := r) (by omega) rfl dX2_line_25 ?_
        refine lv_ior hx hb dX2_line_26 ?_
        refine lv_goto (tgt := 31) hx hb dX2_line_27 (by decide) ?_
        refine lv_istore_n (lv' := [(2, .int (x ||| (S.2 1 r))), (0, .ref (a 0)), (1, .int (nI d)), (3, .int (nI r))]) hx hb dX2_line_31 rfl hl (by decide) rfl (fun ls hl => ?_)
        refine lv_iinc (v := nI r - 1) (lv' := [(3, .int (nI r - 1)), (2, .int (x ||| (S.2 1 r))), (0, .ref (a 0)), (1, .int (nI d))]) hx hb dX2_line_32 hl (k := 3) rfl (by rw [Int32.sub_eq_add_neg]; rfl) (by decide) rfl (fun ls hl => ?_)
        refine lv_goto (tgt := 6) hx hb dX2_line_35 (by decide) ?_
        exact ih (r, x ||| (S.2 1 r)) _ _ ls (Nat.lt_succ_self r) ⟨by omega, by rw [← hw]; first | (simp only [R_line_w, if_pos c3]; done) | (simp only [R_line_w, if_pos c3]; rfl), rfl, rfl, lv_sub hl [2, 3, 1, 0] rfl⟩

def R_next_b (S : rSt) (ly : Int32) (k : Nat) (x : Int32) : Int32 := if (ly >>> (nI k &&& 31)) &&& 1 = 1 then x ||| S.2 1 k else x
def R_next_it (n : Nat) (S : rSt) (ly : Int32) : Nat → Int32
  | 0 => 0
  | k + 1 => R_next_b S ly k (R_next_it n S ly k)
theorem R_next_lb {n : Nat} {S : rSt} {ly : Int32} {f : Nat} (hok : rOk n S) (h : lb ly (f + 1)) : ∀ k, k ≤ n → lb (R_next_it n S ly k) f
  | 0, _ => lb_0 f
  | k + 1, hk => by
    have h12 := hok.2.1
    show lb (R_next_b S ly k (R_next_it n S ly k)) f
    unfold R_next_b
    split
    · rename_i hc
      have hb := (b_tst (by omega)).mp hc
      have hkf : k < f + 1 := by
        rcases Nat.lt_or_ge k (f + 1) with h2 | h2
        · exact h2
        · rw [h k h2] at hb; cases hb
      exact lb_or (R_next_lb hok h k (by omega)) (lb_up (hok.2.2 k (by omega)) (by omega))
    · exact R_next_lb hok h k (by omega)
def R_depth_w (n : Nat) (S : rSt) : Nat → Int32 → Int32 → Int32
  | 0, _, dp => dp
  | f + 1, ly, dp => if ly = 0 then dp else R_depth_w n S f (R_next_it n S ly n) (dp + 1)
def R_depth (n : Nat) (S : rSt) (d : Nat) : Int32 := R_depth_w n S (d + 1) (S.2 1 d) 0

set_option maxHeartbeats 4000000 in
set_option maxRecDepth 100000 in
theorem c_X2_depth (l : Launch) (D : va_G) (cI cZ : ClassId) (a : Nat → Nat) (ha : (rL a).Nodup) (n : Nat) (S : rSt) (hok : rOk n S) (d : Nat) (hd : d < n) : mR l yX2_depth wsX2_depth (rmz 0 0) D (rT cI cZ) [.ref (a 0), .int (nI d)] (rW cI cZ a S) (R_depth n S d) := by
  refine Met.ofW (cc := cX2_depth) (maxL := 6) (ret := (some .int)) (by decide) rfl ?_
  intro p e s m args below meth c s₁ B hml hv
  obtain ⟨rfl, hP, hK⟩ := hv
  have hx := B.exec
  have hb := B.bytes
  have hr := B.returns
  have hts := atoms_spec (ws := wsX2_depth) B.pre
  have hin : ∀ w ∈ wsX20, w ∈ wsX2_depth := fun w h => List.mem_cons_of_mem _ (List.mem_append_right _ h)
  have hown : s.vm.findClass RX2 = some m.cls := findClass_of_methodNamed B.named
  have hlocks := B.notSynchronized
  have hn12 : n ≤ 12 := hok.2.1
  have hl := lv_entry ([.ref (a 0), .int (nI d)]) (n := 6) (Nat.le_of_ble_eq_true rfl)
  rw [lg_entry_eq]
  generalize (lg_sl ([.ref (a 0), .int (nI d)]) ++ List.replicate (6 - (lg_sl ([.ref (a 0), .int (nI d)])).length) Slot.unset).toArray = ls at hl ⊢
  have hl : lv_has ls 6 [(0, .ref (a 0)), (1, .int (nI d))] := hl
  refine lv_iconst (v := 0) hx hb dX2_depth_0 (by decide) ?_
  refine lv_istore_n (lv' := [(2, .int 0), (0, .ref (a 0)), (1, .int (nI d))]) hx hb dX2_depth_1 rfl hl (by decide) rfl (fun ls hl => ?_)
  refine lv_aload_n hx hb dX2_depth_2 rfl (lv_at hl 1 rfl) ?_
  refine r_get (S := S) (v := .ref (a 1)) hx hb hts hin hown hK hP 1 (by decide) (by decide +kernel) rfl rfl dX2_depth_3 ?_
  refine lv_iload_n hx hb dX2_depth_6 rfl (lv_at hl 2 rfl) ?_
  refine r_ald (S := S) (x := S.2 1 d) hx hb hK hP 1 (by decide) (j := d) (by omega) rfl dX2_depth_7 ?_
  refine lv_istore_n (lv' := [(3, .int (S.2 1 d)), (2, .int 0), (0, .ref (a 0)), (1, .int (nI d))]) hx hb dX2_depth_8 rfl hl (by decide) rfl (fun ls hl => ?_)
  refine w_loop (σ := Nat × Int32 × Int32) (I := fun z H locs ls => z.1 ≤ 12 ∧ lb z.2.1 z.1 ∧ R_depth_w n S (z.1 + 1) z.2.1 z.2.2 = R_depth n S d ∧ H = s.heap ∧ locs = [] ∧ lv_has ls 6 [(0, .ref (a 0)), (1, .int (nI d)), (2, .int z.2.2), (3, .int (z.2.1))]) (fun z => z.1) ?_ (d, S.2 1 d, 0) ⟨by omega, hok.2.2 d hd, rfl, rfl, rfl, lv_sub hl [2, 3, 1, 0] rfl⟩
  intro z H locs ls hI ih
  obtain ⟨f, ly, dp⟩ := z
  dsimp only at hI
  obtain ⟨hf, hlb, hw, rfl, rfl, hl⟩ := hI
  refine lv_iload_n hx hb dX2_depth_9 rfl (lv_at hl 3 rfl) ?_
  refine lv_if_eq (tgt := 70) hx hb dX2_depth_10 (by decide) (fun c1 => ?_) (fun c1 => ?_)
  · refine lv_iload_n hx hb dX2_depth_70 rfl (lv_at hl 2 rfl) ?_
    have hE : R_depth n S d = dp := by rw [← hw]; simp only [R_depth_w, if_pos c1]
    exact W.iret (v := dp) hx hb hr (fun tt ht hW => ⟨dp, rfl, hE.symm, ht⟩) (fun q hq => by cases hq) dX2_depth_71
  · refine lv_iconst (v := 0) hx hb dX2_depth_13 (by decide) ?_
    refine lv_istore (lv' := [(4, .int 0), (0, .ref (a 0)), (1, .int (nI d)), (2, .int dp), (3, .int ly)]) hx hb dX2_depth_14 hl (by decide) rfl (fun ls hl => ?_)
    refine lv_iconst (v := 0) hx hb dX2_depth_16 (by decide) ?_
    refine lv_istore (lv' := [(5, .int 0), (4, .int 0), (0, .ref (a 0)), (1, .int (nI d)), (2, .int dp), (3, .int ly)]) hx hb dX2_depth_17 hl (by decide) rfl (fun ls hl => ?_)
    refine w_loop (σ := Nat) (I := fun k2 H locs ls => k2 ≤ n ∧ H = s.heap ∧ locs = [] ∧ lv_has ls 6 [(0, .ref (a 0)), (1, .int (nI d)), (2, .int dp), (3, .int ly), (4, .int ((R_next_it n S ly k2))), (5, .int (nI k2))]) (fun k2 => n - k2) ?_ 0 ⟨Nat.zero_le _, rfl, rfl, lv_sub hl [2, 3, 4, 5, 1, 0] rfl⟩
    intro k2 H locs ls hI ih
    obtain ⟨hk, rfl, rfl, hl⟩ := hI
    refine lv_iload hx hb dX2_depth_19 (lv_at hl 5 rfl) ?_
    refine lv_aload_n hx hb dX2_depth_21 rfl (lv_at hl 0 rfl) ?_
    refine r_get (S := S) (v := .int (nI n)) hx hb hts hin hown hK hP 0 (by decide) (by decide +kernel) rfl (congrArg (fun z => some (Value.int z)) hok.1) dX2_depth_22 ?_
    refine lv_icmp_ge (tgt := 61) hx hb dX2_depth_25 (by decide) (fun c3 => ?_) (fun c3 => ?_)
    · have hkn : k2 = n := Nat.le_antisymm hk ((nI_leI (by omega) (by omega)).mp c3)
      rw [hkn] at hl
      refine lv_iload hx hb dX2_depth_61 (lv_at hl 4 rfl) ?_
      refine lv_istore_n (lv' := [(3, .int ((R_next_it n S ly n))), (0, .ref (a 0)), (1, .int (nI d)), (2, .int dp), (4, .int ((R_next_it n S ly n))), (5, .int (nI n))]) hx hb dX2_depth_63 rfl hl (by decide) rfl (fun ls hl => ?_)
      refine lv_iinc (v := dp + 1) (lv' := [(2, .int (dp + 1)), (3, .int ((R_next_it n S ly n))), (0, .ref (a 0)), (1, .int (nI d)), (4, .int ((R_next_it n S ly n))), (5, .int (nI n))]) hx hb dX2_depth_64 hl (k := 3) rfl rfl (by decide) rfl (fun ls hl => ?_)
      refine lv_goto (tgt := 9) hx hb dX2_depth_67 (by decide) ?_
      obtain ⟨f, rfl⟩ : ∃ f1, f = f1 + 1 := by
        rcases f with _ | f
        · exact absurd (lb_zero hlb) c1
        · exact ⟨f, rfl⟩
      exact ih (f, R_next_it n S ly n, dp + 1) _ _ ls (Nat.lt_succ_self f) ⟨by omega, R_next_lb hok hlb n (Nat.le_refl n), by rw [← hw]; simp only [R_depth_w, if_neg c1], rfl, rfl, lv_sub hl [2, 3, 0, 1] rfl⟩
    · have hlt : k2 < n := Nat.lt_of_not_le (fun z => c3 ((nI_leI (by omega) (by omega)).mpr z))
      refine lv_iload_n hx hb dX2_depth_28 rfl (lv_at hl 3 rfl) ?_
      refine lv_iload hx hb dX2_depth_29 (lv_at hl 5 rfl) ?_
      refine lv_ishr hx hb dX2_depth_31 ?_
      refine lv_iconst (v := 1) hx hb dX2_depth_32 (by decide) ?_
      refine lv_iand hx hb dX2_depth_33 ?_
      refine lv_iconst (v := 1) hx hb dX2_depth_34 (by decide) ?_
      refine lv_icmp_ne (tgt := 51) hx hb dX2_depth_35 (by decide) (fun c4 => ?_) (fun c4 => ?_)
      · refine lv_iload hx hb dX2_depth_51 (lv_at hl 4 rfl) ?_
        refine lv_istore (lv' := [(4, .int ((R_next_it n S ly k2))), (0, .ref (a 0)), (1, .int (nI d)), (2, .int dp), (3, .int ly), (5, .int (nI k2))]) hx hb dX2_depth_53 hl (by decide) rfl (fun ls hl => ?_)
        refine lv_iinc (v := nI (k2 + 1)) (lv' := [(5, .int (nI (k2 + 1))), (4, .int ((R_next_it n S ly k2))), (0, .ref (a 0)), (1, .int (nI d)), (2, .int dp), (3, .int ly)]) hx hb dX2_depth_55 hl (k := 5) rfl (nI_1 _) (by decide) rfl (fun ls hl => ?_)
        refine lv_goto (tgt := 19) hx hb dX2_depth_58 (by decide) ?_
        have hE : R_next_it n S ly (k2 + 1) = (R_next_it n S ly k2) := by show R_next_b S ly k2 (R_next_it n S ly k2) = _; first | (simp only [R_next_b, if_neg c4]; done) | (simp only [R_next_b, if_neg c4]; rfl)
        exact ih (k2 + 1) _ _ ls (by omega) ⟨by omega, rfl, rfl, by rw [hE]; exact lv_sub hl [2, 3, 4, 5, 1, 0] rfl⟩
      · refine lv_iload hx hb dX2_depth_38 (lv_at hl 4 rfl) ?_
        refine lv_aload_n hx hb dX2_depth_40 rfl (lv_at hl 0 rfl) ?_
        refine r_get (S := S) (v := .ref (a 1)) hx hb hts hin hown hK hP 1 (by decide) (by decide +kernel) rfl rfl dX2_depth_41 ?_
        refine lv_iload hx hb dX2_depth_44 (lv_at hl 5 rfl) ?_
        refine r_ald (S := S) (x := S.2 1 k2) hx hb hK hP 1 (by decide) (j := k2) (by omega) rfl dX2_depth_46 ?_
        refine lv_ior hx hb dX2_depth_47 ?_
        refine lv_goto (tgt := 53) hx hb dX2_depth_48 (by decide) ?_
        refine lv_istore (lv' := [(4, .int ((R_next_it n S ly k2) ||| (S.2 1 k2))), (0, .ref (a 0)), (1, .int (nI d)), (2, .int dp), (3, .int ly), (5, .int (nI k2))]) hx hb dX2_depth_53 hl (by decide) rfl (fun ls hl => ?_)
        refine lv_iinc (v := nI (k2 + 1)) (lv' := [(5, .int (nI (k2 + 1))), (4, .int ((R_next_it n S ly k2) ||| (S.2 1 k2))), (0, .ref (a 0)), (1, .int (nI d)), (2, .int dp), (3, .int ly)]) hx hb dX2_depth_55 hl (k := 5) rfl (nI_1 _) (by decide) rfl (fun ls hl => ?_)
        refine lv_goto (tgt := 19) hx hb dX2_depth_58 (by decide) ?_
        have hE : R_next_it n S ly (k2 + 1) = (R_next_it n S ly k2) ||| (S.2 1 k2) := by show R_next_b S ly k2 (R_next_it n S ly k2) = _; first | (simp only [R_next_b, if_pos c4]; done) | (simp only [R_next_b, if_pos c4]; rfl)
        exact ih (k2 + 1) _ _ ls (by omega) ⟨by omega, rfl, rfl, by rw [hE]; exact lv_sub hl [2, 3, 4, 5, 1, 0] rfl⟩

def R_earlier (n : Nat) (S : rSt) (x : Nat) (y : Nat) : Int32 :=
  if R_depth n S x = R_depth n S y then (if nI y ≤ nI x then 0
    else 1)
  else if R_depth n S y ≤ R_depth n S x then 0
  else 1
set_option maxHeartbeats 4000000 in
set_option maxRecDepth 100000 in
theorem c_X2_earlier (l : Launch) (D : va_G) (cI cZ : ClassId) (a : Nat → Nat) (ha : (rL a).Nodup) (n : Nat) (S : rSt) (hok : rOk n S) (x : Nat) (hx : x < n) (y : Nat) (hy : y < n) : mR l yX2_earlier wsX2_earlier (rmz 1 25) D (rT cI cZ) [.ref (a 0), .int (nI x), .int (nI y)] (rW cI cZ a S) (R_earlier n S x y) := by
  refine Met.ofW (cc := cX2_earlier) (maxL := 5) (ret := (some .boolean)) (by decide) rfl ?_
  intro p e s m args below meth c s₁ B hml hv
  obtain ⟨rfl, hP, hK⟩ := hv
  have hx := B.exec
  have hb := B.bytes
  have hr := B.returns
  have hts := atoms_spec (ws := wsX2_earlier) B.pre
  have hin : ∀ w ∈ wsX20, w ∈ wsX2_earlier := fun w h => List.mem_cons_of_mem _ (List.mem_append_right _ h)
  have hown : s.vm.findClass RX2 = some m.cls := findClass_of_methodNamed B.named
  have hlocks := B.notSynchronized
  have hn12 : n ≤ 12 := hok.2.1
  have hl := lv_entry ([.ref (a 0), .int (nI x), .int (nI y)]) (n := 5) (Nat.le_of_ble_eq_true rfl)
  rw [lg_entry_eq]
  generalize (lg_sl ([.ref (a 0), .int (nI x), .int (nI y)]) ++ List.replicate (5 - (lg_sl ([.ref (a 0), .int (nI x), .int (nI y)])).length) Slot.unset).toArray = ls at hl ⊢
  have hl : lv_has ls 5 [(0, .ref (a 0)), (1, .int (nI x)), (2, .int (nI y))] := hl
  refine lv_aload_n hx hb dX2_earlier_0 rfl (lv_at hl 0 rfl) ?_
  refine lv_iload_n hx hb dX2_earlier_1 rfl (lv_at hl 1 rfl) ?_
  refine m_callR (As := [.int (nI x)]) (rest := []) ⟨hx, hb, hml, hown, hts⟩ (c_X2_depth l D cI cZ a ha n S hok x (by omega)) (cwV 1 hts gX2_earlier_X2_depth rfl rfl rfl (by decide +kernel) ⟨Nat.le_of_ble_eq_true rfl, Nat.le_of_ble_eq_true rfl⟩) hK hP (va_recv hK hP (ci := 3) (q0 := 0) rfl rfl) rfl hl.1 rfl (Nat.le_of_ble_eq_true rfl) dX2_earlier_2 ⟨Nat.zero_le _, Nat.zero_le _⟩ ?_
  refine lv_istore_n (lv' := [(3, .int (R_depth n S x)), (0, .ref (a 0)), (1, .int (nI x)), (2, .int (nI y))]) hx hb dX2_earlier_5 rfl hl (by decide) rfl (fun ls hl => ?_)
  refine lv_aload_n hx hb dX2_earlier_6 rfl (lv_at hl 1 rfl) ?_
  refine lv_iload_n hx hb dX2_earlier_7 rfl (lv_at hl 3 rfl) ?_
  refine m_callR (As := [.int (nI y)]) (rest := []) ⟨hx, hb, hml, hown, hts⟩ (c_X2_depth l D cI cZ a ha n S hok y (by omega)) (cwV 1 hts gX2_earlier_X2_depth rfl rfl rfl (by decide +kernel) ⟨Nat.le_of_ble_eq_true rfl, Nat.le_of_ble_eq_true rfl⟩) hK hP (va_recv hK hP (ci := 3) (q0 := 0) rfl rfl) rfl hl.1 rfl (Nat.le_of_ble_eq_true rfl) dX2_earlier_8 ⟨Nat.zero_le _, Nat.zero_le _⟩ ?_
  refine lv_istore (lv' := [(4, .int (R_depth n S y)), (3, .int (R_depth n S x)), (0, .ref (a 0)), (1, .int (nI x)), (2, .int (nI y))]) hx hb dX2_earlier_11 hl (by decide) rfl (fun ls hl => ?_)
  refine lv_iload_n hx hb dX2_earlier_13 rfl (lv_at hl 1 rfl) ?_
  refine lv_iload hx hb dX2_earlier_14 (lv_at hl 0 rfl) ?_
  refine lv_icmp_eq (tgt := 33) hx hb dX2_earlier_16 (by decide) (fun c1 => ?_) (fun c1 => ?_)
  · refine lv_iload_n hx hb dX2_earlier_33 rfl (lv_at hl 3 rfl) ?_
    refine lv_iload_n hx hb dX2_earlier_34 rfl (lv_at hl 4 rfl) ?_
    refine lv_icmp_ge (tgt := 42) hx hb dX2_earlier_35 (by decide) (fun c2 => ?_) (fun c2 => ?_)
    · have c2n : y ≤ x := (nI_leI (by omega) (by omega)).mp c2
      refine lv_iconst (v := 0) hx hb dX2_earlier_42 (by decide) ?_
      have hE : R_earlier n S x y = 0 := by first | (simp only [R_earlier, if_pos c1, if_pos c2]; done) | (simp only [R_earlier, if_pos c1, if_pos c2]; rfl)
      exact W.zret (v := 0) hx hb hr rfl (fun tt ht hW => ⟨0, rfl, hE.symm, ht⟩) (fun q hq => by cases hq) dX2_earlier_43
    · have c2n : ¬ y ≤ x := fun z => c2 ((nI_leI (by omega) (by omega)).mpr z)
      refine lv_iconst (v := 1) hx hb dX2_earlier_38 (by decide) ?_
      refine lv_goto (tgt := 43) hx hb dX2_earlier_39 (by decide) ?_
      have hE : R_earlier n S x y = 1 := by first | (simp only [R_earlier, if_pos c1, if_neg c2]; done) | (simp only [R_earlier, if_pos c1, if_neg c2]; rfl)
      exact W.zret (v := 1) hx hb hr rfl (fun tt ht hW => ⟨1, rfl, hE.symm, ht⟩) (fun q hq => by cases hq) dX2_earlier_43
  · refine lv_iload_n hx hb dX2_earlier_19 rfl (lv_at hl 1 rfl) ?_
    refine lv_iload hx hb dX2_earlier_20 (lv_at hl 0 rfl) ?_
    refine lv_icmp_ge (tgt := 29) hx hb dX2_earlier_22 (by decide) (fun c3 => ?_) (fun c3 => ?_)
    · refine lv_iconst (v := 0) hx hb dX2_earlier_29 (by decide) ?_
      refine lv_goto (tgt := 43) hx hb dX2_earlier_30 (by decide) ?_
      have hE : R_earlier n S x y = 0 := by first | (simp only [R_earlier, if_neg c1, if_pos c3]; done) | (simp only [R_earlier, if_neg c1, if_pos c3]; rfl)
      exact W.zret (v := 0) hx hb hr rfl (fun tt ht hW => ⟨0, rfl, hE.symm, ht⟩) (fun q hq => by cases hq) dX2_earlier_43
    · refine lv_iconst (v := 1) hx hb dX2_earlier_25 (by decide) ?_
      refine lv_goto (tgt := 43) hx hb dX2_earlier_26 (by decide) ?_
      have hE : R_earlier n S x y = 1 := by first | (simp only [R_earlier, if_neg c1, if_neg c3]; done) | (simp only [R_earlier, if_neg c1, if_neg c3]; rfl)
      exact W.zret (v := 1) hx hb hr rfl (fun tt ht hW => ⟨1, rfl, hE.symm, ht⟩) (fun q hq => by cases hq) dX2_earlier_43

def R_use (n : Nat) (S : rSt) (d : Int32) : Int32 × rSt :=
  if inR n d = true then (if S.1 12 = 0 then ((R_rouse n (S.1, up2 (S.2) 7 (d.toNatClampNeg) ((S.2 7 (d.toNatClampNeg)) + 1)) (R_line n (S.1, up2 (S.2) 7 (d.toNatClampNeg) ((S.2 7 (d.toNatClampNeg)) + 1)) (d.toNatClampNeg))).1, (R_rouse n (S.1, up2 (S.2) 7 (d.toNatClampNeg) ((S.2 7 (d.toNatClampNeg)) + 1)) (R_line n (S.1, up2 (S.2) 7 (d.toNatClampNeg) ((S.2 7 (d.toNatClampNeg)) + 1)) (d.toNatClampNeg))).2)
    else ((-3), S))
  else ((-2), S)
theorem R_use_sm (n : Nat) (S : rSt) (d : Int32) : rSm S (R_use n S d).2 := by
  unfold R_use
  repeat' split
  all_goals first | exact ⟨rfl, rfl⟩ | exact rSm.tr ⟨rfl, rfl⟩ (R_rouse_it_sm _ _ _ _)
theorem R_use_ok (n : Nat) (S : rSt) (d : Int32) (hok : rOk n S) : rOk n (R_use n S d).2 := rOk_of (R_use_sm n S d) hok
set_option maxHeartbeats 4000000 in
set_option maxRecDepth 100000 in
theorem c_X2_use (l : Launch) (D : va_G) (cI cZ : ClassId) (a : Nat → Nat) (ha : (rL a).Nodup) (n : Nat) (S : rSt) (hok : rOk n S) (d : Int32) : mI l yX2_use wsX2_use (rmz 1 23) D (rT cI cZ) (rL a) [.ref (a 0), .int d] (rW cI cZ a S) (R_use n S d).1 (rW cI cZ a (R_use n S d).2) := by
  intro sz
  refine Met.ofW (cc := cX2_use) (maxL := 2) (ret := (some .int)) (by decide) rfl ?_
  intro p e s m args below meth c s₁ B hml hv
  obtain ⟨rfl, hsz, hP, hK⟩ := hv
  have hx := B.exec
  have hb := B.bytes
  have hr := B.returns
  have hts := atoms_spec (ws := wsX2_use) B.pre
  have hin : ∀ w ∈ wsX20, w ∈ wsX2_use := fun w h => List.mem_cons_of_mem _ (List.mem_append_right _ h)
  have hown : s.vm.findClass RX2 = some m.cls := findClass_of_methodNamed B.named
  have hlocks := B.notSynchronized
  have hn12 : n ≤ 12 := hok.2.1
  subst hsz
  have hS : va_S (wA (rL a) s.heap.size) s.heap s.heap [] := va_S.rf
  have hl := lv_entry ([.ref (a 0), .int d]) (n := 2) (Nat.le_of_ble_eq_true rfl)
  rw [lg_entry_eq]
  generalize (lg_sl ([.ref (a 0), .int d]) ++ List.replicate (2 - (lg_sl ([.ref (a 0), .int d])).length) Slot.unset).toArray = ls at hl ⊢
  have hl : lv_has ls 2 [(0, .ref (a 0)), (1, .int d)] := hl
  refine lv_aload_n hx hb dX2_use_0 rfl (lv_at hl 0 rfl) ?_
  refine lv_iload_n hx hb dX2_use_1 rfl (lv_at hl 1 rfl) ?_
  refine m_callR (As := [.int d]) (rest := []) ⟨hx, hb, hml, hown, hts⟩ (c_X2_none l D cI cZ a ha n S hok d) (cwV 1 hts gX2_use_X2_none rfl rfl rfl (by decide +kernel) ⟨Nat.le_of_ble_eq_true rfl, Nat.le_of_ble_eq_true rfl⟩) hK hP (va_recv hK hP (ci := 3) (q0 := 0) rfl rfl) rfl hl.1 rfl (Nat.le_of_ble_eq_true rfl) dX2_use_2 ⟨Nat.zero_le _, Nat.zero_le _⟩ ?_
  by_cases hd : inR n d = true
  · obtain ⟨j, hj, rfl⟩ := inR_spec hn12 hd
    have hjc : (nI j).toNatClampNeg = j := nI_clamp (by omega)
    have hN : R_none n S (nI j) = 0 := if_pos hd
    rw [hN]
    refine lv_if_eq (tgt := 11) hx hb dX2_use_5 (by decide) (fun c1 => ?_) (fun c1 => ?_)
    · refine lv_aload_n hx hb dX2_use_11 rfl (lv_at hl 0 rfl) ?_
      refine r_get (S := S) (v := .int (S.1 12)) hx hb hts hin hown hK hP 12 (by decide) (by decide +kernel) rfl rfl dX2_use_12 ?_
      refine lv_if_eq (tgt := 21) hx hb dX2_use_15 (by decide) (fun c2 => ?_) (fun c2 => ?_)
      · refine lv_aload_n hx hb dX2_use_21 rfl (lv_at hl 0 rfl) ?_
        refine r_get (S := S) (v := .ref (a 7)) hx hb hts hin hown hK hP 7 (by decide) (by decide +kernel) rfl rfl dX2_use_22 ?_
        refine lv_iload_n hx hb dX2_use_25 rfl (lv_at hl 1 rfl) ?_
        refine lv_dup2_11 hx hb dX2_use_26 rfl rfl ?_
        refine r_ald (S := S) (x := S.2 7 j) hx hb hK hP 7 (by decide) (j := j) (by omega) rfl dX2_use_27 ?_
        refine lv_iconst (v := 1) hx hb dX2_use_28 (by decide) ?_
        refine lv_iadd hx hb dX2_use_29 ?_
        refine r_ast ha hx hb hK hP hS 7 (by decide) (j := j) (by omega) dX2_use_30 (fun H locs hP hS => ?_)
        have hP : va_P D vwCl (rW cI cZ a (S.1, up2 (S.2) 7 j ((S.2 7 j) + 1))) H := hP
        refine lv_aload_n hx hb dX2_use_31 rfl (lv_at hl 0 rfl) ?_
        refine lv_aload_n hx hb dX2_use_32 rfl (lv_at hl 0 rfl) ?_
        refine lv_iload_n hx hb dX2_use_33 rfl (lv_at hl 1 rfl) ?_
        refine m_callR (As := [.int (nI j)]) (rest := [.ref (a 0)]) ⟨hx, hb, hml, hown, hts⟩ (c_X2_line l D cI cZ a ha n (S.1, up2 (S.2) 7 j ((S.2 7 j) + 1)) hok j (by omega)) (cwV 1 hts gX2_use_X2_line rfl rfl rfl (by decide +kernel) ⟨Nat.le_of_ble_eq_true rfl, Nat.le_of_ble_eq_true rfl⟩) hK hP (va_recv hK hP (ci := 3) (q0 := 0) rfl rfl) rfl hl.1 rfl (Nat.le_of_ble_eq_true rfl) dX2_use_34 ⟨Nat.zero_le _, Nat.zero_le _⟩ ?_
        refine m_calli (As := [.int (R_line n (S.1, up2 (S.2) 7 j ((S.2 7 j) + 1)) j)]) (rest := []) ⟨hx, hb, hml, hown, hts⟩ (c_X2_rouse l D cI cZ a ha n (S.1, up2 (S.2) 7 j ((S.2 7 j) + 1)) hok (R_line n (S.1, up2 (S.2) 7 j ((S.2 7 j) + 1)) j)) (cwV 1 hts gX2_use_X2_rouse rfl rfl rfl (by decide +kernel) ⟨Nat.le_of_ble_eq_true rfl, Nat.le_of_ble_eq_true rfl⟩) hK hP hS (fun q h => wA_up hS.1 q h) (va_recv hK hP (ci := 3) (q0 := 0) rfl rfl) rfl hl.1 rfl (Nat.le_of_ble_eq_true rfl) dX2_use_37 ⟨Nat.zero_le _, Nat.zero_le _⟩ (fun H locs hP hS _ => ?_)
        have hok : rOk n (R_rouse n (S.1, up2 (S.2) 7 j ((S.2 7 j) + 1)) (R_line n (S.1, up2 (S.2) 7 j ((S.2 7 j) + 1)) j)).2 := R_rouse_ok n (S.1, up2 (S.2) 7 j ((S.2 7 j) + 1)) (R_line n (S.1, up2 (S.2) 7 j ((S.2 7 j) + 1)) j) hok
        have hE : R_use n S (nI j) = ((R_rouse n (S.1, up2 (S.2) 7 j ((S.2 7 j) + 1)) (R_line n (S.1, up2 (S.2) 7 j ((S.2 7 j) + 1)) j)).1, (R_rouse n (S.1, up2 (S.2) 7 j ((S.2 7 j) + 1)) (R_line n (S.1, up2 (S.2) 7 j ((S.2 7 j) + 1)) j)).2) := by first | (simp only [R_use, if_pos hd, if_pos c2, hjc]; done) | (simp only [R_use, if_pos hd, if_pos c2, hjc]; rfl)
        exact W.iret (v := (R_rouse n (S.1, up2 (S.2) 7 j ((S.2 7 j) + 1)) (R_line n (S.1, up2 (S.2) 7 j ((S.2 7 j) + 1)) j)).1) hx hb hr (fun tt ht hW => ⟨⟨(R_rouse n (S.1, up2 (S.2) 7 j ((S.2 7 j) + 1)) (R_line n (S.1, up2 (S.2) 7 j ((S.2 7 j) + 1)) j)).1, (), rfl, by rw [hE], by rw [ht, hE]; exact hP, va_K.moved hW.alike hK⟩, hS.F ht⟩) hS.2.2 dX2_use_40
      · refine lv_bipush (v := (-3)) hx hb dX2_use_18 (by decide) ?_
        have hE : R_use n S (nI j) = ((-3), S) := by first | (simp only [R_use, if_pos hd, if_neg c2, hjc]; done) | (simp only [R_use, if_pos hd, if_neg c2, hjc]; rfl)
        exact W.iret (v := (-3)) hx hb hr (fun tt ht hW => ⟨⟨(-3), (), rfl, by rw [hE], by rw [ht, hE]; exact hP, va_K.moved hW.alike hK⟩, hS.F ht⟩) hS.2.2 dX2_use_20
    · exact absurd (by decide) c1
  · have hN : R_none n S d = 1 := if_neg hd
    rw [hN]
    refine lv_if_eq (tgt := 11) hx hb dX2_use_5 (by decide) (fun c3 => ?_) (fun c3 => ?_)
    · exact absurd c3 (by decide)
    · refine lv_bipush (v := (-2)) hx hb dX2_use_8 (by decide) ?_
      have hE : R_use n S d = ((-2), S) := by first | (simp only [R_use, if_neg hd]; done) | (simp only [R_use, if_neg hd]; rfl)
      exact W.iret (v := (-2)) hx hb hr (fun tt ht hW => ⟨⟨(-2), (), rfl, by rw [hE], by rw [ht, hE]; exact hP, va_K.moved hW.alike hK⟩, hS.F ht⟩) hS.2.2 dX2_use_10
end
section
def R_last_b (n : Nat) (S : rSt) (k : Nat) (x : Int32) : Int32 := if S.2 5 k = 0 then x else if x < 0 then nI k else if R_earlier n S x.toNatClampNeg k = 0 then x else nI k
def R_last_it (n : Nat) (S : rSt) : Nat → Int32
  | 0 => -1
  | k + 1 => R_last_b n S k (R_last_it n S k)
def R_lastAwake (n : Nat) (S : rSt) : Int32 := R_last_it n S n
theorem R_last_cases (n : Nat) (S : rSt) : ∀ k, R_last_it n S k = -1 ∨ ∃ b, b < k ∧ R_last_it n S k = nI b
  | 0 => Or.inl rfl
  | k + 1 => by
    have ih := R_last_cases n S k
    show R_last_b n S k (R_last_it n S k) = -1 ∨ ∃ b, b < k + 1 ∧ R_last_b n S k (R_last_it n S k) = nI b
    have h2 : R_last_it n S k = -1 ∨ ∃ b, b < k + 1 ∧ R_last_it n S k = nI b := ih.elim Or.inl (fun ⟨b, h1, h2⟩ => Or.inr ⟨b, by omega, h2⟩)
    unfold R_last_b
    repeat' split
    all_goals first | exact h2 | exact Or.inr ⟨k, Nat.lt_succ_self k, rfl⟩

set_option maxHeartbeats 4000000 in
set_option maxRecDepth 100000 in
theorem c_X2_lastAwake (l : Launch) (D : va_G) (cI cZ : ClassId) (a : Nat → Nat) (ha : (rL a).Nodup) (n : Nat) (S : rSt) (hok : rOk n S) : mR l yX2_lastAwake wsX2_lastAwake (rmz 2 49) D (rT cI cZ) [.ref (a 0)] (rW cI cZ a S) (R_lastAwake n S) := by
  refine Met.ofW (cc := cX2_lastAwake) (maxL := 3) (ret := (some .int)) (by decide) rfl ?_
  intro p e s m args below meth c s₁ B hml hv
  obtain ⟨rfl, hP, hK⟩ := hv
  have hx := B.exec
  have hb := B.bytes
  have hr := B.returns
  have hts := atoms_spec (ws := wsX2_lastAwake) B.pre
  have hin : ∀ w ∈ wsX20, w ∈ wsX2_lastAwake := fun w h => List.mem_cons_of_mem _ (List.mem_append_right _ h)
  have hown : s.vm.findClass RX2 = some m.cls := findClass_of_methodNamed B.named
  have hlocks := B.notSynchronized
  have hn12 : n ≤ 12 := hok.2.1
  have hl := lv_entry ([.ref (a 0)]) (n := 3) (Nat.le_of_ble_eq_true rfl)
  rw [lg_entry_eq]
  generalize (lg_sl ([.ref (a 0)]) ++ List.replicate (3 - (lg_sl ([.ref (a 0)])).length) Slot.unset).toArray = ls at hl ⊢
  have hl : lv_has ls 3 [(0, .ref (a 0))] := hl
  refine lv_iconst (v := (-1)) hx hb dX2_lastAwake_0 (by decide) ?_
  refine lv_istore_n (lv' := [(1, .int ((-1))), (0, .ref (a 0))]) hx hb dX2_lastAwake_1 rfl hl (by decide) rfl (fun ls hl => ?_)
  refine lv_iconst (v := 0) hx hb dX2_lastAwake_2 (by decide) ?_
  refine lv_istore_n (lv' := [(2, .int 0), (1, .int ((-1))), (0, .ref (a 0))]) hx hb dX2_lastAwake_3 rfl hl (by decide) rfl (fun ls hl => ?_)
  refine w_loop (σ := Nat) (I := fun k1 H locs ls => k1 ≤ n ∧ H = s.heap ∧ locs = [] ∧ lv_has ls 3 [(0, .ref (a 0)), (1, .int ((R_last_it n S k1))), (2, .int (nI k1))]) (fun k1 => n - k1) ?_ 0 ⟨Nat.zero_le _, rfl, rfl, lv_sub hl [2, 1, 0] rfl⟩
  intro k1 H locs ls hI ih
  obtain ⟨hk, rfl, rfl, hl⟩ := hI
  refine lv_iload_n hx hb dX2_lastAwake_4 rfl (lv_at hl 2 rfl) ?_
  refine lv_aload_n hx hb dX2_lastAwake_5 rfl (lv_at hl 0 rfl) ?_
  refine r_get (S := S) (v := .int (nI n)) hx hb hts hin hown hK hP 0 (by decide) (by decide +kernel) rfl (congrArg (fun z => some (Value.int z)) hok.1) dX2_lastAwake_6 ?_
  refine lv_icmp_ge (tgt := 42) hx hb dX2_lastAwake_9 (by decide) (fun c2 => ?_) (fun c2 => ?_)
  · have hkn : k1 = n := Nat.le_antisymm hk ((nI_leI (by omega) (by omega)).mp c2)
    rw [hkn] at hl
    refine lv_iload_n hx hb dX2_lastAwake_42 rfl (lv_at hl 1 rfl) ?_
    have hE : R_lastAwake n S = (R_last_it n S n) := by first | (simp only [R_lastAwake]; done) | (simp only [R_lastAwake]; rfl)
    exact W.iret (v := (R_last_it n S n)) hx hb hr (fun tt ht hW => ⟨(R_last_it n S n), rfl, hE.symm, ht⟩) (fun q hq => by cases hq) dX2_lastAwake_43
  · have hlt : k1 < n := Nat.lt_of_not_le (fun z => c2 ((nI_leI (by omega) (by omega)).mpr z))
    refine lv_aload_n hx hb dX2_lastAwake_12 rfl (lv_at hl 0 rfl) ?_
    refine r_get (S := S) (v := .ref (a 5)) hx hb hts hin hown hK hP 5 (by decide) (by decide +kernel) rfl rfl dX2_lastAwake_13 ?_
    refine lv_iload_n hx hb dX2_lastAwake_16 rfl (lv_at hl 2 rfl) ?_
    refine r_ald (S := S) (x := S.2 5 k1) hx hb hK hP 5 (by decide) (j := k1) (by omega) rfl dX2_lastAwake_17 ?_
    refine lv_if_eq (tgt := 36) hx hb dX2_lastAwake_18 (by decide) (fun c3 => ?_) (fun c3 => ?_)
    · refine lv_iinc (v := nI (k1 + 1)) (lv' := [(2, .int (nI (k1 + 1))), (0, .ref (a 0)), (1, .int ((R_last_it n S k1)))]) hx hb dX2_lastAwake_36 hl (k := 2) rfl (nI_1 _) (by decide) rfl (fun ls hl => ?_)
      refine lv_goto (tgt := 4) hx hb dX2_lastAwake_39 (by decide) ?_
      have hE : R_last_it n S (k1 + 1) = (R_last_it n S k1) := by show R_last_b n S k1 (R_last_it n S k1) = _; first | (simp only [R_last_b, if_pos c3]; done) | (simp only [R_last_b, if_pos c3]; rfl)
      exact ih (k1 + 1) _ _ ls (by omega) ⟨by omega, rfl, rfl, by rw [hE]; exact lv_sub hl [1, 2, 0] rfl⟩
    · rcases R_last_cases n S k1 with hq | ⟨b, hb2, hq⟩
      · rw [hq] at hl
        refine lv_iload_n hx hb dX2_lastAwake_21 rfl (lv_at hl 1 rfl) ?_
        refine lv_if_lt (tgt := 34) hx hb dX2_lastAwake_22 (by decide) (fun c4 => ?_) (fun c4 => ?_)
        · refine lv_iload_n hx hb dX2_lastAwake_34 rfl (lv_at hl 2 rfl) ?_
          refine lv_istore_n (lv' := [(1, .int (nI k1)), (0, .ref (a 0)), (2, .int (nI k1))]) hx hb dX2_lastAwake_35 rfl hl (by decide) rfl (fun ls hl => ?_)
          refine lv_iinc (v := nI (k1 + 1)) (lv' := [(2, .int (nI (k1 + 1))), (1, .int (nI k1)), (0, .ref (a 0))]) hx hb dX2_lastAwake_36 hl (k := 2) rfl (nI_1 _) (by decide) rfl (fun ls hl => ?_)
          refine lv_goto (tgt := 4) hx hb dX2_lastAwake_39 (by decide) ?_
          have hE : R_last_it n S (k1 + 1) = nI k1 := by show R_last_b n S k1 (R_last_it n S k1) = _; first | (simp only [R_last_b, if_neg c3, hq, if_pos (show (-1 : Int32) < 0 from by decide)]; done) | (simp only [R_last_b, if_neg c3, hq, if_pos (show (-1 : Int32) < 0 from by decide)]; rfl)
          exact ih (k1 + 1) _ _ ls (by omega) ⟨by omega, rfl, rfl, by rw [hE]; exact lv_sub hl [2, 1, 0] rfl⟩
        · exact absurd (by decide) c4
      · rw [hq] at hl
        refine lv_iload_n hx hb dX2_lastAwake_21 rfl (lv_at hl 1 rfl) ?_
        refine lv_if_lt (tgt := 34) hx hb dX2_lastAwake_22 (by decide) (fun c5 => ?_) (fun c5 => ?_)
        · exact absurd c5 (nI_pos (by omega))
        · refine lv_aload_n hx hb dX2_lastAwake_25 rfl (lv_at hl 0 rfl) ?_
          refine lv_iload_n hx hb dX2_lastAwake_26 rfl (lv_at hl 1 rfl) ?_
          refine lv_iload_n hx hb dX2_lastAwake_27 rfl (lv_at hl 2 rfl) ?_
          refine m_callR (As := [.int (nI b), .int (nI k1)]) (rest := []) ⟨hx, hb, hml, hown, hts⟩ (c_X2_earlier l D cI cZ a ha n S hok b (by omega) k1 (by omega)) (cwV 2 hts gX2_lastAwake_X2_earlier rfl rfl rfl (by decide +kernel) ⟨Nat.le_of_ble_eq_true rfl, Nat.le_of_ble_eq_true rfl⟩) hK hP (va_recv hK hP (ci := 3) (q0 := 0) rfl rfl) rfl hl.1 rfl (Nat.le_of_ble_eq_true rfl) dX2_lastAwake_28 ⟨Nat.zero_le _, Nat.zero_le _⟩ ?_
          refine lv_if_eq (tgt := 36) hx hb dX2_lastAwake_31 (by decide) (fun c6 => ?_) (fun c6 => ?_)
          · refine lv_iinc (v := nI (k1 + 1)) (lv' := [(2, .int (nI (k1 + 1))), (0, .ref (a 0)), (1, .int (nI b))]) hx hb dX2_lastAwake_36 hl (k := 2) rfl (nI_1 _) (by decide) rfl (fun ls hl => ?_)
            refine lv_goto (tgt := 4) hx hb dX2_lastAwake_39 (by decide) ?_
            have hE : R_last_it n S (k1 + 1) = nI b := by show R_last_b n S k1 (R_last_it n S k1) = _; first | (simp only [R_last_b, if_neg c3, if_pos c6, hq, if_neg (nI_pos (n := b) (by omega)), nI_clamp (n := b) (by omega)]; done) | (simp only [R_last_b, if_neg c3, if_pos c6, hq, if_neg (nI_pos (n := b) (by omega)), nI_clamp (n := b) (by omega)]; rfl)
            exact ih (k1 + 1) _ _ ls (by omega) ⟨by omega, rfl, rfl, by rw [hE]; exact lv_sub hl [1, 2, 0] rfl⟩
          · refine lv_iload_n hx hb dX2_lastAwake_34 rfl (lv_at hl 2 rfl) ?_
            refine lv_istore_n (lv' := [(1, .int (nI k1)), (0, .ref (a 0)), (2, .int (nI k1))]) hx hb dX2_lastAwake_35 rfl hl (by decide) rfl (fun ls hl => ?_)
            refine lv_iinc (v := nI (k1 + 1)) (lv' := [(2, .int (nI (k1 + 1))), (1, .int (nI k1)), (0, .ref (a 0))]) hx hb dX2_lastAwake_36 hl (k := 2) rfl (nI_1 _) (by decide) rfl (fun ls hl => ?_)
            refine lv_goto (tgt := 4) hx hb dX2_lastAwake_39 (by decide) ?_
            have hE : R_last_it n S (k1 + 1) = nI k1 := by show R_last_b n S k1 (R_last_it n S k1) = _; first | (simp only [R_last_b, if_neg c3, if_neg c6, hq, if_neg (nI_pos (n := b) (by omega)), nI_clamp (n := b) (by omega)]; done) | (simp only [R_last_b, if_neg c3, if_neg c6, hq, if_neg (nI_pos (n := b) (by omega)), nI_clamp (n := b) (by omega)]; rfl)
            exact ih (k1 + 1) _ _ ls (by omega) ⟨by omega, rfl, rfl, by rw [hE]; exact lv_sub hl [2, 1, 0] rfl⟩

def R_first_b (n : Nat) (S : rSt) (k : Nat) (x : Int32) : Int32 := if S.2 5 k = 0 then (if x < 0 then nI k else if R_earlier n S k x.toNatClampNeg = 0 then x else nI k) else x
def R_first_it (n : Nat) (S : rSt) : Nat → Int32
  | 0 => -1
  | k + 1 => R_first_b n S k (R_first_it n S k)
def R_firstOff (n : Nat) (S : rSt) : Int32 := R_first_it n S n
theorem R_first_cases (n : Nat) (S : rSt) : ∀ k, R_first_it n S k = -1 ∨ ∃ b, b < k ∧ R_first_it n S k = nI b
  | 0 => Or.inl rfl
  | k + 1 => by
    have ih := R_first_cases n S k
    show R_first_b n S k (R_first_it n S k) = -1 ∨ ∃ b, b < k + 1 ∧ R_first_b n S k (R_first_it n S k) = nI b
    have h2 : R_first_it n S k = -1 ∨ ∃ b, b < k + 1 ∧ R_first_it n S k = nI b := ih.elim Or.inl (fun ⟨b, h1, h2⟩ => Or.inr ⟨b, by omega, h2⟩)
    unfold R_first_b
    repeat' split
    all_goals first | exact h2 | exact Or.inr ⟨k, Nat.lt_succ_self k, rfl⟩

set_option maxHeartbeats 4000000 in
set_option maxRecDepth 100000 in
theorem c_X2_firstOff (l : Launch) (D : va_G) (cI cZ : ClassId) (a : Nat → Nat) (ha : (rL a).Nodup) (n : Nat) (S : rSt) (hok : rOk n S) : mR l yX2_firstOff wsX2_firstOff (rmz 2 49) D (rT cI cZ) [.ref (a 0)] (rW cI cZ a S) (R_firstOff n S) := by
  refine Met.ofW (cc := cX2_firstOff) (maxL := 3) (ret := (some .int)) (by decide) rfl ?_
  intro p e s m args below meth c s₁ B hml hv
  obtain ⟨rfl, hP, hK⟩ := hv
  have hx := B.exec
  have hb := B.bytes
  have hr := B.returns
  have hts := atoms_spec (ws := wsX2_firstOff) B.pre
  have hin : ∀ w ∈ wsX20, w ∈ wsX2_firstOff := fun w h => List.mem_cons_of_mem _ (List.mem_append_right _ h)
  have hown : s.vm.findClass RX2 = some m.cls := findClass_of_methodNamed B.named
  have hlocks := B.notSynchronized
  have hn12 : n ≤ 12 := hok.2.1
  have hl := lv_entry ([.ref (a 0)]) (n := 3) (Nat.le_of_ble_eq_true rfl)
  rw [lg_entry_eq]
  generalize (lg_sl ([.ref (a 0)]) ++ List.replicate (3 - (lg_sl ([.ref (a 0)])).length) Slot.unset).toArray = ls at hl ⊢
  have hl : lv_has ls 3 [(0, .ref (a 0))] := hl
  refine lv_iconst (v := (-1)) hx hb dX2_firstOff_0 (by decide) ?_
  refine lv_istore_n (lv' := [(1, .int ((-1))), (0, .ref (a 0))]) hx hb dX2_firstOff_1 rfl hl (by decide) rfl (fun ls hl => ?_)
  refine lv_iconst (v := 0) hx hb dX2_firstOff_2 (by decide) ?_
  refine lv_istore_n (lv' := [(2, .int 0), (1, .int ((-1))), (0, .ref (a 0))]) hx hb dX2_firstOff_3 rfl hl (by decide) rfl (fun ls hl => ?_)
  refine w_loop (σ := Nat) (I := fun k1 H locs ls => k1 ≤ n ∧ H = s.heap ∧ locs = [] ∧ lv_has ls 3 [(0, .ref (a 0)), (1, .int ((R_first_it n S k1))), (2, .int (nI k1))]) (fun k1 => n - k1) ?_ 0 ⟨Nat.zero_le _, rfl, rfl, lv_sub hl [2, 1, 0] rfl⟩
  intro k1 H locs ls hI ih
  obtain ⟨hk, rfl, rfl, hl⟩ := hI
  refine lv_iload_n hx hb dX2_firstOff_4 rfl (lv_at hl 2 rfl) ?_
  refine lv_aload_n hx hb dX2_firstOff_5 rfl (lv_at hl 0 rfl) ?_
  refine r_get (S := S) (v := .int (nI n)) hx hb hts hin hown hK hP 0 (by decide) (by decide +kernel) rfl (congrArg (fun z => some (Value.int z)) hok.1) dX2_firstOff_6 ?_
  refine lv_icmp_ge (tgt := 42) hx hb dX2_firstOff_9 (by decide) (fun c2 => ?_) (fun c2 => ?_)
  · have hkn : k1 = n := Nat.le_antisymm hk ((nI_leI (by omega) (by omega)).mp c2)
    rw [hkn] at hl
    refine lv_iload_n hx hb dX2_firstOff_42 rfl (lv_at hl 1 rfl) ?_
    have hE : R_firstOff n S = (R_first_it n S n) := by first | (simp only [R_firstOff]; done) | (simp only [R_firstOff]; rfl)
    exact W.iret (v := (R_first_it n S n)) hx hb hr (fun tt ht hW => ⟨(R_first_it n S n), rfl, hE.symm, ht⟩) (fun q hq => by cases hq) dX2_firstOff_43
  · have hlt : k1 < n := Nat.lt_of_not_le (fun z => c2 ((nI_leI (by omega) (by omega)).mpr z))
    refine lv_aload_n hx hb dX2_firstOff_12 rfl (lv_at hl 0 rfl) ?_
    refine r_get (S := S) (v := .ref (a 5)) hx hb hts hin hown hK hP 5 (by decide) (by decide +kernel) rfl rfl dX2_firstOff_13 ?_
    refine lv_iload_n hx hb dX2_firstOff_16 rfl (lv_at hl 2 rfl) ?_
    refine r_ald (S := S) (x := S.2 5 k1) hx hb hK hP 5 (by decide) (j := k1) (by omega) rfl dX2_firstOff_17 ?_
    refine lv_if_ne (tgt := 36) hx hb dX2_firstOff_18 (by decide) (fun c3 => ?_) (fun c3 => ?_)
    · refine lv_iinc (v := nI (k1 + 1)) (lv' := [(2, .int (nI (k1 + 1))), (0, .ref (a 0)), (1, .int ((R_first_it n S k1)))]) hx hb dX2_firstOff_36 hl (k := 2) rfl (nI_1 _) (by decide) rfl (fun ls hl => ?_)
      refine lv_goto (tgt := 4) hx hb dX2_firstOff_39 (by decide) ?_
      have hE : R_first_it n S (k1 + 1) = (R_first_it n S k1) := by show R_first_b n S k1 (R_first_it n S k1) = _; first | (simp only [R_first_b, if_neg c3]; done) | (simp only [R_first_b, if_neg c3]; rfl)
      exact ih (k1 + 1) _ _ ls (by omega) ⟨by omega, rfl, rfl, by rw [hE]; exact lv_sub hl [1, 2, 0] rfl⟩
    · rcases R_first_cases n S k1 with hq | ⟨b, hb2, hq⟩
      · rw [hq] at hl
        refine lv_iload_n hx hb dX2_firstOff_21 rfl (lv_at hl 1 rfl) ?_
        refine lv_if_lt (tgt := 34) hx hb dX2_firstOff_22 (by decide) (fun c4 => ?_) (fun c4 => ?_)
        · refine lv_iload_n hx hb dX2_firstOff_34 rfl (lv_at hl 2 rfl) ?_
          refine lv_istore_n (lv' := [(1, .int (nI k1)), (0, .ref (a 0)), (2, .int (nI k1))]) hx hb dX2_firstOff_35 rfl hl (by decide) rfl (fun ls hl => ?_)
          refine lv_iinc (v := nI (k1 + 1)) (lv' := [(2, .int (nI (k1 + 1))), (1, .int (nI k1)), (0, .ref (a 0))]) hx hb dX2_firstOff_36 hl (k := 2) rfl (nI_1 _) (by decide) rfl (fun ls hl => ?_)
          refine lv_goto (tgt := 4) hx hb dX2_firstOff_39 (by decide) ?_
          have hE : R_first_it n S (k1 + 1) = nI k1 := by show R_first_b n S k1 (R_first_it n S k1) = _; first | (simp only [R_first_b, if_pos c3, hq, if_pos (show (-1 : Int32) < 0 from by decide)]; done) | (simp only [R_first_b, if_pos c3, hq, if_pos (show (-1 : Int32) < 0 from by decide)]; rfl)
          exact ih (k1 + 1) _ _ ls (by omega) ⟨by omega, rfl, rfl, by rw [hE]; exact lv_sub hl [2, 1, 0] rfl⟩
        · exact absurd (by decide) c4
      · rw [hq] at hl
        refine lv_iload_n hx hb dX2_firstOff_21 rfl (lv_at hl 1 rfl) ?_
        refine lv_if_lt (tgt := 34) hx hb dX2_firstOff_22 (by decide) (fun c5 => ?_) (fun c5 => ?_)
        · exact absurd c5 (nI_pos (by omega))
        · refine lv_aload_n hx hb dX2_firstOff_25 rfl (lv_at hl 0 rfl) ?_
          refine lv_iload_n hx hb dX2_firstOff_26 rfl (lv_at hl 2 rfl) ?_
          refine lv_iload_n hx hb dX2_firstOff_27 rfl (lv_at hl 1 rfl) ?_
          refine m_callR (As := [.int (nI k1), .int (nI b)]) (rest := []) ⟨hx, hb, hml, hown, hts⟩ (c_X2_earlier l D cI cZ a ha n S hok k1 (by omega) b (by omega)) (cwV 2 hts gX2_firstOff_X2_earlier rfl rfl rfl (by decide +kernel) ⟨Nat.le_of_ble_eq_true rfl, Nat.le_of_ble_eq_true rfl⟩) hK hP (va_recv hK hP (ci := 3) (q0 := 0) rfl rfl) rfl hl.1 rfl (Nat.le_of_ble_eq_true rfl) dX2_firstOff_28 ⟨Nat.zero_le _, Nat.zero_le _⟩ ?_
          refine lv_if_eq (tgt := 36) hx hb dX2_firstOff_31 (by decide) (fun c6 => ?_) (fun c6 => ?_)
          · refine lv_iinc (v := nI (k1 + 1)) (lv' := [(2, .int (nI (k1 + 1))), (0, .ref (a 0)), (1, .int (nI b))]) hx hb dX2_firstOff_36 hl (k := 2) rfl (nI_1 _) (by decide) rfl (fun ls hl => ?_)
            refine lv_goto (tgt := 4) hx hb dX2_firstOff_39 (by decide) ?_
            have hE : R_first_it n S (k1 + 1) = nI b := by show R_first_b n S k1 (R_first_it n S k1) = _; first | (simp only [R_first_b, if_pos c3, if_pos c6, hq, if_neg (nI_pos (n := b) (by omega)), nI_clamp (n := b) (by omega)]; done) | (simp only [R_first_b, if_pos c3, if_pos c6, hq, if_neg (nI_pos (n := b) (by omega)), nI_clamp (n := b) (by omega)]; rfl)
            exact ih (k1 + 1) _ _ ls (by omega) ⟨by omega, rfl, rfl, by rw [hE]; exact lv_sub hl [1, 2, 0] rfl⟩
          · refine lv_iload_n hx hb dX2_firstOff_34 rfl (lv_at hl 2 rfl) ?_
            refine lv_istore_n (lv' := [(1, .int (nI k1)), (0, .ref (a 0)), (2, .int (nI k1))]) hx hb dX2_firstOff_35 rfl hl (by decide) rfl (fun ls hl => ?_)
            refine lv_iinc (v := nI (k1 + 1)) (lv' := [(2, .int (nI (k1 + 1))), (1, .int (nI k1)), (0, .ref (a 0))]) hx hb dX2_firstOff_36 hl (k := 2) rfl (nI_1 _) (by decide) rfl (fun ls hl => ?_)
            refine lv_goto (tgt := 4) hx hb dX2_firstOff_39 (by decide) ?_
            have hE : R_first_it n S (k1 + 1) = nI k1 := by show R_first_b n S k1 (R_first_it n S k1) = _; first | (simp only [R_first_b, if_pos c3, if_neg c6, hq, if_neg (nI_pos (n := b) (by omega)), nI_clamp (n := b) (by omega)]; done) | (simp only [R_first_b, if_pos c3, if_neg c6, hq, if_neg (nI_pos (n := b) (by omega)), nI_clamp (n := b) (by omega)]; rfl)
            exact ih (k1 + 1) _ _ ls (by omega) ⟨by omega, rfl, rfl, by rw [hE]; exact lv_sub hl [2, 1, 0] rfl⟩

theorem nI_nem {d : Nat} (h : d < 2 ^ 31) : ¬ nI d = (-1) := fun q => nI_pos h (by rw [q]; decide)

def R_sink (n : Nat) (S : rSt) : rSt :=
  if R_lastAwake n S = (-1) then (upd (upd (S.1) 12 2) 21 ((S.1 21) + 1), S.2)
  else if S.2 5 (R_lastAwake n S).toNatClampNeg = 1 then (R_become n S (R_lastAwake n S).toNatClampNeg 0)
  else (upd (upd (S.1) 13 (R_lastAwake n S)) 14 (S.2 2 (R_lastAwake n S).toNatClampNeg), S.2)
theorem R_sink_sm (n : Nat) (S : rSt) : rSm S ((R_sink n S)) := by
  unfold R_sink
  repeat' split
  all_goals exact ⟨rfl, rfl⟩
theorem R_sink_ok (n : Nat) (S : rSt) (hok : rOk n S) : rOk n ((R_sink n S)) := rOk_of (R_sink_sm n S) hok
set_option maxHeartbeats 4000000 in
set_option maxRecDepth 100000 in
theorem c_X2_sink (l : Launch) (D : va_G) (cI cZ : ClassId) (a : Nat → Nat) (ha : (rL a).Nodup) (n : Nat) (S : rSt) (hok : rOk n S) : mV l yX2_sink wsX2_sink (rmz 3 71) D (rT cI cZ) (rL a) [.ref (a 0)] (rW cI cZ a S) (rW cI cZ a (R_sink n S)) := by
  intro sz
  refine Met.ofW (cc := cX2_sink) (maxL := 2) (ret := none) (by decide) rfl ?_
  intro p e s m args below meth c s₁ B hml hv
  obtain ⟨rfl, hsz, hP, hK⟩ := hv
  have hx := B.exec
  have hb := B.bytes
  have hr := B.returns
  have hts := atoms_spec (ws := wsX2_sink) B.pre
  have hin : ∀ w ∈ wsX20, w ∈ wsX2_sink := fun w h => List.mem_cons_of_mem _ (List.mem_append_right _ h)
  have hown : s.vm.findClass RX2 = some m.cls := findClass_of_methodNamed B.named
  have hlocks := B.notSynchronized
  have hn12 : n ≤ 12 := hok.2.1
  subst hsz
  have hS : va_S (wA (rL a) s.heap.size) s.heap s.heap [] := va_S.rf
  have hl := lv_entry ([.ref (a 0)]) (n := 2) (Nat.le_of_ble_eq_true rfl)
  rw [lg_entry_eq]
  generalize (lg_sl ([.ref (a 0)]) ++ List.replicate (2 - (lg_sl ([.ref (a 0)])).length) Slot.unset).toArray = ls at hl ⊢
  have hl : lv_has ls 2 [(0, .ref (a 0))] := hl
  refine lv_aload_n hx hb dX2_sink_0 rfl (lv_at hl 0 rfl) ?_
  refine m_callR (As := []) (rest := []) ⟨hx, hb, hml, hown, hts⟩ (c_X2_lastAwake l D cI cZ a ha n S hok ) (cwV 0 hts gX2_sink_X2_lastAwake rfl rfl rfl (by decide +kernel) ⟨Nat.le_of_ble_eq_true rfl, Nat.le_of_ble_eq_true rfl⟩) hK hP (va_recv hK hP (ci := 3) (q0 := 0) rfl rfl) rfl hl.1 rfl (Nat.le_of_ble_eq_true rfl) dX2_sink_1 ⟨Nat.zero_le _, Nat.zero_le _⟩ ?_
  rcases R_last_cases n S n with hq | ⟨d, hd, hq⟩
  · have hq : R_lastAwake n S = (-1) := hq
    rw [hq]
    refine lv_istore_n (lv' := [(1, .int ((-1))), (0, .ref (a 0))]) hx hb dX2_sink_4 rfl hl (by decide) rfl (fun ls hl => ?_)
    refine lv_iload_n hx hb dX2_sink_5 rfl (lv_at hl 0 rfl) ?_
    refine lv_if_ge (tgt := 27) hx hb dX2_sink_6 (by decide) (fun c1 => ?_) (fun c1 => ?_)
    · exact absurd c1 (by decide)
    · refine lv_aload_n hx hb dX2_sink_9 rfl (lv_at hl 1 rfl) ?_
      refine lv_iconst (v := 2) hx hb dX2_sink_10 (by decide) ?_
      refine r_put ha hx hb hts hin hown hK hP hS 12 (by decide) (by decide +kernel) ⟨rfl, rfl, rfl⟩ dX2_sink_11 (fun H locs hP hS => ?_)
      have hP : va_P D vwCl (rW cI cZ a (upd (S.1) 12 2, S.2)) H := hP
      refine lv_aload_n hx hb dX2_sink_14 rfl (lv_at hl 1 rfl) ?_
      refine lv_dup hx hb dX2_sink_15 rfl ?_
      refine r_get (S := (upd (S.1) 12 2, S.2)) (v := .int (S.1 21)) hx hb hts hin hown hK hP 21 (by decide) (by decide +kernel) rfl rfl dX2_sink_16 ?_
      refine lv_iconst (v := 1) hx hb dX2_sink_19 (by decide) ?_
      refine lv_iadd hx hb dX2_sink_20 ?_
      refine r_put ha hx hb hts hin hown hK hP hS 21 (by decide) (by decide +kernel) ⟨rfl, rfl, rfl⟩ dX2_sink_21 (fun H locs hP hS => ?_)
      have hP : va_P D vwCl (rW cI cZ a (upd (upd (S.1) 12 2) 21 ((S.1 21) + 1), S.2)) H := hP
      refine lv_goto (tgt := 61) hx hb dX2_sink_24 (by decide) ?_
      have hE : R_sink n S = (upd (upd (S.1) 12 2) 21 ((S.1 21) + 1), S.2) := by first | (simp only [R_sink, if_pos hq]; done) | (simp only [R_sink, if_pos hq]; rfl)
      exact W.vret hx hb hr (fun tt ht hW => ⟨⟨(), rfl, trivial, by rw [ht, hE]; exact hP, va_K.moved hW.alike hK⟩, hS.F ht⟩) hS.2.2 dX2_sink_61
  · have hq : R_lastAwake n S = nI d := hq
    rw [hq]
    have hne : ¬ nI d = (-1) := nI_nem (by omega)
    refine lv_istore_n (lv' := [(1, .int (nI d)), (0, .ref (a 0))]) hx hb dX2_sink_4 rfl hl (by decide) rfl (fun ls hl => ?_)
    refine lv_iload_n hx hb dX2_sink_5 rfl (lv_at hl 0 rfl) ?_
    refine lv_if_ge (tgt := 27) hx hb dX2_sink_6 (by decide) (fun c2 => ?_) (fun c2 => ?_)
    · refine lv_aload_n hx hb dX2_sink_27 rfl (lv_at hl 1 rfl) ?_
      refine r_get (S := S) (v := .ref (a 5)) hx hb hts hin hown hK hP 5 (by decide) (by decide +kernel) rfl rfl dX2_sink_28 ?_
      refine lv_iload_n hx hb dX2_sink_31 rfl (lv_at hl 0 rfl) ?_
      refine r_ald (S := S) (x := S.2 5 d) hx hb hK hP 5 (by decide) (j := d) (by omega) rfl dX2_sink_32 ?_
      refine lv_iconst (v := 1) hx hb dX2_sink_33 (by decide) ?_
      refine lv_icmp_ne (tgt := 46) hx hb dX2_sink_34 (by decide) (fun c3 => ?_) (fun c3 => ?_)
      · refine lv_aload_n hx hb dX2_sink_46 rfl (lv_at hl 1 rfl) ?_
        refine lv_iload_n hx hb dX2_sink_47 rfl (lv_at hl 0 rfl) ?_
        refine r_put ha hx hb hts hin hown hK hP hS 13 (by decide) (by decide +kernel) ⟨rfl, rfl, rfl⟩ dX2_sink_48 (fun H locs hP hS => ?_)
        have hP : va_P D vwCl (rW cI cZ a (upd (S.1) 13 (nI d), S.2)) H := hP
        refine lv_aload_n hx hb dX2_sink_51 rfl (lv_at hl 1 rfl) ?_
        refine lv_aload_n hx hb dX2_sink_52 rfl (lv_at hl 1 rfl) ?_
        refine r_get (S := (upd (S.1) 13 (nI d), S.2)) (v := .ref (a 2)) hx hb hts hin hown hK hP 2 (by decide) (by decide +kernel) rfl rfl dX2_sink_53 ?_
        refine lv_iload_n hx hb dX2_sink_56 rfl (lv_at hl 0 rfl) ?_
        refine r_ald (S := (upd (S.1) 13 (nI d), S.2)) (x := S.2 2 d) hx hb hK hP 2 (by decide) (j := d) (by omega) rfl dX2_sink_57 ?_
        refine r_put ha hx hb hts hin hown hK hP hS 14 (by decide) (by decide +kernel) ⟨rfl, rfl, rfl⟩ dX2_sink_58 (fun H locs hP hS => ?_)
        have hP : va_P D vwCl (rW cI cZ a (upd (upd (S.1) 13 (nI d)) 14 (S.2 2 d), S.2)) H := hP
        have hE : R_sink n S = (upd (upd (S.1) 13 (nI d)) 14 (S.2 2 d), S.2) := by first | (simp only [R_sink, if_neg hne, if_neg c3, hq, nI_clamp (n := d) (by omega)]; done) | (simp only [R_sink, if_neg hne, if_neg c3, hq, nI_clamp (n := d) (by omega)]; rfl)
        exact W.vret hx hb hr (fun tt ht hW => ⟨⟨(), rfl, trivial, by rw [ht, hE]; exact hP, va_K.moved hW.alike hK⟩, hS.F ht⟩) hS.2.2 dX2_sink_61
      · refine lv_aload_n hx hb dX2_sink_37 rfl (lv_at hl 1 rfl) ?_
        refine lv_iload_n hx hb dX2_sink_38 rfl (lv_at hl 0 rfl) ?_
        refine lv_iconst (v := 0) hx hb dX2_sink_39 (by decide) ?_
        refine m_callv (As := [.int (nI d), .int 0]) (rest := []) ⟨hx, hb, hml, hown, hts⟩ (c_X2_become l D cI cZ a ha n S hok d (by omega) 0) (cwV 2 hts gX2_sink_X2_become rfl rfl rfl (by decide +kernel) ⟨Nat.le_of_ble_eq_true rfl, Nat.le_of_ble_eq_true rfl⟩) hK hP hS (fun q h => wA_up hS.1 q h) (va_recv hK hP (ci := 3) (q0 := 0) rfl rfl) rfl hl.1 rfl (Nat.le_of_ble_eq_true rfl) dX2_sink_40 ⟨Nat.zero_le _, Nat.zero_le _⟩ (fun H locs hP hS _ => ?_)
        have hok : rOk n (R_become n S d 0) := R_become_ok n S d 0 hok
        refine lv_goto (tgt := 61) hx hb dX2_sink_43 (by decide) ?_
        have hE : R_sink n S = (R_become n S d 0) := by first | (simp only [R_sink, if_neg hne, if_pos c3, hq, nI_clamp (n := d) (by omega)]; done) | (simp only [R_sink, if_neg hne, if_pos c3, hq, nI_clamp (n := d) (by omega)]; rfl)
        exact W.vret hx hb hr (fun tt ht hW => ⟨⟨(), rfl, trivial, by rw [ht, hE]; exact hP, va_K.moved hW.alike hK⟩, hS.F ht⟩) hS.2.2 dX2_sink_61
    · exact absurd (nI_pos' (by omega)) c2

def R_rise (n : Nat) (S : rSt) : rSt :=
  if R_firstOff n S = (-1) then (upd (S.1) 12 0, S.2)
  else if S.2 6 (R_firstOff n S).toNatClampNeg = 1 then (R_become n S (R_firstOff n S).toNatClampNeg 1)
  else (upd (upd (S.1) 13 (R_firstOff n S)) 14 (S.2 3 (R_firstOff n S).toNatClampNeg), S.2)
theorem R_rise_sm (n : Nat) (S : rSt) : rSm S ((R_rise n S)) := by
  unfold R_rise
  repeat' split
  all_goals exact ⟨rfl, rfl⟩
theorem R_rise_ok (n : Nat) (S : rSt) (hok : rOk n S) : rOk n ((R_rise n S)) := rOk_of (R_rise_sm n S) hok
set_option maxHeartbeats 4000000 in
set_option maxRecDepth 100000 in
theorem c_X2_rise (l : Launch) (D : va_G) (cI cZ : ClassId) (a : Nat → Nat) (ha : (rL a).Nodup) (n : Nat) (S : rSt) (hok : rOk n S) : mV l yX2_rise wsX2_rise (rmz 3 71) D (rT cI cZ) (rL a) [.ref (a 0)] (rW cI cZ a S) (rW cI cZ a (R_rise n S)) := by
  intro sz
  refine Met.ofW (cc := cX2_rise) (maxL := 2) (ret := none) (by decide) rfl ?_
  intro p e s m args below meth c s₁ B hml hv
  obtain ⟨rfl, hsz, hP, hK⟩ := hv
  have hx := B.exec
  have hb := B.bytes
  have hr := B.returns
  have hts := atoms_spec (ws := wsX2_rise) B.pre
  have hin : ∀ w ∈ wsX20, w ∈ wsX2_rise := fun w h => List.mem_cons_of_mem _ (List.mem_append_right _ h)
  have hown : s.vm.findClass RX2 = some m.cls := findClass_of_methodNamed B.named
  have hlocks := B.notSynchronized
  have hn12 : n ≤ 12 := hok.2.1
  subst hsz
  have hS : va_S (wA (rL a) s.heap.size) s.heap s.heap [] := va_S.rf
  have hl := lv_entry ([.ref (a 0)]) (n := 2) (Nat.le_of_ble_eq_true rfl)
  rw [lg_entry_eq]
  generalize (lg_sl ([.ref (a 0)]) ++ List.replicate (2 - (lg_sl ([.ref (a 0)])).length) Slot.unset).toArray = ls at hl ⊢
  have hl : lv_has ls 2 [(0, .ref (a 0))] := hl
  refine lv_aload_n hx hb dX2_rise_0 rfl (lv_at hl 0 rfl) ?_
  refine m_callR (As := []) (rest := []) ⟨hx, hb, hml, hown, hts⟩ (c_X2_firstOff l D cI cZ a ha n S hok ) (cwV 0 hts gX2_rise_X2_firstOff rfl rfl rfl (by decide +kernel) ⟨Nat.le_of_ble_eq_true rfl, Nat.le_of_ble_eq_true rfl⟩) hK hP (va_recv hK hP (ci := 3) (q0 := 0) rfl rfl) rfl hl.1 rfl (Nat.le_of_ble_eq_true rfl) dX2_rise_1 ⟨Nat.zero_le _, Nat.zero_le _⟩ ?_
  rcases R_first_cases n S n with hq | ⟨d, hd, hq⟩
  · have hq : R_firstOff n S = (-1) := hq
    rw [hq]
    refine lv_istore_n (lv' := [(1, .int ((-1))), (0, .ref (a 0))]) hx hb dX2_rise_4 rfl hl (by decide) rfl (fun ls hl => ?_)
    refine lv_iload_n hx hb dX2_rise_5 rfl (lv_at hl 0 rfl) ?_
    refine lv_if_ge (tgt := 17) hx hb dX2_rise_6 (by decide) (fun c1 => ?_) (fun c1 => ?_)
    · exact absurd c1 (by decide)
    · refine lv_aload_n hx hb dX2_rise_9 rfl (lv_at hl 1 rfl) ?_
      refine lv_iconst (v := 0) hx hb dX2_rise_10 (by decide) ?_
      refine r_put ha hx hb hts hin hown hK hP hS 12 (by decide) (by decide +kernel) ⟨rfl, rfl, rfl⟩ dX2_rise_11 (fun H locs hP hS => ?_)
      have hP : va_P D vwCl (rW cI cZ a (upd (S.1) 12 0, S.2)) H := hP
      refine lv_goto (tgt := 51) hx hb dX2_rise_14 (by decide) ?_
      have hE : R_rise n S = (upd (S.1) 12 0, S.2) := by first | (simp only [R_rise, if_pos hq]; done) | (simp only [R_rise, if_pos hq]; rfl)
      exact W.vret hx hb hr (fun tt ht hW => ⟨⟨(), rfl, trivial, by rw [ht, hE]; exact hP, va_K.moved hW.alike hK⟩, hS.F ht⟩) hS.2.2 dX2_rise_51
  · have hq : R_firstOff n S = nI d := hq
    rw [hq]
    have hne : ¬ nI d = (-1) := nI_nem (by omega)
    refine lv_istore_n (lv' := [(1, .int (nI d)), (0, .ref (a 0))]) hx hb dX2_rise_4 rfl hl (by decide) rfl (fun ls hl => ?_)
    refine lv_iload_n hx hb dX2_rise_5 rfl (lv_at hl 0 rfl) ?_
    refine lv_if_ge (tgt := 17) hx hb dX2_rise_6 (by decide) (fun c2 => ?_) (fun c2 => ?_)
    · refine lv_aload_n hx hb dX2_rise_17 rfl (lv_at hl 1 rfl) ?_
      refine r_get (S := S) (v := .ref (a 6)) hx hb hts hin hown hK hP 6 (by decide) (by decide +kernel) rfl rfl dX2_rise_18 ?_
      refine lv_iload_n hx hb dX2_rise_21 rfl (lv_at hl 0 rfl) ?_
      refine r_ald (S := S) (x := S.2 6 d) hx hb hK hP 6 (by decide) (j := d) (by omega) rfl dX2_rise_22 ?_
      refine lv_iconst (v := 1) hx hb dX2_rise_23 (by decide) ?_
      refine lv_icmp_ne (tgt := 36) hx hb dX2_rise_24 (by decide) (fun c3 => ?_) (fun c3 => ?_)
      · refine lv_aload_n hx hb dX2_rise_36 rfl (lv_at hl 1 rfl) ?_
        refine lv_iload_n hx hb dX2_rise_37 rfl (lv_at hl 0 rfl) ?_
        refine r_put ha hx hb hts hin hown hK hP hS 13 (by decide) (by decide +kernel) ⟨rfl, rfl, rfl⟩ dX2_rise_38 (fun H locs hP hS => ?_)
        have hP : va_P D vwCl (rW cI cZ a (upd (S.1) 13 (nI d), S.2)) H := hP
        refine lv_aload_n hx hb dX2_rise_41 rfl (lv_at hl 1 rfl) ?_
        refine lv_aload_n hx hb dX2_rise_42 rfl (lv_at hl 1 rfl) ?_
        refine r_get (S := (upd (S.1) 13 (nI d), S.2)) (v := .ref (a 3)) hx hb hts hin hown hK hP 3 (by decide) (by decide +kernel) rfl rfl dX2_rise_43 ?_
        refine lv_iload_n hx hb dX2_rise_46 rfl (lv_at hl 0 rfl) ?_
        refine r_ald (S := (upd (S.1) 13 (nI d), S.2)) (x := S.2 3 d) hx hb hK hP 3 (by decide) (j := d) (by omega) rfl dX2_rise_47 ?_
        refine r_put ha hx hb hts hin hown hK hP hS 14 (by decide) (by decide +kernel) ⟨rfl, rfl, rfl⟩ dX2_rise_48 (fun H locs hP hS => ?_)
        have hP : va_P D vwCl (rW cI cZ a (upd (upd (S.1) 13 (nI d)) 14 (S.2 3 d), S.2)) H := hP
        have hE : R_rise n S = (upd (upd (S.1) 13 (nI d)) 14 (S.2 3 d), S.2) := by first | (simp only [R_rise, if_neg hne, if_neg c3, hq, nI_clamp (n := d) (by omega)]; done) | (simp only [R_rise, if_neg hne, if_neg c3, hq, nI_clamp (n := d) (by omega)]; rfl)
        exact W.vret hx hb hr (fun tt ht hW => ⟨⟨(), rfl, trivial, by rw [ht, hE]; exact hP, va_K.moved hW.alike hK⟩, hS.F ht⟩) hS.2.2 dX2_rise_51
      · refine lv_aload_n hx hb dX2_rise_27 rfl (lv_at hl 1 rfl) ?_
        refine lv_iload_n hx hb dX2_rise_28 rfl (lv_at hl 0 rfl) ?_
        refine lv_iconst (v := 1) hx hb dX2_rise_29 (by decide) ?_
        refine m_callv (As := [.int (nI d), .int 1]) (rest := []) ⟨hx, hb, hml, hown, hts⟩ (c_X2_become l D cI cZ a ha n S hok d (by omega) 1) (cwV 2 hts gX2_rise_X2_become rfl rfl rfl (by decide +kernel) ⟨Nat.le_of_ble_eq_true rfl, Nat.le_of_ble_eq_true rfl⟩) hK hP hS (fun q h => wA_up hS.1 q h) (va_recv hK hP (ci := 3) (q0 := 0) rfl rfl) rfl hl.1 rfl (Nat.le_of_ble_eq_true rfl) dX2_rise_30 ⟨Nat.zero_le _, Nat.zero_le _⟩ (fun H locs hP hS _ => ?_)
        have hok : rOk n (R_become n S d 1) := R_become_ok n S d 1 hok
        refine lv_goto (tgt := 51) hx hb dX2_rise_33 (by decide) ?_
        have hE : R_rise n S = (R_become n S d 1) := by first | (simp only [R_rise, if_neg hne, if_pos c3, hq, nI_clamp (n := d) (by omega)]; done) | (simp only [R_rise, if_neg hne, if_pos c3, hq, nI_clamp (n := d) (by omega)]; rfl)
        exact W.vret hx hb hr (fun tt ht hW => ⟨⟨(), rfl, trivial, by rw [ht, hE]; exact hP, va_K.moved hW.alike hK⟩, hS.F ht⟩) hS.2.2 dX2_rise_51
    · exact absurd (nI_pos' (by omega)) c2

def R_follow_w (n : Nat) : Nat → rSt → rSt
  | 0, S => S
  | f + 1, S => if 0 ≤ S.1 13 then S else if S.1 12 = 1 then R_follow_w n f (R_sink n S) else if S.1 12 ≤ 2 then S else R_follow_w n f (R_rise n S)
def R_follow (n : Nat) (S : rSt) : rSt := R_follow_w n 40 S
theorem R_follow_w_sm (n : Nat) : ∀ (f : Nat) (S : rSt), rSm S (R_follow_w n f S)
  | 0, S => rSm.rf
  | f + 1, S => by
    unfold R_follow_w
    repeat' split
    all_goals first | exact rSm.rf | exact (R_sink_sm n S).tr (R_follow_w_sm n f _) | exact (R_rise_sm n S).tr (R_follow_w_sm n f _)
theorem R_follow_sm (n : Nat) (S : rSt) : rSm S (R_follow n S) := R_follow_w_sm n 40 S
theorem R_follow_ok (n : Nat) (S : rSt) (hok : rOk n S) : rOk n (R_follow n S) := rOk_of (R_follow_sm n S) hok

set_option maxHeartbeats 4000000 in
set_option maxRecDepth 100000 in
theorem c_X2_follow (l : Launch) (D : va_G) (cI cZ : ClassId) (a : Nat → Nat) (ha : (rL a).Nodup) (n : Nat) (S : rSt) (hok : rOk n S) : mV l yX2_follow wsX2_follow (rmz 4 92) D (rT cI cZ) (rL a) [.ref (a 0)] (rW cI cZ a S) (rW cI cZ a (R_follow n S)) := by
  intro sz
  refine Met.ofW (cc := cX2_follow) (maxL := 2) (ret := none) (by decide) rfl ?_
  intro p e s m args below meth c s₁ B hml hv
  obtain ⟨rfl, hsz, hP, hK⟩ := hv
  have hx := B.exec
  have hb := B.bytes
  have hr := B.returns
  have hts := atoms_spec (ws := wsX2_follow) B.pre
  have hin : ∀ w ∈ wsX20, w ∈ wsX2_follow := fun w h => List.mem_cons_of_mem _ (List.mem_append_right _ h)
  have hown : s.vm.findClass RX2 = some m.cls := findClass_of_methodNamed B.named
  have hlocks := B.notSynchronized
  have hn12 : n ≤ 12 := hok.2.1
  subst hsz
  have hS : va_S (wA (rL a) s.heap.size) s.heap s.heap [] := va_S.rf
  have hl := lv_entry ([.ref (a 0)]) (n := 2) (Nat.le_of_ble_eq_true rfl)
  rw [lg_entry_eq]
  generalize (lg_sl ([.ref (a 0)]) ++ List.replicate (2 - (lg_sl ([.ref (a 0)])).length) Slot.unset).toArray = ls at hl ⊢
  have hl : lv_has ls 2 [(0, .ref (a 0))] := hl
  refine lv_iconst (v := 0) hx hb dX2_follow_0 (by decide) ?_
  refine lv_istore_n (lv' := [(1, .int 0), (0, .ref (a 0))]) hx hb dX2_follow_1 rfl hl (by decide) rfl (fun ls hl => ?_)
  refine w_loop (σ := Nat × rSt) (I := fun z H locs ls => z.1 ≤ 40 ∧ R_follow_w n z.1 z.2 = R_follow n S ∧ rOk n z.2 ∧ va_P D vwCl (rW cI cZ a z.2) H ∧ va_S (wA (rL a) s.heap.size) s.heap H locs ∧ lv_has ls 2 [(0, .ref (a 0)), (1, .int (nI (40 - z.1)))]) (fun z => z.1) ?_ (40, S) ⟨Nat.le_refl _, rfl, hok, hP, hS, lv_sub hl [1, 0] rfl⟩
  intro z H locs ls hI ih
  obtain ⟨f, Z⟩ := z
  dsimp only at hI
  obtain ⟨hf, hw, hok, hP, hS, hl⟩ := hI
  rcases f with _ | f
  · have hl : lv_has ls 2 [(0, .ref (a 0)), (1, .int 40)] := hl
    refine lv_iload_n hx hb dX2_follow_2 rfl (lv_at hl 1 rfl) ?_
    refine lv_bipush (v := 40) hx hb dX2_follow_3 (by decide) ?_
    refine lv_icmp_ge (tgt := 56) hx hb dX2_follow_5 (by decide) (fun c1 => ?_) (fun c1 => ?_)
    · have hE : R_follow n S = Z := by exact hw.symm
      exact W.vret hx hb hr (fun tt ht hW => ⟨⟨(), rfl, trivial, by rw [ht, hE]; exact hP, va_K.moved hW.alike hK⟩, hS.F ht⟩) hS.2.2 dX2_follow_56
    · exact absurd (by decide) c1
  · refine lv_iload_n hx hb dX2_follow_2 rfl (lv_at hl 1 rfl) ?_
    refine lv_bipush (v := 40) hx hb dX2_follow_3 (by decide) ?_
    refine lv_icmp_ge (tgt := 56) hx hb dX2_follow_5 (by decide) (fun c0 => ?_) (fun c0 => ?_)
    · exact absurd ((nI_leI (a := 40) (by omega) (by omega)).mp c0) (by omega)
    · refine lv_aload_n hx hb dX2_follow_8 rfl (lv_at hl 0 rfl) ?_
      refine r_get (S := Z) (v := .int (Z.1 13)) hx hb hts hin hown hK hP 13 (by decide) (by decide +kernel) rfl rfl dX2_follow_9 ?_
      refine lv_if_ge (tgt := 56) hx hb dX2_follow_12 (by decide) (fun c2 => ?_) (fun c2 => ?_)
      · have hE : R_follow n S = Z := by rw [← hw]; first | (simp only [R_follow_w, if_pos c2]; done) | (simp only [R_follow_w, if_pos c2]; rfl)
        exact W.vret hx hb hr (fun tt ht hW => ⟨⟨(), rfl, trivial, by rw [ht, hE]; exact hP, va_K.moved hW.alike hK⟩, hS.F ht⟩) hS.2.2 dX2_follow_56
      · refine lv_aload_n hx hb dX2_follow_15 rfl (lv_at hl 0 rfl) ?_
        refine r_get (S := Z) (v := .int (Z.1 12)) hx hb hts hin hown hK hP 12 (by decide) (by decide +kernel) rfl rfl dX2_follow_16 ?_
        refine lv_iconst (v := 1) hx hb dX2_follow_19 (by decide) ?_
        refine lv_icmp_eq (tgt := 31) hx hb dX2_follow_20 (by decide) (fun c3 => ?_) (fun c3 => ?_)
        · refine lv_aload_n hx hb dX2_follow_31 rfl (lv_at hl 0 rfl) ?_
          refine r_get (S := Z) (v := .int (Z.1 12)) hx hb hts hin hown hK hP 12 (by decide) (by decide +kernel) rfl rfl dX2_follow_32 ?_
          refine lv_iconst (v := 1) hx hb dX2_follow_35 (by decide) ?_
          refine lv_icmp_ne (tgt := 46) hx hb dX2_follow_36 (by decide) (fun c4 => ?_) (fun c4 => ?_)
          · exact absurd c3 c4
          · refine lv_aload_n hx hb dX2_follow_39 rfl (lv_at hl 0 rfl) ?_
            refine m_callv (As := []) (rest := []) ⟨hx, hb, hml, hown, hts⟩ (c_X2_sink l D cI cZ a ha n Z hok ) (cwV 0 hts gX2_follow_X2_sink rfl rfl rfl (by decide +kernel) ⟨Nat.le_of_ble_eq_true rfl, Nat.le_of_ble_eq_true rfl⟩) hK hP hS (fun q h => wA_up hS.1 q h) (va_recv hK hP (ci := 3) (q0 := 0) rfl rfl) rfl hl.1 rfl (Nat.le_of_ble_eq_true rfl) dX2_follow_40 ⟨Nat.zero_le _, Nat.zero_le _⟩ (fun H locs hP hS _ => ?_)
            have hok : rOk n (R_sink n Z) := R_sink_ok n Z hok
            refine lv_goto (tgt := 50) hx hb dX2_follow_43 (by decide) ?_
            refine lv_iinc (v := nI ((40 - (f + 1)) + 1)) (lv' := [(1, .int (nI ((40 - (f + 1)) + 1))), (0, .ref (a 0))]) hx hb dX2_follow_50 hl (k := 1) rfl (nI_1 _) (by decide) rfl (fun ls hl => ?_)
            refine lv_goto (tgt := 2) hx hb dX2_follow_53 (by decide) ?_
            exact ih (f, (R_sink n Z)) H locs ls (Nat.lt_succ_self f) ⟨by omega, by rw [← hw]; first | (simp only [R_follow_w, if_neg c2, if_pos c3]; done) | (simp only [R_follow_w, if_neg c2, if_pos c3]; rfl), hok, hP, hS, by show lv_has ls 2 [(0, .ref (a 0)), (1, .int (nI (40 - f)))]; rw [show 40 - f = 40 - (f + 1) + 1 by omega]; exact lv_sub hl [1, 0] rfl⟩
        · refine lv_aload_n hx hb dX2_follow_23 rfl (lv_at hl 0 rfl) ?_
          refine r_get (S := Z) (v := .int (Z.1 12)) hx hb hts hin hown hK hP 12 (by decide) (by decide +kernel) rfl rfl dX2_follow_24 ?_
          refine lv_iconst (v := 2) hx hb dX2_follow_27 (by decide) ?_
          refine lv_icmp_le (tgt := 56) hx hb dX2_follow_28 (by decide) (fun c5 => ?_) (fun c5 => ?_)
          · have hE : R_follow n S = Z := by rw [← hw]; first | (simp only [R_follow_w, if_neg c2, if_neg c3, if_pos c5]; done) | (simp only [R_follow_w, if_neg c2, if_neg c3, if_pos c5]; rfl)
            exact W.vret hx hb hr (fun tt ht hW => ⟨⟨(), rfl, trivial, by rw [ht, hE]; exact hP, va_K.moved hW.alike hK⟩, hS.F ht⟩) hS.2.2 dX2_follow_56
          · refine lv_aload_n hx hb dX2_follow_31 rfl (lv_at hl 0 rfl) ?_
            refine r_get (S := Z) (v := .int (Z.1 12)) hx hb hts hin hown hK hP 12 (by decide) (by decide +kernel) rfl rfl dX2_follow_32 ?_
            refine lv_iconst (v := 1) hx hb dX2_follow_35 (by decide) ?_
            refine lv_icmp_ne (tgt := 46) hx hb dX2_follow_36 (by decide) (fun c6 => ?_) (fun c6 => ?_)
            · refine lv_aload_n hx hb dX2_follow_46 rfl (lv_at hl 0 rfl) ?_
              refine m_callv (As := []) (rest := []) ⟨hx, hb, hml, hown, hts⟩ (c_X2_rise l D cI cZ a ha n Z hok ) (cwV 0 hts gX2_follow_X2_rise rfl rfl rfl (by decide +kernel) ⟨Nat.le_of_ble_eq_true rfl, Nat.le_of_ble_eq_true rfl⟩) hK hP hS (fun q h => wA_up hS.1 q h) (va_recv hK hP (ci := 3) (q0 := 0) rfl rfl) rfl hl.1 rfl (Nat.le_of_ble_eq_true rfl) dX2_follow_47 ⟨Nat.zero_le _, Nat.zero_le _⟩ (fun H locs hP hS _ => ?_)
              have hok : rOk n (R_rise n Z) := R_rise_ok n Z hok
              refine lv_iinc (v := nI ((40 - (f + 1)) + 1)) (lv' := [(1, .int (nI ((40 - (f + 1)) + 1))), (0, .ref (a 0))]) hx hb dX2_follow_50 hl (k := 1) rfl (nI_1 _) (by decide) rfl (fun ls hl => ?_)
              refine lv_goto (tgt := 2) hx hb dX2_follow_53 (by decide) ?_
              exact ih (f, (R_rise n Z)) H locs ls (Nat.lt_succ_self f) ⟨by omega, by rw [← hw]; first | (simp only [R_follow_w, if_neg c2, if_neg c3, if_neg c5]; done) | (simp only [R_follow_w, if_neg c2, if_neg c3, if_neg c5]; rfl), hok, hP, hS, by show lv_has ls 2 [(0, .ref (a 0)), (1, .int (nI (40 - f)))]; rw [show 40 - f = 40 - (f + 1) + 1 by omega]; exact lv_sub hl [1, 0] rfl⟩
            · exact absurd c6 c3
end
section
def R_sleep_b (k2 : Nat) (Z : rSt) : rSt :=
  (Z.1, up2 (Z.2) 6 k2 (Z.2 5 k2))
theorem R_sleep_b_sm (k2 : Nat) (Z : rSt) : rSm Z (R_sleep_b k2 Z) := by
  unfold R_sleep_b
  exact (show rSm Z (Z.1, up2 (Z.2) 6 k2 (Z.2 5 k2)) from ⟨rfl, rfl⟩)
def R_sleep_it (n : Nat) (S : rSt) : Nat → rSt
  | 0 => S
  | k2 + 1 => R_sleep_b k2 (R_sleep_it n S k2)
theorem R_sleep_it_sm (n : Nat) (S : rSt) : ∀ k, rSm S (R_sleep_it n S k)
  | 0 => rSm.rf
  | k + 1 => (R_sleep_it_sm n S k).tr (R_sleep_b_sm  k _)
theorem R_sleep_it_ok (n : Nat) (S : rSt) (k : Nat) (hok : rOk n S) : rOk n (R_sleep_it n S k) := rOk_of (R_sleep_it_sm n S k) hok
def R_sleep (n : Nat) (S : rSt) : Int32 × rSt :=
  if S.1 12 = 0 then ((R_follow n (upd ((R_sleep_it n S n).1) 12 1, (R_sleep_it n S n).2)).1 12, (R_follow n (upd ((R_sleep_it n S n).1) 12 1, (R_sleep_it n S n).2)))
  else ((-3), S)
theorem R_sleep_sm (n : Nat) (S : rSt) : rSm S (R_sleep n S).2 := by
  unfold R_sleep
  split
  · exact ((R_sleep_it_sm n S n).tr (show rSm (R_sleep_it n S n) (upd ((R_sleep_it n S n).1) 12 1, (R_sleep_it n S n).2) from ⟨rfl, rfl⟩)).tr (R_follow_sm n (upd ((R_sleep_it n S n).1) 12 1, (R_sleep_it n S n).2))
  · exact rSm.rf
theorem R_sleep_ok (n : Nat) (S : rSt) (hok : rOk n S) : rOk n (R_sleep n S).2 := rOk_of (R_sleep_sm n S) hok
set_option maxHeartbeats 4000000 in
set_option maxRecDepth 100000 in
theorem c_X2_sleep (l : Launch) (D : va_G) (cI cZ : ClassId) (a : Nat → Nat) (ha : (rL a).Nodup) (n : Nat) (S : rSt) (hok : rOk n S) : mI l yX2_sleep wsX2_sleep (rmz 5 113) D (rT cI cZ) (rL a) [.ref (a 0)] (rW cI cZ a S) (R_sleep n S).1 (rW cI cZ a (R_sleep n S).2) := by
  intro sz
  refine Met.ofW (cc := cX2_sleep) (maxL := 2) (ret := (some .int)) (by decide) rfl ?_
  intro p e s m args below meth c s₁ B hml hv
  obtain ⟨rfl, hsz, hP, hK⟩ := hv
  have hx := B.exec
  have hb := B.bytes
  have hr := B.returns
  have hts := atoms_spec (ws := wsX2_sleep) B.pre
  have hin : ∀ w ∈ wsX20, w ∈ wsX2_sleep := fun w h => List.mem_cons_of_mem _ (List.mem_append_right _ h)
  have hown : s.vm.findClass RX2 = some m.cls := findClass_of_methodNamed B.named
  have hlocks := B.notSynchronized
  have hn12 : n ≤ 12 := hok.2.1
  subst hsz
  have hS : va_S (wA (rL a) s.heap.size) s.heap s.heap [] := va_S.rf
  have hl := lv_entry ([.ref (a 0)]) (n := 2) (Nat.le_of_ble_eq_true rfl)
  rw [lg_entry_eq]
  generalize (lg_sl ([.ref (a 0)]) ++ List.replicate (2 - (lg_sl ([.ref (a 0)])).length) Slot.unset).toArray = ls at hl ⊢
  have hl : lv_has ls 2 [(0, .ref (a 0))] := hl
  have hok0 := hok
  refine lv_aload_n hx hb dX2_sleep_0 rfl (lv_at hl 0 rfl) ?_
  refine r_get (S := S) (v := .int (S.1 12)) hx hb hts hin hown hK hP 12 (by decide) (by decide +kernel) rfl rfl dX2_sleep_1 ?_
  refine lv_if_eq (tgt := 10) hx hb dX2_sleep_4 (by decide) (fun c1 => ?_) (fun c1 => ?_)
  · refine lv_iconst (v := 0) hx hb dX2_sleep_10 (by decide) ?_
    refine lv_istore_n (lv' := [(1, .int 0), (0, .ref (a 0))]) hx hb dX2_sleep_11 rfl hl (by decide) rfl (fun ls hl => ?_)
    refine w_loop (σ := Nat) (I := fun k2 H locs ls => k2 ≤ n ∧ va_P D vwCl (rW cI cZ a (R_sleep_it n S k2)) H ∧ va_S (wA (rL a) s.heap.size) s.heap H locs ∧ lv_has ls 2 [(0, .ref (a 0)), (1, .int (nI k2))]) (fun k2 => n - k2) ?_ 0 ⟨Nat.zero_le _, hP, hS, lv_sub hl [1, 0] rfl⟩
    intro k2 H locs ls hI ih
    obtain ⟨hk, hP, hS, hl⟩ := hI
    have hok : rOk n (R_sleep_it n S k2) := R_sleep_it_ok n S k2 hok0
    refine lv_iload_n hx hb dX2_sleep_12 rfl (lv_at hl 1 rfl) ?_
    refine lv_aload_n hx hb dX2_sleep_13 rfl (lv_at hl 0 rfl) ?_
    refine r_get (S := (R_sleep_it n S k2)) (v := .int (nI n)) hx hb hts hin hown hK hP 0 (by decide) (by decide +kernel) rfl (congrArg (fun z => some (Value.int z)) hok.1) dX2_sleep_14 ?_
    refine lv_icmp_ge (tgt := 38) hx hb dX2_sleep_17 (by decide) (fun c3 => ?_) (fun c3 => ?_)
    · have hkn : k2 = n := Nat.le_antisymm hk ((nI_leI (by omega) (by omega)).mp c3)
      rw [hkn] at hP hl
      have hok : rOk n (R_sleep_it n S n) := R_sleep_it_ok n S n hok0
      refine lv_aload_n hx hb dX2_sleep_38 rfl (lv_at hl 0 rfl) ?_
      refine lv_iconst (v := 1) hx hb dX2_sleep_39 (by decide) ?_
      refine r_put ha hx hb hts hin hown hK hP hS 12 (by decide) (by decide +kernel) ⟨rfl, rfl, rfl⟩ dX2_sleep_40 (fun H locs hP hS => ?_)
      have hP : va_P D vwCl (rW cI cZ a (upd ((R_sleep_it n S n).1) 12 1, (R_sleep_it n S n).2)) H := hP
      refine lv_aload_n hx hb dX2_sleep_43 rfl (lv_at hl 0 rfl) ?_
      refine m_callv (As := []) (rest := []) ⟨hx, hb, hml, hown, hts⟩ (c_X2_follow l D cI cZ a ha n (upd ((R_sleep_it n S n).1) 12 1, (R_sleep_it n S n).2) hok ) (cwV 0 hts gX2_sleep_X2_follow rfl rfl rfl (by decide +kernel) ⟨Nat.le_of_ble_eq_true rfl, Nat.le_of_ble_eq_true rfl⟩) hK hP hS (fun q h => wA_up hS.1 q h) (va_recv hK hP (ci := 3) (q0 := 0) rfl rfl) rfl hl.1 rfl (Nat.le_of_ble_eq_true rfl) dX2_sleep_44 ⟨Nat.zero_le _, Nat.zero_le _⟩ (fun H locs hP hS _ => ?_)
      have hok : rOk n (R_follow n (upd ((R_sleep_it n S n).1) 12 1, (R_sleep_it n S n).2)) := R_follow_ok n (upd ((R_sleep_it n S n).1) 12 1, (R_sleep_it n S n).2) hok
      refine lv_aload_n hx hb dX2_sleep_47 rfl (lv_at hl 0 rfl) ?_
      refine r_get (S := (R_follow n (upd ((R_sleep_it n S n).1) 12 1, (R_sleep_it n S n).2))) (v := .int ((R_follow n (upd ((R_sleep_it n S n).1) 12 1, (R_sleep_it n S n).2)).1 12)) hx hb hts hin hown hK hP 12 (by decide) (by decide +kernel) rfl rfl dX2_sleep_48 ?_
      have hE : R_sleep n S = ((R_follow n (upd ((R_sleep_it n S n).1) 12 1, (R_sleep_it n S n).2)).1 12, (R_follow n (upd ((R_sleep_it n S n).1) 12 1, (R_sleep_it n S n).2))) := by first | (simp only [R_sleep, if_pos c1]; done) | (simp only [R_sleep, if_pos c1]; rfl)
      exact W.iret (v := (R_follow n (upd ((R_sleep_it n S n).1) 12 1, (R_sleep_it n S n).2)).1 12) hx hb hr (fun tt ht hW => ⟨⟨(R_follow n (upd ((R_sleep_it n S n).1) 12 1, (R_sleep_it n S n).2)).1 12, (), rfl, by rw [hE], by rw [ht, hE]; exact hP, va_K.moved hW.alike hK⟩, hS.F ht⟩) hS.2.2 dX2_sleep_51
    · have hlt : k2 < n := Nat.lt_of_not_le (fun z => c3 ((nI_leI (by omega) (by omega)).mpr z))
      refine lv_aload_n hx hb dX2_sleep_20 rfl (lv_at hl 0 rfl) ?_
      refine r_get (S := (R_sleep_it n S k2)) (v := .ref (a 6)) hx hb hts hin hown hK hP 6 (by decide) (by decide +kernel) rfl rfl dX2_sleep_21 ?_
      refine lv_iload_n hx hb dX2_sleep_24 rfl (lv_at hl 1 rfl) ?_
      refine lv_aload_n hx hb dX2_sleep_25 rfl (lv_at hl 0 rfl) ?_
      refine r_get (S := (R_sleep_it n S k2)) (v := .ref (a 5)) hx hb hts hin hown hK hP 5 (by decide) (by decide +kernel) rfl rfl dX2_sleep_26 ?_
      refine lv_iload_n hx hb dX2_sleep_29 rfl (lv_at hl 1 rfl) ?_
      refine r_ald (S := (R_sleep_it n S k2)) (x := (R_sleep_it n S k2).2 5 k2) hx hb hK hP 5 (by decide) (j := k2) (by omega) rfl dX2_sleep_30 ?_
      refine r_ast ha hx hb hK hP hS 6 (by decide) (j := k2) (by omega) dX2_sleep_31 (fun H locs hP hS => ?_)
      have hP : va_P D vwCl (rW cI cZ a ((R_sleep_it n S k2).1, up2 ((R_sleep_it n S k2).2) 6 k2 ((R_sleep_it n S k2).2 5 k2))) H := hP
      refine lv_iinc (v := nI (k2 + 1)) (lv' := [(1, .int (nI (k2 + 1))), (0, .ref (a 0))]) hx hb dX2_sleep_32 hl (k := 1) rfl (nI_1 _) (by decide) rfl (fun ls hl => ?_)
      refine lv_goto (tgt := 12) hx hb dX2_sleep_35 (by decide) ?_
      have hE : R_sleep_it n S (k2 + 1) = ((R_sleep_it n S k2).1, up2 ((R_sleep_it n S k2).2) 6 k2 ((R_sleep_it n S k2).2 5 k2)) := by show R_sleep_b k2 (R_sleep_it n S k2) = _; first | (simp only [R_sleep_b]; done) | (simp only [R_sleep_b]; rfl)
      exact ih (k2 + 1) H locs ls (by omega) ⟨by omega, by rw [hE]; exact hP, hS, by exact lv_sub hl [1, 0] rfl⟩
  · refine lv_bipush (v := (-3)) hx hb dX2_sleep_7 (by decide) ?_
    have hE : R_sleep n S = ((-3), S) := by first | (simp only [R_sleep, if_neg c1]; done) | (simp only [R_sleep, if_neg c1]; rfl)
    exact W.iret (v := (-3)) hx hb hr (fun tt ht hW => ⟨⟨(-3), (), rfl, by rw [hE], by rw [ht, hE]; exact hP, va_K.moved hW.alike hK⟩, hS.F ht⟩) hS.2.2 dX2_sleep_9

def R_signal (n : Nat) (S : rSt) (d : Int32) : Int32 × rSt :=
  if inR n d = true then (if S.2 10 (d.toNatClampNeg) = 0 then (0, S)
    else if S.1 12 = 1 then (if S.1 12 = 2 then (1, (R_follow n (upd (S.1) 12 3, S.2)))
      else (1, (R_follow n (R_giveUp n S 2 d))))
    else if S.1 12 = 2 then (1, (R_follow n (upd (S.1) 12 3, S.2)))
    else (0, S))
  else ((-2), S)
theorem R_signal_sm (n : Nat) (S : rSt) (d : Int32) : rSm S (R_signal n S d).2 := by
  unfold R_signal
  split
  · split
    · exact rSm.rf
    · split
      · split
        · exact ((show rSm S (upd (S.1) 12 3, S.2) from ⟨rfl, rfl⟩)).tr (R_follow_sm n (upd (S.1) 12 3, S.2))
        · exact ((R_giveUp_sm n S 2 d)).tr (R_follow_sm n (R_giveUp n S 2 d))
      · split
        · exact ((show rSm S (upd (S.1) 12 3, S.2) from ⟨rfl, rfl⟩)).tr (R_follow_sm n (upd (S.1) 12 3, S.2))
        · exact rSm.rf
  · exact rSm.rf
theorem R_signal_ok (n : Nat) (S : rSt) (d : Int32) (hok : rOk n S) : rOk n (R_signal n S d).2 := rOk_of (R_signal_sm n S d) hok
set_option maxHeartbeats 4000000 in
set_option maxRecDepth 100000 in
theorem c_X2_signal (l : Launch) (D : va_G) (cI cZ : ClassId) (a : Nat → Nat) (ha : (rL a).Nodup) (n : Nat) (S : rSt) (hok : rOk n S) (d : Int32) : mI l yX2_signal wsX2_signal (rmz 5 113) D (rT cI cZ) (rL a) [.ref (a 0), .int d] (rW cI cZ a S) (R_signal n S d).1 (rW cI cZ a (R_signal n S d).2) := by
  intro sz
  refine Met.ofW (cc := cX2_signal) (maxL := 3) (ret := (some .int)) (by decide) rfl ?_
  intro p e s m args below meth c s₁ B hml hv
  obtain ⟨rfl, hsz, hP, hK⟩ := hv
  have hx := B.exec
  have hb := B.bytes
  have hr := B.returns
  have hts := atoms_spec (ws := wsX2_signal) B.pre
  have hin : ∀ w ∈ wsX20, w ∈ wsX2_signal := fun w h => List.mem_cons_of_mem _ (List.mem_append_right _ h)
  have hown : s.vm.findClass RX2 = some m.cls := findClass_of_methodNamed B.named
  have hlocks := B.notSynchronized
  have hn12 : n ≤ 12 := hok.2.1
  subst hsz
  have hS : va_S (wA (rL a) s.heap.size) s.heap s.heap [] := va_S.rf
  have hl := lv_entry ([.ref (a 0), .int d]) (n := 3) (Nat.le_of_ble_eq_true rfl)
  rw [lg_entry_eq]
  generalize (lg_sl ([.ref (a 0), .int d]) ++ List.replicate (3 - (lg_sl ([.ref (a 0), .int d])).length) Slot.unset).toArray = ls at hl ⊢
  have hl : lv_has ls 3 [(0, .ref (a 0)), (1, .int d)] := hl
  refine lv_aload_n hx hb dX2_signal_0 rfl (lv_at hl 0 rfl) ?_
  refine lv_iload_n hx hb dX2_signal_1 rfl (lv_at hl 1 rfl) ?_
  refine m_callR (As := [.int d]) (rest := []) ⟨hx, hb, hml, hown, hts⟩ (c_X2_none l D cI cZ a ha n S hok d) (cwV 1 hts gX2_signal_X2_none rfl rfl rfl (by decide +kernel) ⟨Nat.le_of_ble_eq_true rfl, Nat.le_of_ble_eq_true rfl⟩) hK hP (va_recv hK hP (ci := 3) (q0 := 0) rfl rfl) rfl hl.1 rfl (Nat.le_of_ble_eq_true rfl) dX2_signal_2 ⟨Nat.zero_le _, Nat.zero_le _⟩ ?_
  by_cases hd : inR n d = true
  · obtain ⟨j, hj, rfl⟩ := inR_spec hn12 hd
    have hjc : (nI j).toNatClampNeg = j := nI_clamp (by omega)
    have hN : R_none n S (nI j) = 0 := if_pos hd
    rw [hN]
    refine lv_if_eq (tgt := 11) hx hb dX2_signal_5 (by decide) (fun c1 => ?_) (fun c1 => ?_)
    · refine lv_aload_n hx hb dX2_signal_11 rfl (lv_at hl 0 rfl) ?_
      refine r_get (S := S) (v := .ref (a 10)) hx hb hts hin hown hK hP 10 (by decide) (by decide +kernel) rfl rfl dX2_signal_12 ?_
      refine lv_iload_n hx hb dX2_signal_15 rfl (lv_at hl 1 rfl) ?_
      refine r_zald (S := S) (x := S.2 10 j) hx hb hK hP 10 (by decide) (j := j) (by omega) rfl dX2_signal_16 ?_
      refine lv_if_eq (tgt := 40) hx hb dX2_signal_17 (by decide) (fun c2 => ?_) (fun c2 => ?_)
      · refine lv_iconst (v := 0) hx hb dX2_signal_40 (by decide) ?_
        refine lv_istore_n (lv' := [(2, .int 0), (0, .ref (a 0)), (1, .int (nI j))]) hx hb dX2_signal_41 rfl hl (by decide) rfl (fun ls hl => ?_)
        refine lv_iload_n hx hb dX2_signal_42 rfl (lv_at hl 0 rfl) ?_
        refine lv_if_ne (tgt := 48) hx hb dX2_signal_43 (by decide) (fun c3 => ?_) (fun c3 => ?_)
        · exact absurd (by decide) c3
        · refine lv_iconst (v := 0) hx hb dX2_signal_46 (by decide) ?_
          have hE : R_signal n S (nI j) = (0, S) := by first | (simp only [R_signal, if_pos hd, if_pos c2, hjc]; done) | (simp only [R_signal, if_pos hd, if_pos c2, hjc]; rfl)
          exact W.iret (v := 0) hx hb hr (fun tt ht hW => ⟨⟨0, (), rfl, by rw [hE], by rw [ht, hE]; exact hP, va_K.moved hW.alike hK⟩, hS.F ht⟩) hS.2.2 dX2_signal_47
      · refine lv_aload_n hx hb dX2_signal_20 rfl (lv_at hl 0 rfl) ?_
        refine r_get (S := S) (v := .int (S.1 12)) hx hb hts hin hown hK hP 12 (by decide) (by decide +kernel) rfl rfl dX2_signal_21 ?_
        refine lv_iconst (v := 1) hx hb dX2_signal_24 (by decide) ?_
        refine lv_icmp_eq (tgt := 36) hx hb dX2_signal_25 (by decide) (fun c4 => ?_) (fun c4 => ?_)
        · refine lv_iconst (v := 1) hx hb dX2_signal_36 (by decide) ?_
          refine lv_goto (tgt := 41) hx hb dX2_signal_37 (by decide) ?_
          refine lv_istore_n (lv' := [(2, .int 1), (0, .ref (a 0)), (1, .int (nI j))]) hx hb dX2_signal_41 rfl hl (by decide) rfl (fun ls hl => ?_)
          refine lv_iload_n hx hb dX2_signal_42 rfl (lv_at hl 0 rfl) ?_
          refine lv_if_ne (tgt := 48) hx hb dX2_signal_43 (by decide) (fun c5 => ?_) (fun c5 => ?_)
          · refine lv_aload_n hx hb dX2_signal_48 rfl (lv_at hl 1 rfl) ?_
            refine r_get (S := S) (v := .int (S.1 12)) hx hb hts hin hown hK hP 12 (by decide) (by decide +kernel) rfl rfl dX2_signal_49 ?_
            refine lv_iconst (v := 2) hx hb dX2_signal_52 (by decide) ?_
            refine lv_icmp_ne (tgt := 64) hx hb dX2_signal_53 (by decide) (fun c6 => ?_) (fun c6 => ?_)
            · refine lv_aload_n hx hb dX2_signal_64 rfl (lv_at hl 1 rfl) ?_
              refine lv_iconst (v := 2) hx hb dX2_signal_65 (by decide) ?_
              refine lv_iload_n hx hb dX2_signal_66 rfl (lv_at hl 2 rfl) ?_
              refine m_callv (As := [.int 2, .int (nI j)]) (rest := []) ⟨hx, hb, hml, hown, hts⟩ (c_X2_giveUp l D cI cZ a ha n S hok 2 (nI j)) (cwV 2 hts gX2_signal_X2_giveUp rfl rfl rfl (by decide +kernel) ⟨Nat.le_of_ble_eq_true rfl, Nat.le_of_ble_eq_true rfl⟩) hK hP hS (fun q h => wA_up hS.1 q h) (va_recv hK hP (ci := 3) (q0 := 0) rfl rfl) rfl hl.1 rfl (Nat.le_of_ble_eq_true rfl) dX2_signal_67 ⟨Nat.zero_le _, Nat.zero_le _⟩ (fun H locs hP hS _ => ?_)
              have hok : rOk n (R_giveUp n S 2 (nI j)) := R_giveUp_ok n S 2 (nI j) hok
              refine lv_aload_n hx hb dX2_signal_70 rfl (lv_at hl 1 rfl) ?_
              refine m_callv (As := []) (rest := []) ⟨hx, hb, hml, hown, hts⟩ (c_X2_follow l D cI cZ a ha n (R_giveUp n S 2 (nI j)) hok ) (cwV 0 hts gX2_signal_X2_follow rfl rfl rfl (by decide +kernel) ⟨Nat.le_of_ble_eq_true rfl, Nat.le_of_ble_eq_true rfl⟩) hK hP hS (fun q h => wA_up hS.1 q h) (va_recv hK hP (ci := 3) (q0 := 0) rfl rfl) rfl hl.1 rfl (Nat.le_of_ble_eq_true rfl) dX2_signal_71 ⟨Nat.zero_le _, Nat.zero_le _⟩ (fun H locs hP hS _ => ?_)
              have hok : rOk n (R_follow n (R_giveUp n S 2 (nI j))) := R_follow_ok n (R_giveUp n S 2 (nI j)) hok
              refine lv_iconst (v := 1) hx hb dX2_signal_74 (by decide) ?_
              have hE : R_signal n S (nI j) = (1, (R_follow n (R_giveUp n S 2 (nI j)))) := by first | (simp only [R_signal, if_pos hd, if_neg c2, if_pos c4, if_neg c6, hjc]; done) | (simp only [R_signal, if_pos hd, if_neg c2, if_pos c4, if_neg c6, hjc]; rfl)
              exact W.iret (v := 1) hx hb hr (fun tt ht hW => ⟨⟨1, (), rfl, by rw [hE], by rw [ht, hE]; exact hP, va_K.moved hW.alike hK⟩, hS.F ht⟩) hS.2.2 dX2_signal_75
            · refine lv_aload_n hx hb dX2_signal_56 rfl (lv_at hl 1 rfl) ?_
              refine lv_iconst (v := 3) hx hb dX2_signal_57 (by decide) ?_
              refine r_put ha hx hb hts hin hown hK hP hS 12 (by decide) (by decide +kernel) ⟨rfl, rfl, rfl⟩ dX2_signal_58 (fun H locs hP hS => ?_)
              have hP : va_P D vwCl (rW cI cZ a (upd (S.1) 12 3, S.2)) H := hP
              refine lv_goto (tgt := 70) hx hb dX2_signal_61 (by decide) ?_
              refine lv_aload_n hx hb dX2_signal_70 rfl (lv_at hl 1 rfl) ?_
              refine m_callv (As := []) (rest := []) ⟨hx, hb, hml, hown, hts⟩ (c_X2_follow l D cI cZ a ha n (upd (S.1) 12 3, S.2) hok ) (cwV 0 hts gX2_signal_X2_follow rfl rfl rfl (by decide +kernel) ⟨Nat.le_of_ble_eq_true rfl, Nat.le_of_ble_eq_true rfl⟩) hK hP hS (fun q h => wA_up hS.1 q h) (va_recv hK hP (ci := 3) (q0 := 0) rfl rfl) rfl hl.1 rfl (Nat.le_of_ble_eq_true rfl) dX2_signal_71 ⟨Nat.zero_le _, Nat.zero_le _⟩ (fun H locs hP hS _ => ?_)
              have hok : rOk n (R_follow n (upd (S.1) 12 3, S.2)) := R_follow_ok n (upd (S.1) 12 3, S.2) hok
              refine lv_iconst (v := 1) hx hb dX2_signal_74 (by decide) ?_
              have hE : R_signal n S (nI j) = (1, (R_follow n (upd (S.1) 12 3, S.2))) := by first | (simp only [R_signal, if_pos hd, if_neg c2, if_pos c4, if_pos c6, hjc]; done) | (simp only [R_signal, if_pos hd, if_neg c2, if_pos c4, if_pos c6, hjc]; rfl)
              exact W.iret (v := 1) hx hb hr (fun tt ht hW => ⟨⟨1, (), rfl, by rw [hE], by rw [ht, hE]; exact hP, va_K.moved hW.alike hK⟩, hS.F ht⟩) hS.2.2 dX2_signal_75
          · exact absurd c5 (by decide)
        · refine lv_aload_n hx hb dX2_signal_28 rfl (lv_at hl 0 rfl) ?_
          refine r_get (S := S) (v := .int (S.1 12)) hx hb hts hin hown hK hP 12 (by decide) (by decide +kernel) rfl rfl dX2_signal_29 ?_
          refine lv_iconst (v := 2) hx hb dX2_signal_32 (by decide) ?_
          refine lv_icmp_ne (tgt := 40) hx hb dX2_signal_33 (by decide) (fun c7 => ?_) (fun c7 => ?_)
          · refine lv_iconst (v := 0) hx hb dX2_signal_40 (by decide) ?_
            refine lv_istore_n (lv' := [(2, .int 0), (0, .ref (a 0)), (1, .int (nI j))]) hx hb dX2_signal_41 rfl hl (by decide) rfl (fun ls hl => ?_)
            refine lv_iload_n hx hb dX2_signal_42 rfl (lv_at hl 0 rfl) ?_
            refine lv_if_ne (tgt := 48) hx hb dX2_signal_43 (by decide) (fun c8 => ?_) (fun c8 => ?_)
            · exact absurd (by decide) c8
            · refine lv_iconst (v := 0) hx hb dX2_signal_46 (by decide) ?_
              have hE : R_signal n S (nI j) = (0, S) := by first | (simp only [R_signal, if_pos hd, if_neg c2, if_neg c4, if_neg c7, hjc]; done) | (simp only [R_signal, if_pos hd, if_neg c2, if_neg c4, if_neg c7, hjc]; rfl)
              exact W.iret (v := 0) hx hb hr (fun tt ht hW => ⟨⟨0, (), rfl, by rw [hE], by rw [ht, hE]; exact hP, va_K.moved hW.alike hK⟩, hS.F ht⟩) hS.2.2 dX2_signal_47
          · refine lv_iconst (v := 1) hx hb dX2_signal_36 (by decide) ?_
            refine lv_goto (tgt := 41) hx hb dX2_signal_37 (by decide) ?_
            refine lv_istore_n (lv' := [(2, .int 1), (0, .ref (a 0)), (1, .int (nI j))]) hx hb dX2_signal_41 rfl hl (by decide) rfl (fun ls hl => ?_)
            refine lv_iload_n hx hb dX2_signal_42 rfl (lv_at hl 0 rfl) ?_
            refine lv_if_ne (tgt := 48) hx hb dX2_signal_43 (by decide) (fun c9 => ?_) (fun c9 => ?_)
            · refine lv_aload_n hx hb dX2_signal_48 rfl (lv_at hl 1 rfl) ?_
              refine r_get (S := S) (v := .int (S.1 12)) hx hb hts hin hown hK hP 12 (by decide) (by decide +kernel) rfl rfl dX2_signal_49 ?_
              refine lv_iconst (v := 2) hx hb dX2_signal_52 (by decide) ?_
              refine lv_icmp_ne (tgt := 64) hx hb dX2_signal_53 (by decide) (fun c10 => ?_) (fun c10 => ?_)
              · exact absurd c7 c10
              · refine lv_aload_n hx hb dX2_signal_56 rfl (lv_at hl 1 rfl) ?_
                refine lv_iconst (v := 3) hx hb dX2_signal_57 (by decide) ?_
                refine r_put ha hx hb hts hin hown hK hP hS 12 (by decide) (by decide +kernel) ⟨rfl, rfl, rfl⟩ dX2_signal_58 (fun H locs hP hS => ?_)
                have hP : va_P D vwCl (rW cI cZ a (upd (S.1) 12 3, S.2)) H := hP
                refine lv_goto (tgt := 70) hx hb dX2_signal_61 (by decide) ?_
                refine lv_aload_n hx hb dX2_signal_70 rfl (lv_at hl 1 rfl) ?_
                refine m_callv (As := []) (rest := []) ⟨hx, hb, hml, hown, hts⟩ (c_X2_follow l D cI cZ a ha n (upd (S.1) 12 3, S.2) hok ) (cwV 0 hts gX2_signal_X2_follow rfl rfl rfl (by decide +kernel) ⟨Nat.le_of_ble_eq_true rfl, Nat.le_of_ble_eq_true rfl⟩) hK hP hS (fun q h => wA_up hS.1 q h) (va_recv hK hP (ci := 3) (q0 := 0) rfl rfl) rfl hl.1 rfl (Nat.le_of_ble_eq_true rfl) dX2_signal_71 ⟨Nat.zero_le _, Nat.zero_le _⟩ (fun H locs hP hS _ => ?_)
                have hok : rOk n (R_follow n (upd (S.1) 12 3, S.2)) := R_follow_ok n (upd (S.1) 12 3, S.2) hok
                refine lv_iconst (v := 1) hx hb dX2_signal_74 (by decide) ?_
                have hE : R_signal n S (nI j) = (1, (R_follow n (upd (S.1) 12 3, S.2))) := by first | (simp only [R_signal, if_pos hd, if_neg c2, if_neg c4, if_pos c7, hjc]; done) | (simp only [R_signal, if_pos hd, if_neg c2, if_neg c4, if_pos c7, hjc]; rfl)
                exact W.iret (v := 1) hx hb hr (fun tt ht hW => ⟨⟨1, (), rfl, by rw [hE], by rw [ht, hE]; exact hP, va_K.moved hW.alike hK⟩, hS.F ht⟩) hS.2.2 dX2_signal_75
            · exact absurd c9 (by decide)
    · exact absurd (by decide) c1
  · have hN : R_none n S d = 1 := if_neg hd
    rw [hN]
    refine lv_if_eq (tgt := 11) hx hb dX2_signal_5 (by decide) (fun c11 => ?_) (fun c11 => ?_)
    · exact absurd c11 (by decide)
    · refine lv_bipush (v := (-2)) hx hb dX2_signal_8 (by decide) ?_
      have hE : R_signal n S d = ((-2), S) := by first | (simp only [R_signal, if_neg hd]; done) | (simp only [R_signal, if_neg hd]; rfl)
      exact W.iret (v := (-2)) hx hb hr (fun tt ht hW => ⟨⟨(-2), (), rfl, by rw [hE], by rw [ht, hE]; exact hP, va_K.moved hW.alike hK⟩, hS.F ht⟩) hS.2.2 dX2_signal_10

def R_reset_b (k1 : Nat) (Z : rSt) : rSt :=
  if Z.2 5 k1 = 2 then (upd (Z.1) 23 (Z.1 23), up2 (up2 (up2 (Z.2) 5 k1 2) 7 k1 0) 8 k1 0)
  else (upd (Z.1) 23 ((Z.1 23) + 1), up2 (up2 (up2 (Z.2) 5 k1 2) 7 k1 0) 8 k1 0)
theorem R_reset_b_sm (k1 : Nat) (Z : rSt) : rSm Z (R_reset_b k1 Z) := by
  unfold R_reset_b
  split
  · exact (show rSm Z (upd (Z.1) 23 (Z.1 23), up2 (up2 (up2 (Z.2) 5 k1 2) 7 k1 0) 8 k1 0) from ⟨rfl, rfl⟩)
  · exact (show rSm Z (upd (Z.1) 23 ((Z.1 23) + 1), up2 (up2 (up2 (Z.2) 5 k1 2) 7 k1 0) 8 k1 0) from ⟨rfl, rfl⟩)
def R_reset_it (n : Nat) (S : rSt) : Nat → rSt
  | 0 => S
  | k1 + 1 => R_reset_b k1 (R_reset_it n S k1)
theorem R_reset_it_sm (n : Nat) (S : rSt) : ∀ k, rSm S (R_reset_it n S k)
  | 0 => rSm.rf
  | k + 1 => (R_reset_it_sm n S k).tr (R_reset_b_sm  k _)
theorem R_reset_it_ok (n : Nat) (S : rSt) (k : Nat) (hok : rOk n S) : rOk n (R_reset_it n S k) := rOk_of (R_reset_it_sm n S k) hok
def R_reset (n : Nat) (S : rSt) : rSt :=
  (upd (upd (upd (upd (upd (upd ((R_reset_it n S n).1) 12 0) 13 (-1)) 15 (-1)) 16 0) 19 0) 20 (((R_reset_it n S n).1 20) + 1), (R_reset_it n S n).2)
theorem R_reset_sm (n : Nat) (S : rSt) : rSm S (R_reset n S) := by
  unfold R_reset
  exact (R_reset_it_sm n S n).tr (show rSm (R_reset_it n S n) (upd (upd (upd (upd (upd (upd ((R_reset_it n S n).1) 12 0) 13 (-1)) 15 (-1)) 16 0) 19 0) 20 (((R_reset_it n S n).1 20) + 1), (R_reset_it n S n).2) from ⟨rfl, rfl⟩)
theorem R_reset_ok (n : Nat) (S : rSt) (hok : rOk n S) : rOk n (R_reset n S) := rOk_of (R_reset_sm n S) hok
set_option maxHeartbeats 4000000 in
set_option maxRecDepth 100000 in
theorem c_X2_reset (l : Launch) (D : va_G) (cI cZ : ClassId) (a : Nat → Nat) (ha : (rL a).Nodup) (n : Nat) (S : rSt) (hok : rOk n S) : mV l yX2_reset wsX2_reset (rmz 0 0) D (rT cI cZ) (rL a) [.ref (a 0)] (rW cI cZ a S) (rW cI cZ a (R_reset n S)) := by
  intro sz
  refine Met.ofW (cc := cX2_reset) (maxL := 2) (ret := none) (by decide) rfl ?_
  intro p e s m args below meth c s₁ B hml hv
  obtain ⟨rfl, hsz, hP, hK⟩ := hv
  have hx := B.exec
  have hb := B.bytes
  have hr := B.returns
  have hts := atoms_spec (ws := wsX2_reset) B.pre
  have hin : ∀ w ∈ wsX20, w ∈ wsX2_reset := fun w h => List.mem_cons_of_mem _ (List.mem_append_right _ h)
  have hown : s.vm.findClass RX2 = some m.cls := findClass_of_methodNamed B.named
  have hlocks := B.notSynchronized
  have hn12 : n ≤ 12 := hok.2.1
  subst hsz
  have hS : va_S (wA (rL a) s.heap.size) s.heap s.heap [] := va_S.rf
  have hl := lv_entry ([.ref (a 0)]) (n := 2) (Nat.le_of_ble_eq_true rfl)
  rw [lg_entry_eq]
  generalize (lg_sl ([.ref (a 0)]) ++ List.replicate (2 - (lg_sl ([.ref (a 0)])).length) Slot.unset).toArray = ls at hl ⊢
  have hl : lv_has ls 2 [(0, .ref (a 0))] := hl
  have hok0 := hok
  refine lv_iconst (v := 0) hx hb dX2_reset_0 (by decide) ?_
  refine lv_istore_n (lv' := [(1, .int 0), (0, .ref (a 0))]) hx hb dX2_reset_1 rfl hl (by decide) rfl (fun ls hl => ?_)
  refine w_loop (σ := Nat) (I := fun k1 H locs ls => k1 ≤ n ∧ va_P D vwCl (rW cI cZ a (R_reset_it n S k1)) H ∧ va_S (wA (rL a) s.heap.size) s.heap H locs ∧ lv_has ls 2 [(0, .ref (a 0)), (1, .int (nI k1))]) (fun k1 => n - k1) ?_ 0 ⟨Nat.zero_le _, hP, hS, lv_sub hl [1, 0] rfl⟩
  intro k1 H locs ls hI ih
  obtain ⟨hk, hP, hS, hl⟩ := hI
  have hok : rOk n (R_reset_it n S k1) := R_reset_it_ok n S k1 hok0
  refine lv_iload_n hx hb dX2_reset_2 rfl (lv_at hl 1 rfl) ?_
  refine lv_aload_n hx hb dX2_reset_3 rfl (lv_at hl 0 rfl) ?_
  refine r_get (S := (R_reset_it n S k1)) (v := .int (nI n)) hx hb hts hin hown hK hP 0 (by decide) (by decide +kernel) rfl (congrArg (fun z => some (Value.int z)) hok.1) dX2_reset_4 ?_
  refine lv_icmp_ge (tgt := 64) hx hb dX2_reset_7 (by decide) (fun c2 => ?_) (fun c2 => ?_)
  · have hkn : k1 = n := Nat.le_antisymm hk ((nI_leI (by omega) (by omega)).mp c2)
    rw [hkn] at hP hl
    have hok : rOk n (R_reset_it n S n) := R_reset_it_ok n S n hok0
    refine lv_aload_n hx hb dX2_reset_64 rfl (lv_at hl 0 rfl) ?_
    refine lv_iconst (v := 0) hx hb dX2_reset_65 (by decide) ?_
    refine r_put ha hx hb hts hin hown hK hP hS 12 (by decide) (by decide +kernel) ⟨rfl, rfl, rfl⟩ dX2_reset_66 (fun H locs hP hS => ?_)
    have hP : va_P D vwCl (rW cI cZ a (upd ((R_reset_it n S n).1) 12 0, (R_reset_it n S n).2)) H := hP
    refine lv_aload_n hx hb dX2_reset_69 rfl (lv_at hl 0 rfl) ?_
    refine lv_iconst (v := (-1)) hx hb dX2_reset_70 (by decide) ?_
    refine r_put ha hx hb hts hin hown hK hP hS 13 (by decide) (by decide +kernel) ⟨rfl, rfl, rfl⟩ dX2_reset_71 (fun H locs hP hS => ?_)
    have hP : va_P D vwCl (rW cI cZ a (upd (upd ((R_reset_it n S n).1) 12 0) 13 (-1), (R_reset_it n S n).2)) H := hP
    refine lv_aload_n hx hb dX2_reset_74 rfl (lv_at hl 0 rfl) ?_
    refine lv_iconst (v := (-1)) hx hb dX2_reset_75 (by decide) ?_
    refine r_put ha hx hb hts hin hown hK hP hS 15 (by decide) (by decide +kernel) ⟨rfl, rfl, rfl⟩ dX2_reset_76 (fun H locs hP hS => ?_)
    have hP : va_P D vwCl (rW cI cZ a (upd (upd (upd ((R_reset_it n S n).1) 12 0) 13 (-1)) 15 (-1), (R_reset_it n S n).2)) H := hP
    refine lv_aload_n hx hb dX2_reset_79 rfl (lv_at hl 0 rfl) ?_
    refine lv_iconst (v := 0) hx hb dX2_reset_80 (by decide) ?_
    refine r_put ha hx hb hts hin hown hK hP hS 16 (by decide) (by decide +kernel) ⟨rfl, rfl, rfl⟩ dX2_reset_81 (fun H locs hP hS => ?_)
    have hP : va_P D vwCl (rW cI cZ a (upd (upd (upd (upd ((R_reset_it n S n).1) 12 0) 13 (-1)) 15 (-1)) 16 0, (R_reset_it n S n).2)) H := hP
    refine lv_aload_n hx hb dX2_reset_84 rfl (lv_at hl 0 rfl) ?_
    refine lv_iconst (v := 0) hx hb dX2_reset_85 (by decide) ?_
    refine r_put ha hx hb hts hin hown hK hP hS 19 (by decide) (by decide +kernel) ⟨rfl, rfl, rfl⟩ dX2_reset_86 (fun H locs hP hS => ?_)
    have hP : va_P D vwCl (rW cI cZ a (upd (upd (upd (upd (upd ((R_reset_it n S n).1) 12 0) 13 (-1)) 15 (-1)) 16 0) 19 0, (R_reset_it n S n).2)) H := hP
    refine lv_aload_n hx hb dX2_reset_89 rfl (lv_at hl 0 rfl) ?_
    refine lv_dup hx hb dX2_reset_90 rfl ?_
    refine r_get (S := (upd (upd (upd (upd (upd ((R_reset_it n S n).1) 12 0) 13 (-1)) 15 (-1)) 16 0) 19 0, (R_reset_it n S n).2)) (v := .int ((R_reset_it n S n).1 20)) hx hb hts hin hown hK hP 20 (by decide) (by decide +kernel) rfl rfl dX2_reset_91 ?_
    refine lv_iconst (v := 1) hx hb dX2_reset_94 (by decide) ?_
    refine lv_iadd hx hb dX2_reset_95 ?_
    refine r_put ha hx hb hts hin hown hK hP hS 20 (by decide) (by decide +kernel) ⟨rfl, rfl, rfl⟩ dX2_reset_96 (fun H locs hP hS => ?_)
    have hP : va_P D vwCl (rW cI cZ a (upd (upd (upd (upd (upd (upd ((R_reset_it n S n).1) 12 0) 13 (-1)) 15 (-1)) 16 0) 19 0) 20 (((R_reset_it n S n).1 20) + 1), (R_reset_it n S n).2)) H := hP
    have hE : R_reset n S = (upd (upd (upd (upd (upd (upd ((R_reset_it n S n).1) 12 0) 13 (-1)) 15 (-1)) 16 0) 19 0) 20 (((R_reset_it n S n).1 20) + 1), (R_reset_it n S n).2) := by first | (simp only [R_reset]; done) | (simp only [R_reset]; rfl)
    exact W.vret hx hb hr (fun tt ht hW => ⟨⟨(), rfl, trivial, by rw [ht, hE]; exact hP, va_K.moved hW.alike hK⟩, hS.F ht⟩) hS.2.2 dX2_reset_99
  · have hlt : k1 < n := Nat.lt_of_not_le (fun z => c2 ((nI_leI (by omega) (by omega)).mpr z))
    refine lv_aload_n hx hb dX2_reset_10 rfl (lv_at hl 0 rfl) ?_
    refine lv_aload_n hx hb dX2_reset_11 rfl (lv_at hl 0 rfl) ?_
    refine r_get (S := (R_reset_it n S k1)) (v := .ref (a 5)) hx hb hts hin hown hK hP 5 (by decide) (by decide +kernel) rfl rfl dX2_reset_12 ?_
    refine lv_iload_n hx hb dX2_reset_15 rfl (lv_at hl 1 rfl) ?_
    refine r_ald (S := (R_reset_it n S k1)) (x := (R_reset_it n S k1).2 5 k1) hx hb hK hP 5 (by decide) (j := k1) (by omega) rfl dX2_reset_16 ?_
    refine lv_iconst (v := 2) hx hb dX2_reset_17 (by decide) ?_
    refine lv_icmp_ne (tgt := 28) hx hb dX2_reset_18 (by decide) (fun c3 => ?_) (fun c3 => ?_)
    · refine lv_aload_n hx hb dX2_reset_28 rfl (lv_at hl 0 rfl) ?_
      refine r_get (S := (R_reset_it n S k1)) (v := .int ((R_reset_it n S k1).1 23)) hx hb hts hin hown hK hP 23 (by decide) (by decide +kernel) rfl rfl dX2_reset_29 ?_
      refine lv_iconst (v := 1) hx hb dX2_reset_32 (by decide) ?_
      refine lv_iadd hx hb dX2_reset_33 ?_
      refine r_put ha hx hb hts hin hown hK hP hS 23 (by decide) (by decide +kernel) ⟨rfl, rfl, rfl⟩ dX2_reset_34 (fun H locs hP hS => ?_)
      have hP : va_P D vwCl (rW cI cZ a (upd ((R_reset_it n S k1).1) 23 (((R_reset_it n S k1).1 23) + 1), (R_reset_it n S k1).2)) H := hP
      refine lv_aload_n hx hb dX2_reset_37 rfl (lv_at hl 0 rfl) ?_
      refine r_get (S := (upd ((R_reset_it n S k1).1) 23 (((R_reset_it n S k1).1 23) + 1), (R_reset_it n S k1).2)) (v := .ref (a 5)) hx hb hts hin hown hK hP 5 (by decide) (by decide +kernel) rfl rfl dX2_reset_38 ?_
      refine lv_iload_n hx hb dX2_reset_41 rfl (lv_at hl 1 rfl) ?_
      refine lv_iconst (v := 2) hx hb dX2_reset_42 (by decide) ?_
      refine r_ast ha hx hb hK hP hS 5 (by decide) (j := k1) (by omega) dX2_reset_43 (fun H locs hP hS => ?_)
      have hP : va_P D vwCl (rW cI cZ a (upd ((R_reset_it n S k1).1) 23 (((R_reset_it n S k1).1 23) + 1), up2 ((R_reset_it n S k1).2) 5 k1 2)) H := hP
      refine lv_aload_n hx hb dX2_reset_44 rfl (lv_at hl 0 rfl) ?_
      refine r_get (S := (upd ((R_reset_it n S k1).1) 23 (((R_reset_it n S k1).1 23) + 1), up2 ((R_reset_it n S k1).2) 5 k1 2)) (v := .ref (a 7)) hx hb hts hin hown hK hP 7 (by decide) (by decide +kernel) rfl rfl dX2_reset_45 ?_
      refine lv_iload_n hx hb dX2_reset_48 rfl (lv_at hl 1 rfl) ?_
      refine lv_iconst (v := 0) hx hb dX2_reset_49 (by decide) ?_
      refine r_ast ha hx hb hK hP hS 7 (by decide) (j := k1) (by omega) dX2_reset_50 (fun H locs hP hS => ?_)
      have hP : va_P D vwCl (rW cI cZ a (upd ((R_reset_it n S k1).1) 23 (((R_reset_it n S k1).1 23) + 1), up2 (up2 ((R_reset_it n S k1).2) 5 k1 2) 7 k1 0)) H := hP
      refine lv_aload_n hx hb dX2_reset_51 rfl (lv_at hl 0 rfl) ?_
      refine r_get (S := (upd ((R_reset_it n S k1).1) 23 (((R_reset_it n S k1).1 23) + 1), up2 (up2 ((R_reset_it n S k1).2) 5 k1 2) 7 k1 0)) (v := .ref (a 8)) hx hb hts hin hown hK hP 8 (by decide) (by decide +kernel) rfl rfl dX2_reset_52 ?_
      refine lv_iload_n hx hb dX2_reset_55 rfl (lv_at hl 1 rfl) ?_
      refine lv_iconst (v := 0) hx hb dX2_reset_56 (by decide) ?_
      refine r_ast ha hx hb hK hP hS 8 (by decide) (j := k1) (by omega) dX2_reset_57 (fun H locs hP hS => ?_)
      have hP : va_P D vwCl (rW cI cZ a (upd ((R_reset_it n S k1).1) 23 (((R_reset_it n S k1).1 23) + 1), up2 (up2 (up2 ((R_reset_it n S k1).2) 5 k1 2) 7 k1 0) 8 k1 0)) H := hP
      refine lv_iinc (v := nI (k1 + 1)) (lv' := [(1, .int (nI (k1 + 1))), (0, .ref (a 0))]) hx hb dX2_reset_58 hl (k := 1) rfl (nI_1 _) (by decide) rfl (fun ls hl => ?_)
      refine lv_goto (tgt := 2) hx hb dX2_reset_61 (by decide) ?_
      have hE : R_reset_it n S (k1 + 1) = (upd ((R_reset_it n S k1).1) 23 (((R_reset_it n S k1).1 23) + 1), up2 (up2 (up2 ((R_reset_it n S k1).2) 5 k1 2) 7 k1 0) 8 k1 0) := by show R_reset_b k1 (R_reset_it n S k1) = _; first | (simp only [R_reset_b, if_neg c3]; done) | (simp only [R_reset_b, if_neg c3]; rfl)
      exact ih (k1 + 1) H locs ls (by omega) ⟨by omega, by rw [hE]; exact hP, hS, by exact lv_sub hl [1, 0] rfl⟩
    · refine lv_aload_n hx hb dX2_reset_21 rfl (lv_at hl 0 rfl) ?_
      refine r_get (S := (R_reset_it n S k1)) (v := .int ((R_reset_it n S k1).1 23)) hx hb hts hin hown hK hP 23 (by decide) (by decide +kernel) rfl rfl dX2_reset_22 ?_
      refine lv_goto (tgt := 34) hx hb dX2_reset_25 (by decide) ?_
      refine r_put ha hx hb hts hin hown hK hP hS 23 (by decide) (by decide +kernel) ⟨rfl, rfl, rfl⟩ dX2_reset_34 (fun H locs hP hS => ?_)
      have hP : va_P D vwCl (rW cI cZ a (upd ((R_reset_it n S k1).1) 23 ((R_reset_it n S k1).1 23), (R_reset_it n S k1).2)) H := hP
      refine lv_aload_n hx hb dX2_reset_37 rfl (lv_at hl 0 rfl) ?_
      refine r_get (S := (upd ((R_reset_it n S k1).1) 23 ((R_reset_it n S k1).1 23), (R_reset_it n S k1).2)) (v := .ref (a 5)) hx hb hts hin hown hK hP 5 (by decide) (by decide +kernel) rfl rfl dX2_reset_38 ?_
      refine lv_iload_n hx hb dX2_reset_41 rfl (lv_at hl 1 rfl) ?_
      refine lv_iconst (v := 2) hx hb dX2_reset_42 (by decide) ?_
      refine r_ast ha hx hb hK hP hS 5 (by decide) (j := k1) (by omega) dX2_reset_43 (fun H locs hP hS => ?_)
      have hP : va_P D vwCl (rW cI cZ a (upd ((R_reset_it n S k1).1) 23 ((R_reset_it n S k1).1 23), up2 ((R_reset_it n S k1).2) 5 k1 2)) H := hP
      refine lv_aload_n hx hb dX2_reset_44 rfl (lv_at hl 0 rfl) ?_
      refine r_get (S := (upd ((R_reset_it n S k1).1) 23 ((R_reset_it n S k1).1 23), up2 ((R_reset_it n S k1).2) 5 k1 2)) (v := .ref (a 7)) hx hb hts hin hown hK hP 7 (by decide) (by decide +kernel) rfl rfl dX2_reset_45 ?_
      refine lv_iload_n hx hb dX2_reset_48 rfl (lv_at hl 1 rfl) ?_
      refine lv_iconst (v := 0) hx hb dX2_reset_49 (by decide) ?_
      refine r_ast ha hx hb hK hP hS 7 (by decide) (j := k1) (by omega) dX2_reset_50 (fun H locs hP hS => ?_)
      have hP : va_P D vwCl (rW cI cZ a (upd ((R_reset_it n S k1).1) 23 ((R_reset_it n S k1).1 23), up2 (up2 ((R_reset_it n S k1).2) 5 k1 2) 7 k1 0)) H := hP
      refine lv_aload_n hx hb dX2_reset_51 rfl (lv_at hl 0 rfl) ?_
      refine r_get (S := (upd ((R_reset_it n S k1).1) 23 ((R_reset_it n S k1).1 23), up2 (up2 ((R_reset_it n S k1).2) 5 k1 2) 7 k1 0)) (v := .ref (a 8)) hx hb hts hin hown hK hP 8 (by decide) (by decide +kernel) rfl rfl dX2_reset_52 ?_
      refine lv_iload_n hx hb dX2_reset_55 rfl (lv_at hl 1 rfl) ?_
      refine lv_iconst (v := 0) hx hb dX2_reset_56 (by decide) ?_
      refine r_ast ha hx hb hK hP hS 8 (by decide) (j := k1) (by omega) dX2_reset_57 (fun H locs hP hS => ?_)
      have hP : va_P D vwCl (rW cI cZ a (upd ((R_reset_it n S k1).1) 23 ((R_reset_it n S k1).1 23), up2 (up2 (up2 ((R_reset_it n S k1).2) 5 k1 2) 7 k1 0) 8 k1 0)) H := hP
      refine lv_iinc (v := nI (k1 + 1)) (lv' := [(1, .int (nI (k1 + 1))), (0, .ref (a 0))]) hx hb dX2_reset_58 hl (k := 1) rfl (nI_1 _) (by decide) rfl (fun ls hl => ?_)
      refine lv_goto (tgt := 2) hx hb dX2_reset_61 (by decide) ?_
      have hE : R_reset_it n S (k1 + 1) = (upd ((R_reset_it n S k1).1) 23 ((R_reset_it n S k1).1 23), up2 (up2 (up2 ((R_reset_it n S k1).2) 5 k1 2) 7 k1 0) 8 k1 0) := by show R_reset_b k1 (R_reset_it n S k1) = _; first | (simp only [R_reset_b, if_pos c3]; done) | (simp only [R_reset_b, if_pos c3]; rfl)
      exact ih (k1 + 1) H locs ls (by omega) ⟨by omega, by rw [hE]; exact hP, hS, by exact lv_sub hl [1, 0] rfl⟩

def R_childOn_b (S : rSt) (d : Nat) (k1 : Nat) (x2 : Int32) : Int32 :=
  if x2 = 0 then (if ((S.2 1 (d + 1 + k1)) >>> ((nI d) &&& 31)) &&& 1 = 1 then (if S.2 5 (d + 1 + k1) = 2 then 1
      else 0)
    else 0)
  else 1
def R_childOn_it (S : rSt) (d : Nat) : Nat → Int32
  | 0 => 0
  | k1 + 1 => R_childOn_b S d k1 (R_childOn_it S d k1)
theorem nb01 {x : Int32} (h : x = 0 ∨ x = 1) : narrow .boolean (.int x) = .int x := by rcases h with rfl | rfl <;> rfl
theorem R_childOn_01 (S : rSt) (d : Nat) : ∀ k, R_childOn_it S d k = 0 ∨ R_childOn_it S d k = 1
  | 0 => Or.inl rfl
  | k + 1 => by
    have ih := R_childOn_01 S d k
    show R_childOn_b S d k (R_childOn_it S d k) = 0 ∨ R_childOn_b S d k (R_childOn_it S d k) = 1
    unfold R_childOn_b
    repeat' split
    all_goals first | exact Or.inl rfl | exact Or.inr rfl | exact ih
def R_childOn (n : Nat) (S : rSt) (d : Nat) : Int32 :=
  (R_childOn_it S d (n - (d + 1)))
set_option maxHeartbeats 4000000 in
set_option maxRecDepth 100000 in
theorem c_X2_childOn (l : Launch) (D : va_G) (cI cZ : ClassId) (a : Nat → Nat) (ha : (rL a).Nodup) (n : Nat) (S : rSt) (hok : rOk n S) (d : Nat) (hd : d < n) : mR l yX2_childOn wsX2_childOn (rmz 0 0) D (rT cI cZ) [.ref (a 0), .int (nI d)] (rW cI cZ a S) (R_childOn n S d) := by
  refine Met.ofW (cc := cX2_childOn) (maxL := 4) (ret := (some .boolean)) (by decide) rfl ?_
  intro p e s m args below meth c s₁ B hml hv
  obtain ⟨rfl, hP, hK⟩ := hv
  have hx := B.exec
  have hb := B.bytes
  have hr := B.returns
  have hts := atoms_spec (ws := wsX2_childOn) B.pre
  have hin : ∀ w ∈ wsX20, w ∈ wsX2_childOn := fun w h => List.mem_cons_of_mem _ (List.mem_append_right _ h)
  have hown : s.vm.findClass RX2 = some m.cls := findClass_of_methodNamed B.named
  have hlocks := B.notSynchronized
  have hn12 : n ≤ 12 := hok.2.1
  have hl := lv_entry ([.ref (a 0), .int (nI d)]) (n := 4) (Nat.le_of_ble_eq_true rfl)
  rw [lg_entry_eq]
  generalize (lg_sl ([.ref (a 0), .int (nI d)]) ++ List.replicate (4 - (lg_sl ([.ref (a 0), .int (nI d)])).length) Slot.unset).toArray = ls at hl ⊢
  have hl : lv_has ls 4 [(0, .ref (a 0)), (1, .int (nI d))] := hl
  refine lv_iconst (v := 0) hx hb dX2_childOn_0 (by decide) ?_
  refine lv_istore_n (lv' := [(2, .int 0), (0, .ref (a 0)), (1, .int (nI d))]) hx hb dX2_childOn_1 rfl hl (by decide) rfl (fun ls hl => ?_)
  refine lv_iload_n hx hb dX2_childOn_2 rfl (lv_at hl 2 rfl) ?_
  refine lv_iconst (v := 1) hx hb dX2_childOn_3 (by decide) ?_
  refine lv_iadd hx hb dX2_childOn_4 ?_
  refine lv_istore_n (lv' := [(3, .int ((nI d) + 1)), (2, .int 0), (0, .ref (a 0)), (1, .int (nI d))]) hx hb dX2_childOn_5 rfl hl (by decide) rfl (fun ls hl => ?_)
  have e0 : nI d + 1 = nI (d + 1 + 0) := nI_1 d
  rw [e0] at hl
  refine w_loop (σ := Nat) (I := fun k1 H locs ls => d + 1 + k1 ≤ n ∧ H = s.heap ∧ locs = [] ∧ lv_has ls 4 [(0, .ref (a 0)), (1, .int (nI d)), (2, .int ((R_childOn_it S d k1))), (3, .int (nI (d + 1 + k1)))]) (fun k1 => n - (d + 1 + k1)) ?_ 0 ⟨by omega, rfl, rfl, lv_sub hl [2, 3, 1, 0] rfl⟩
  intro k1 H locs ls hI ih
  obtain ⟨hk, rfl, rfl, hl⟩ := hI
  refine lv_iload_n hx hb dX2_childOn_6 rfl (lv_at hl 3 rfl) ?_
  refine lv_aload_n hx hb dX2_childOn_7 rfl (lv_at hl 0 rfl) ?_
  refine r_get (S := S) (v := .int (nI n)) hx hb hts hin hown hK hP 0 (by decide) (by decide +kernel) rfl (congrArg (fun z => some (Value.int z)) hok.1) dX2_childOn_8 ?_
  refine lv_icmp_ge (tgt := 54) hx hb dX2_childOn_11 (by decide) (fun c2 => ?_) (fun c2 => ?_)
  · have hkm : n ≤ d + 1 + k1 := (nI_leI (by omega) (by omega)).mp c2
    have hkn : k1 = (n - (d + 1)) := by omega
    rw [hkn] at hl
    refine lv_iload_n hx hb dX2_childOn_54 rfl (lv_at hl 2 rfl) ?_
    have hE : R_childOn n S d = (R_childOn_it S d (n - (d + 1))) := by first | (simp only [R_childOn]; done) | (simp only [R_childOn]; rfl)
    exact W.zret (v := (R_childOn_it S d (n - (d + 1)))) hx hb hr (nb01 (R_childOn_01 S d _)) (fun tt ht hW => ⟨(R_childOn_it S d (n - (d + 1))), rfl, hE.symm, ht⟩) (fun q hq => by cases hq) dX2_childOn_55
  · have hlt : d + 1 + k1 < n := Nat.lt_of_not_le (fun z => c2 ((nI_leI (by omega) (by omega)).mpr z))
    refine lv_iload_n hx hb dX2_childOn_14 rfl (lv_at hl 2 rfl) ?_
    refine lv_if_ne (tgt := 42) hx hb dX2_childOn_15 (by decide) (fun c3 => ?_) (fun c3 => ?_)
    · refine lv_iconst (v := 1) hx hb dX2_childOn_42 (by decide) ?_
      refine lv_goto (tgt := 47) hx hb dX2_childOn_43 (by decide) ?_
      refine lv_istore_n (lv' := [(2, .int 1), (0, .ref (a 0)), (1, .int (nI d)), (3, .int (nI (d + 1 + k1)))]) hx hb dX2_childOn_47 rfl hl (by decide) rfl (fun ls hl => ?_)
      refine lv_iinc (v := nI ((d + 1 + k1) + 1)) (lv' := [(3, .int (nI ((d + 1 + k1) + 1))), (2, .int 1), (0, .ref (a 0)), (1, .int (nI d))]) hx hb dX2_childOn_48 hl (k := 3) rfl (nI_1 _) (by decide) rfl (fun ls hl => ?_)
      refine lv_goto (tgt := 6) hx hb dX2_childOn_51 (by decide) ?_
      have hE : R_childOn_it S d (k1 + 1) = 1 := by show R_childOn_b S d k1 (R_childOn_it S d k1) = _; first | (simp only [R_childOn_b, if_neg c3]; done) | (simp only [R_childOn_b, if_neg c3]; rfl)
      exact ih (k1 + 1) _ _ ls (by omega) ⟨by omega, rfl, rfl, by rw [hE]; exact lv_sub hl [2, 3, 1, 0] rfl⟩
    · refine lv_aload_n hx hb dX2_childOn_18 rfl (lv_at hl 0 rfl) ?_
      refine r_get (S := S) (v := .ref (a 1)) hx hb hts hin hown hK hP 1 (by decide) (by decide +kernel) rfl rfl dX2_childOn_19 ?_
      refine lv_iload_n hx hb dX2_childOn_22 rfl (lv_at hl 3 rfl) ?_
      refine r_ald (S := S) (x := S.2 1 (d + 1 + k1)) hx hb hK hP 1 (by decide) (j := (d + 1 + k1)) (by omega) rfl dX2_childOn_23 ?_
      refine lv_iload_n hx hb dX2_childOn_24 rfl (lv_at hl 1 rfl) ?_
      refine lv_ishr hx hb dX2_childOn_25 ?_
      refine lv_iconst (v := 1) hx hb dX2_childOn_26 (by decide) ?_
      refine lv_iand hx hb dX2_childOn_27 ?_
      refine lv_iconst (v := 1) hx hb dX2_childOn_28 (by decide) ?_
      refine lv_icmp_ne (tgt := 46) hx hb dX2_childOn_29 (by decide) (fun c4 => ?_) (fun c4 => ?_)
      · refine lv_iconst (v := 0) hx hb dX2_childOn_46 (by decide) ?_
        refine lv_istore_n (lv' := [(2, .int 0), (0, .ref (a 0)), (1, .int (nI d)), (3, .int (nI (d + 1 + k1)))]) hx hb dX2_childOn_47 rfl hl (by decide) rfl (fun ls hl => ?_)
        refine lv_iinc (v := nI ((d + 1 + k1) + 1)) (lv' := [(3, .int (nI ((d + 1 + k1) + 1))), (2, .int 0), (0, .ref (a 0)), (1, .int (nI d))]) hx hb dX2_childOn_48 hl (k := 3) rfl (nI_1 _) (by decide) rfl (fun ls hl => ?_)
        refine lv_goto (tgt := 6) hx hb dX2_childOn_51 (by decide) ?_
        have hE : R_childOn_it S d (k1 + 1) = 0 := by show R_childOn_b S d k1 (R_childOn_it S d k1) = _; first | (simp only [R_childOn_b, if_pos c3, if_neg c4]; done) | (simp only [R_childOn_b, if_pos c3, if_neg c4]; rfl)
        exact ih (k1 + 1) _ _ ls (by omega) ⟨by omega, rfl, rfl, by rw [hE]; exact lv_sub hl [2, 3, 1, 0] rfl⟩
      · refine lv_aload_n hx hb dX2_childOn_32 rfl (lv_at hl 0 rfl) ?_
        refine r_get (S := S) (v := .ref (a 5)) hx hb hts hin hown hK hP 5 (by decide) (by decide +kernel) rfl rfl dX2_childOn_33 ?_
        refine lv_iload_n hx hb dX2_childOn_36 rfl (lv_at hl 3 rfl) ?_
        refine r_ald (S := S) (x := S.2 5 (d + 1 + k1)) hx hb hK hP 5 (by decide) (j := (d + 1 + k1)) (by omega) rfl dX2_childOn_37 ?_
        refine lv_iconst (v := 2) hx hb dX2_childOn_38 (by decide) ?_
        refine lv_icmp_ne (tgt := 46) hx hb dX2_childOn_39 (by decide) (fun c5 => ?_) (fun c5 => ?_)
        · refine lv_iconst (v := 0) hx hb dX2_childOn_46 (by decide) ?_
          refine lv_istore_n (lv' := [(2, .int 0), (0, .ref (a 0)), (1, .int (nI d)), (3, .int (nI (d + 1 + k1)))]) hx hb dX2_childOn_47 rfl hl (by decide) rfl (fun ls hl => ?_)
          refine lv_iinc (v := nI ((d + 1 + k1) + 1)) (lv' := [(3, .int (nI ((d + 1 + k1) + 1))), (2, .int 0), (0, .ref (a 0)), (1, .int (nI d))]) hx hb dX2_childOn_48 hl (k := 3) rfl (nI_1 _) (by decide) rfl (fun ls hl => ?_)
          refine lv_goto (tgt := 6) hx hb dX2_childOn_51 (by decide) ?_
          have hE : R_childOn_it S d (k1 + 1) = 0 := by show R_childOn_b S d k1 (R_childOn_it S d k1) = _; first | (simp only [R_childOn_b, if_pos c3, if_pos c4, if_neg c5]; done) | (simp only [R_childOn_b, if_pos c3, if_pos c4, if_neg c5]; rfl)
          exact ih (k1 + 1) _ _ ls (by omega) ⟨by omega, rfl, rfl, by rw [hE]; exact lv_sub hl [2, 3, 1, 0] rfl⟩
        · refine lv_iconst (v := 1) hx hb dX2_childOn_42 (by decide) ?_
          refine lv_goto (tgt := 47) hx hb dX2_childOn_43 (by decide) ?_
          refine lv_istore_n (lv' := [(2, .int 1), (0, .ref (a 0)), (1, .int (nI d)), (3, .int (nI (d + 1 + k1)))]) hx hb dX2_childOn_47 rfl hl (by decide) rfl (fun ls hl => ?_)
          refine lv_iinc (v := nI ((d + 1 + k1) + 1)) (lv' := [(3, .int (nI ((d + 1 + k1) + 1))), (2, .int 1), (0, .ref (a 0)), (1, .int (nI d))]) hx hb dX2_childOn_48 hl (k := 3) rfl (nI_1 _) (by decide) rfl (fun ls hl => ?_)
          refine lv_goto (tgt := 6) hx hb dX2_childOn_51 (by decide) ?_
          have hE : R_childOn_it S d (k1 + 1) = 1 := by show R_childOn_b S d k1 (R_childOn_it S d k1) = _; first | (simp only [R_childOn_b, if_pos c3, if_pos c4, if_pos c5]; done) | (simp only [R_childOn_b, if_pos c3, if_pos c4, if_pos c5]; rfl)
          exact ih (k1 + 1) _ _ ls (by omega) ⟨by omega, rfl, rfl, by rw [hE]; exact lv_sub hl [2, 3, 1, 0] rfl⟩

def R_doze1_b (n : Nat) (k1 : Nat) (Z : rSt) : rSt :=
  if Z.2 5 k1 = 2 then (if Z.2 7 k1 = 0 then (if R_childOn n Z k1 = 0 then (Z.1, up2 (Z.2) 11 k1 1)
      else (Z.1, up2 (Z.2) 11 k1 0))
    else (Z.1, up2 (Z.2) 11 k1 0))
  else (Z.1, up2 (Z.2) 11 k1 0)
theorem R_doze1_b_sm (n : Nat) (k1 : Nat) (Z : rSt) : rSm Z (R_doze1_b n k1 Z) := by
  unfold R_doze1_b
  split
  · split
    · split
      · exact (show rSm Z (Z.1, up2 (Z.2) 11 k1 1) from ⟨rfl, rfl⟩)
      · exact (show rSm Z (Z.1, up2 (Z.2) 11 k1 0) from ⟨rfl, rfl⟩)
    · exact (show rSm Z (Z.1, up2 (Z.2) 11 k1 0) from ⟨rfl, rfl⟩)
  · exact (show rSm Z (Z.1, up2 (Z.2) 11 k1 0) from ⟨rfl, rfl⟩)
def R_doze1_it (n : Nat) (S : rSt) : Nat → rSt
  | 0 => S
  | k1 + 1 => R_doze1_b n k1 (R_doze1_it n S k1)
theorem R_doze1_it_sm (n : Nat) (S : rSt) : ∀ k, rSm S (R_doze1_it n S k)
  | 0 => rSm.rf
  | k + 1 => (R_doze1_it_sm n S k).tr (R_doze1_b_sm n k _)
theorem R_doze1_it_ok (n : Nat) (S : rSt) (k : Nat) (hok : rOk n S) : rOk n (R_doze1_it n S k) := rOk_of (R_doze1_it_sm n S k) hok
def R_doze2_b (k3 : Nat) (Z : rSt) : rSt :=
  if Z.2 11 k3 = 0 then (Z.1, up2 (Z.2) 8 k3 0)
  else (Z.1, up2 (Z.2) 8 k3 ((Z.2 8 k3) + 1))
theorem R_doze2_b_sm (k3 : Nat) (Z : rSt) : rSm Z (R_doze2_b k3 Z) := by
  unfold R_doze2_b
  split
  · exact (show rSm Z (Z.1, up2 (Z.2) 8 k3 0) from ⟨rfl, rfl⟩)
  · exact (show rSm Z (Z.1, up2 (Z.2) 8 k3 ((Z.2 8 k3) + 1)) from ⟨rfl, rfl⟩)
def R_doze2_it (n : Nat) (S : rSt) : Nat → rSt
  | 0 => S
  | k3 + 1 => R_doze2_b k3 (R_doze2_it n S k3)
theorem R_doze2_it_sm (n : Nat) (S : rSt) : ∀ k, rSm S (R_doze2_it n S k)
  | 0 => rSm.rf
  | k + 1 => (R_doze2_it_sm n S k).tr (R_doze2_b_sm  k _)
theorem R_doze2_it_ok (n : Nat) (S : rSt) (k : Nat) (hok : rOk n S) : rOk n (R_doze2_it n S k) := rOk_of (R_doze2_it_sm n S k) hok
def R_doze3_b (n : Nat) (k5 : Nat) (Z : rSt) : rSt :=
  if Z.2 5 k5 = 2 then (if Z.2 4 k5 ≤ 0 then Z
    else if Z.2 8 k5 < Z.2 4 k5 then Z
    else (R_become n Z k5 1))
  else Z
theorem R_doze3_b_sm (n : Nat) (k5 : Nat) (Z : rSt) : rSm Z (R_doze3_b n k5 Z) := by
  unfold R_doze3_b
  split
  · split
    · exact rSm.rf
    · split
      · exact rSm.rf
      · exact (R_become_sm n Z k5 1)
  · exact rSm.rf
def R_doze3_it (n : Nat) (S : rSt) : Nat → rSt
  | 0 => S
  | k5 + 1 => R_doze3_b n k5 (R_doze3_it n S k5)
theorem R_doze3_it_sm (n : Nat) (S : rSt) : ∀ k, rSm S (R_doze3_it n S k)
  | 0 => rSm.rf
  | k + 1 => (R_doze3_it_sm n S k).tr (R_doze3_b_sm n k _)
theorem R_doze3_it_ok (n : Nat) (S : rSt) (k : Nat) (hok : rOk n S) : rOk n (R_doze3_it n S k) := rOk_of (R_doze3_it_sm n S k) hok
def R_doze (n : Nat) (S : rSt) : rSt :=
  (R_doze3_it n (R_doze2_it n (R_doze1_it n S n) n) n)
theorem R_doze_sm (n : Nat) (S : rSt) : rSm S (R_doze n S) := by
  unfold R_doze
  exact (R_doze1_it_sm n S n).tr ((R_doze2_it_sm n (R_doze1_it n S n) n).tr (R_doze3_it_sm n (R_doze2_it n (R_doze1_it n S n) n) n))
theorem R_doze_ok (n : Nat) (S : rSt) (hok : rOk n S) : rOk n (R_doze n S) := rOk_of (R_doze_sm n S) hok
set_option maxHeartbeats 4000000 in
set_option maxRecDepth 100000 in
theorem c_X2_doze (l : Launch) (D : va_G) (cI cZ : ClassId) (a : Nat → Nat) (ha : (rL a).Nodup) (n : Nat) (S : rSt) (hok : rOk n S) : mV l yX2_doze wsX2_doze (rmz 1 23) D (rT cI cZ) (rL a) [.ref (a 0)] (rW cI cZ a S) (rW cI cZ a (R_doze n S)) := by
  intro sz
  refine Met.ofW (cc := cX2_doze) (maxL := 2) (ret := none) (by decide) rfl ?_
  intro p e s m args below meth c s₁ B hml hv
  obtain ⟨rfl, hsz, hP, hK⟩ := hv
  have hx := B.exec
  have hb := B.bytes
  have hr := B.returns
  have hts := atoms_spec (ws := wsX2_doze) B.pre
  have hin : ∀ w ∈ wsX20, w ∈ wsX2_doze := fun w h => List.mem_cons_of_mem _ (List.mem_append_right _ h)
  have hown : s.vm.findClass RX2 = some m.cls := findClass_of_methodNamed B.named
  have hlocks := B.notSynchronized
  have hn12 : n ≤ 12 := hok.2.1
  subst hsz
  have hS : va_S (wA (rL a) s.heap.size) s.heap s.heap [] := va_S.rf
  have hl := lv_entry ([.ref (a 0)]) (n := 2) (Nat.le_of_ble_eq_true rfl)
  rw [lg_entry_eq]
  generalize (lg_sl ([.ref (a 0)]) ++ List.replicate (2 - (lg_sl ([.ref (a 0)])).length) Slot.unset).toArray = ls at hl ⊢
  have hl : lv_has ls 2 [(0, .ref (a 0))] := hl
  have hok0 := hok
  refine lv_iconst (v := 0) hx hb dX2_doze_0 (by decide) ?_
  refine lv_istore_n (lv' := [(1, .int 0), (0, .ref (a 0))]) hx hb dX2_doze_1 rfl hl (by decide) rfl (fun ls hl => ?_)
  refine w_loop (σ := Nat) (I := fun k1 H locs ls => k1 ≤ n ∧ va_P D vwCl (rW cI cZ a (R_doze1_it n S k1)) H ∧ va_S (wA (rL a) s.heap.size) s.heap H locs ∧ lv_has ls 2 [(0, .ref (a 0)), (1, .int (nI k1))]) (fun k1 => n - k1) ?_ 0 ⟨Nat.zero_le _, hP, hS, lv_sub hl [1, 0] rfl⟩
  intro k1 H locs ls hI ih
  obtain ⟨hk, hP, hS, hl⟩ := hI
  have hok : rOk n (R_doze1_it n S k1) := R_doze1_it_ok n S k1 hok0
  refine lv_iload_n hx hb dX2_doze_2 rfl (lv_at hl 1 rfl) ?_
  refine lv_aload_n hx hb dX2_doze_3 rfl (lv_at hl 0 rfl) ?_
  refine r_get (S := (R_doze1_it n S k1)) (v := .int (nI n)) hx hb hts hin hown hK hP 0 (by decide) (by decide +kernel) rfl (congrArg (fun z => some (Value.int z)) hok.1) dX2_doze_4 ?_
  refine lv_icmp_ge (tgt := 54) hx hb dX2_doze_7 (by decide) (fun c2 => ?_) (fun c2 => ?_)
  · have hkn : k1 = n := Nat.le_antisymm hk ((nI_leI (by omega) (by omega)).mp c2)
    rw [hkn] at hP hl
    have hok : rOk n (R_doze1_it n S n) := R_doze1_it_ok n S n hok0
    refine lv_iconst (v := 0) hx hb dX2_doze_54 (by decide) ?_
    refine lv_istore_n (lv' := [(1, .int 0), (0, .ref (a 0))]) hx hb dX2_doze_55 rfl hl (by decide) rfl (fun ls hl => ?_)
    refine w_loop (σ := Nat) (I := fun k3 H locs ls => k3 ≤ n ∧ va_P D vwCl (rW cI cZ a (R_doze2_it n (R_doze1_it n S n) k3)) H ∧ va_S (wA (rL a) s.heap.size) s.heap H locs ∧ lv_has ls 2 [(0, .ref (a 0)), (1, .int (nI k3))]) (fun k3 => n - k3) ?_ 0 ⟨Nat.zero_le _, hP, hS, lv_sub hl [1, 0] rfl⟩
    intro k3 H locs ls hI ih
    obtain ⟨hk, hP, hS, hl⟩ := hI
    have hok : rOk n (R_doze2_it n (R_doze1_it n S n) k3) := R_doze2_it_ok n _ k3 (R_doze1_it_ok n S n hok0)
    refine lv_iload_n hx hb dX2_doze_56 rfl (lv_at hl 1 rfl) ?_
    refine lv_aload_n hx hb dX2_doze_57 rfl (lv_at hl 0 rfl) ?_
    refine r_get (S := (R_doze2_it n (R_doze1_it n S n) k3)) (v := .int (nI n)) hx hb hts hin hown hK hP 0 (by decide) (by decide +kernel) rfl (congrArg (fun z => some (Value.int z)) hok.1) dX2_doze_58 ?_
    refine lv_icmp_ge (tgt := 97) hx hb dX2_doze_61 (by decide) (fun c4 => ?_) (fun c4 => ?_)
    · have hkn : k3 = n := Nat.le_antisymm hk ((nI_leI (by omega) (by omega)).mp c4)
      rw [hkn] at hP hl
      have hok : rOk n (R_doze2_it n (R_doze1_it n S n) n) := R_doze2_it_ok n _ n (R_doze1_it_ok n S n hok0)
      refine lv_iconst (v := 0) hx hb dX2_doze_97 (by decide) ?_
      refine lv_istore_n (lv' := [(1, .int 0), (0, .ref (a 0))]) hx hb dX2_doze_98 rfl hl (by decide) rfl (fun ls hl => ?_)
      refine w_loop (σ := Nat) (I := fun k5 H locs ls => k5 ≤ n ∧ va_P D vwCl (rW cI cZ a (R_doze3_it n (R_doze2_it n (R_doze1_it n S n) n) k5)) H ∧ va_S (wA (rL a) s.heap.size) s.heap H locs ∧ lv_has ls 2 [(0, .ref (a 0)), (1, .int (nI k5))]) (fun k5 => n - k5) ?_ 0 ⟨Nat.zero_le _, hP, hS, lv_sub hl [1, 0] rfl⟩
      intro k5 H locs ls hI ih
      obtain ⟨hk, hP, hS, hl⟩ := hI
      have hok : rOk n (R_doze3_it n (R_doze2_it n (R_doze1_it n S n) n) k5) := R_doze3_it_ok n _ k5 (R_doze2_it_ok n _ n (R_doze1_it_ok n S n hok0))
      refine lv_iload_n hx hb dX2_doze_99 rfl (lv_at hl 1 rfl) ?_
      refine lv_aload_n hx hb dX2_doze_100 rfl (lv_at hl 0 rfl) ?_
      refine r_get (S := (R_doze3_it n (R_doze2_it n (R_doze1_it n S n) n) k5)) (v := .int (nI n)) hx hb hts hin hown hK hP 0 (by decide) (by decide +kernel) rfl (congrArg (fun z => some (Value.int z)) hok.1) dX2_doze_101 ?_
      refine lv_icmp_ge (tgt := 153) hx hb dX2_doze_104 (by decide) (fun c6 => ?_) (fun c6 => ?_)
      · have hkn : k5 = n := Nat.le_antisymm hk ((nI_leI (by omega) (by omega)).mp c6)
        rw [hkn] at hP hl
        have hok : rOk n (R_doze3_it n (R_doze2_it n (R_doze1_it n S n) n) n) := R_doze3_it_ok n _ n (R_doze2_it_ok n _ n (R_doze1_it_ok n S n hok0))
        have hE : R_doze n S = (R_doze3_it n (R_doze2_it n (R_doze1_it n S n) n) n) := by first | (simp only [R_doze]; done) | (simp only [R_doze]; rfl)
        exact W.vret hx hb hr (fun tt ht hW => ⟨⟨(), rfl, trivial, by rw [ht, hE]; exact hP, va_K.moved hW.alike hK⟩, hS.F ht⟩) hS.2.2 dX2_doze_153
      · have hlt : k5 < n := Nat.lt_of_not_le (fun z => c6 ((nI_leI (by omega) (by omega)).mpr z))
        refine lv_aload_n hx hb dX2_doze_107 rfl (lv_at hl 0 rfl) ?_
        refine r_get (S := (R_doze3_it n (R_doze2_it n (R_doze1_it n S n) n) k5)) (v := .ref (a 5)) hx hb hts hin hown hK hP 5 (by decide) (by decide +kernel) rfl rfl dX2_doze_108 ?_
        refine lv_iload_n hx hb dX2_doze_111 rfl (lv_at hl 1 rfl) ?_
        refine r_ald (S := (R_doze3_it n (R_doze2_it n (R_doze1_it n S n) n) k5)) (x := (R_doze3_it n (R_doze2_it n (R_doze1_it n S n) n) k5).2 5 k5) hx hb hK hP 5 (by decide) (j := k5) (by omega) rfl dX2_doze_112 ?_
        refine lv_iconst (v := 2) hx hb dX2_doze_113 (by decide) ?_
        refine lv_icmp_ne (tgt := 147) hx hb dX2_doze_114 (by decide) (fun c7 => ?_) (fun c7 => ?_)
        · refine lv_iinc (v := nI (k5 + 1)) (lv' := [(1, .int (nI (k5 + 1))), (0, .ref (a 0))]) hx hb dX2_doze_147 hl (k := 1) rfl (nI_1 _) (by decide) rfl (fun ls hl => ?_)
          refine lv_goto (tgt := 99) hx hb dX2_doze_150 (by decide) ?_
          have hE : R_doze3_it n (R_doze2_it n (R_doze1_it n S n) n) (k5 + 1) = (R_doze3_it n (R_doze2_it n (R_doze1_it n S n) n) k5) := by show R_doze3_b n k5 (R_doze3_it n (R_doze2_it n (R_doze1_it n S n) n) k5) = _; first | (simp only [R_doze3_b, if_neg c7]; done) | (simp only [R_doze3_b, if_neg c7]; rfl)
          exact ih (k5 + 1) H locs ls (by omega) ⟨by omega, by rw [hE]; exact hP, hS, by exact lv_sub hl [1, 0] rfl⟩
        · refine lv_aload_n hx hb dX2_doze_117 rfl (lv_at hl 0 rfl) ?_
          refine r_get (S := (R_doze3_it n (R_doze2_it n (R_doze1_it n S n) n) k5)) (v := .ref (a 4)) hx hb hts hin hown hK hP 4 (by decide) (by decide +kernel) rfl rfl dX2_doze_118 ?_
          refine lv_iload_n hx hb dX2_doze_121 rfl (lv_at hl 1 rfl) ?_
          refine r_ald (S := (R_doze3_it n (R_doze2_it n (R_doze1_it n S n) n) k5)) (x := (R_doze3_it n (R_doze2_it n (R_doze1_it n S n) n) k5).2 4 k5) hx hb hK hP 4 (by decide) (j := k5) (by omega) rfl dX2_doze_122 ?_
          refine lv_if_le (tgt := 147) hx hb dX2_doze_123 (by decide) (fun c8 => ?_) (fun c8 => ?_)
          · refine lv_iinc (v := nI (k5 + 1)) (lv' := [(1, .int (nI (k5 + 1))), (0, .ref (a 0))]) hx hb dX2_doze_147 hl (k := 1) rfl (nI_1 _) (by decide) rfl (fun ls hl => ?_)
            refine lv_goto (tgt := 99) hx hb dX2_doze_150 (by decide) ?_
            have hE : R_doze3_it n (R_doze2_it n (R_doze1_it n S n) n) (k5 + 1) = (R_doze3_it n (R_doze2_it n (R_doze1_it n S n) n) k5) := by show R_doze3_b n k5 (R_doze3_it n (R_doze2_it n (R_doze1_it n S n) n) k5) = _; first | (simp only [R_doze3_b, if_pos c7, if_pos c8]; done) | (simp only [R_doze3_b, if_pos c7, if_pos c8]; rfl)
            exact ih (k5 + 1) H locs ls (by omega) ⟨by omega, by rw [hE]; exact hP, hS, by exact lv_sub hl [1, 0] rfl⟩
          · refine lv_aload_n hx hb dX2_doze_126 rfl (lv_at hl 0 rfl) ?_
            refine r_get (S := (R_doze3_it n (R_doze2_it n (R_doze1_it n S n) n) k5)) (v := .ref (a 8)) hx hb hts hin hown hK hP 8 (by decide) (by decide +kernel) rfl rfl dX2_doze_127 ?_
            refine lv_iload_n hx hb dX2_doze_130 rfl (lv_at hl 1 rfl) ?_
            refine r_ald (S := (R_doze3_it n (R_doze2_it n (R_doze1_it n S n) n) k5)) (x := (R_doze3_it n (R_doze2_it n (R_doze1_it n S n) n) k5).2 8 k5) hx hb hK hP 8 (by decide) (j := k5) (by omega) rfl dX2_doze_131 ?_
            refine lv_aload_n hx hb dX2_doze_132 rfl (lv_at hl 0 rfl) ?_
            refine r_get (S := (R_doze3_it n (R_doze2_it n (R_doze1_it n S n) n) k5)) (v := .ref (a 4)) hx hb hts hin hown hK hP 4 (by decide) (by decide +kernel) rfl rfl dX2_doze_133 ?_
            refine lv_iload_n hx hb dX2_doze_136 rfl (lv_at hl 1 rfl) ?_
            refine r_ald (S := (R_doze3_it n (R_doze2_it n (R_doze1_it n S n) n) k5)) (x := (R_doze3_it n (R_doze2_it n (R_doze1_it n S n) n) k5).2 4 k5) hx hb hK hP 4 (by decide) (j := k5) (by omega) rfl dX2_doze_137 ?_
            refine lv_icmp_lt (tgt := 147) hx hb dX2_doze_138 (by decide) (fun c9 => ?_) (fun c9 => ?_)
            · refine lv_iinc (v := nI (k5 + 1)) (lv' := [(1, .int (nI (k5 + 1))), (0, .ref (a 0))]) hx hb dX2_doze_147 hl (k := 1) rfl (nI_1 _) (by decide) rfl (fun ls hl => ?_)
              refine lv_goto (tgt := 99) hx hb dX2_doze_150 (by decide) ?_
              have hE : R_doze3_it n (R_doze2_it n (R_doze1_it n S n) n) (k5 + 1) = (R_doze3_it n (R_doze2_it n (R_doze1_it n S n) n) k5) := by show R_doze3_b n k5 (R_doze3_it n (R_doze2_it n (R_doze1_it n S n) n) k5) = _; first | (simp only [R_doze3_b, if_pos c7, if_neg c8, if_pos c9]; done) | (simp only [R_doze3_b, if_pos c7, if_neg c8, if_pos c9]; rfl)
              exact ih (k5 + 1) H locs ls (by omega) ⟨by omega, by rw [hE]; exact hP, hS, by exact lv_sub hl [1, 0] rfl⟩
            · refine lv_aload_n hx hb dX2_doze_141 rfl (lv_at hl 0 rfl) ?_
              refine lv_iload_n hx hb dX2_doze_142 rfl (lv_at hl 1 rfl) ?_
              refine lv_iconst (v := 1) hx hb dX2_doze_143 (by decide) ?_
              refine m_callv (As := [.int (nI k5), .int 1]) (rest := []) ⟨hx, hb, hml, hown, hts⟩ (c_X2_become l D cI cZ a ha n (R_doze3_it n (R_doze2_it n (R_doze1_it n S n) n) k5) hok k5 (by omega) 1) (cwV 2 hts gX2_doze_X2_become rfl rfl rfl (by decide +kernel) ⟨Nat.le_of_ble_eq_true rfl, Nat.le_of_ble_eq_true rfl⟩) hK hP hS (fun q h => wA_up hS.1 q h) (va_recv hK hP (ci := 3) (q0 := 0) rfl rfl) rfl hl.1 rfl (Nat.le_of_ble_eq_true rfl) dX2_doze_144 ⟨Nat.zero_le _, Nat.zero_le _⟩ (fun H locs hP hS _ => ?_)
              have hok : rOk n (R_become n (R_doze3_it n (R_doze2_it n (R_doze1_it n S n) n) k5) k5 1) := R_become_ok n (R_doze3_it n (R_doze2_it n (R_doze1_it n S n) n) k5) k5 1 hok
              refine lv_iinc (v := nI (k5 + 1)) (lv' := [(1, .int (nI (k5 + 1))), (0, .ref (a 0))]) hx hb dX2_doze_147 hl (k := 1) rfl (nI_1 _) (by decide) rfl (fun ls hl => ?_)
              refine lv_goto (tgt := 99) hx hb dX2_doze_150 (by decide) ?_
              have hE : R_doze3_it n (R_doze2_it n (R_doze1_it n S n) n) (k5 + 1) = (R_become n (R_doze3_it n (R_doze2_it n (R_doze1_it n S n) n) k5) k5 1) := by show R_doze3_b n k5 (R_doze3_it n (R_doze2_it n (R_doze1_it n S n) n) k5) = _; first | (simp only [R_doze3_b, if_pos c7, if_neg c8, if_neg c9]; done) | (simp only [R_doze3_b, if_pos c7, if_neg c8, if_neg c9]; rfl)
              exact ih (k5 + 1) H locs ls (by omega) ⟨by omega, by rw [hE]; exact hP, hS, by exact lv_sub hl [1, 0] rfl⟩
    · have hlt : k3 < n := Nat.lt_of_not_le (fun z => c4 ((nI_leI (by omega) (by omega)).mpr z))
      refine lv_aload_n hx hb dX2_doze_64 rfl (lv_at hl 0 rfl) ?_
      refine r_get (S := (R_doze2_it n (R_doze1_it n S n) k3)) (v := .ref (a 8)) hx hb hts hin hown hK hP 8 (by decide) (by decide +kernel) rfl rfl dX2_doze_65 ?_
      refine lv_iload_n hx hb dX2_doze_68 rfl (lv_at hl 1 rfl) ?_
      refine lv_aload_n hx hb dX2_doze_69 rfl (lv_at hl 0 rfl) ?_
      refine r_get (S := (R_doze2_it n (R_doze1_it n S n) k3)) (v := .ref (a 11)) hx hb hts hin hown hK hP 11 (by decide) (by decide +kernel) rfl rfl dX2_doze_70 ?_
      refine lv_iload_n hx hb dX2_doze_73 rfl (lv_at hl 1 rfl) ?_
      refine r_zald (S := (R_doze2_it n (R_doze1_it n S n) k3)) (x := (R_doze2_it n (R_doze1_it n S n) k3).2 11 k3) hx hb hK hP 11 (by decide) (j := k3) (by omega) rfl dX2_doze_74 ?_
      refine lv_if_eq (tgt := 89) hx hb dX2_doze_75 (by decide) (fun c10 => ?_) (fun c10 => ?_)
      · refine lv_iconst (v := 0) hx hb dX2_doze_89 (by decide) ?_
        refine r_ast ha hx hb hK hP hS 8 (by decide) (j := k3) (by omega) dX2_doze_90 (fun H locs hP hS => ?_)
        have hP : va_P D vwCl (rW cI cZ a ((R_doze2_it n (R_doze1_it n S n) k3).1, up2 ((R_doze2_it n (R_doze1_it n S n) k3).2) 8 k3 0)) H := hP
        refine lv_iinc (v := nI (k3 + 1)) (lv' := [(1, .int (nI (k3 + 1))), (0, .ref (a 0))]) hx hb dX2_doze_91 hl (k := 1) rfl (nI_1 _) (by decide) rfl (fun ls hl => ?_)
        refine lv_goto (tgt := 56) hx hb dX2_doze_94 (by decide) ?_
        have hE : R_doze2_it n (R_doze1_it n S n) (k3 + 1) = ((R_doze2_it n (R_doze1_it n S n) k3).1, up2 ((R_doze2_it n (R_doze1_it n S n) k3).2) 8 k3 0) := by show R_doze2_b k3 (R_doze2_it n (R_doze1_it n S n) k3) = _; first | (simp only [R_doze2_b, if_pos c10]; done) | (simp only [R_doze2_b, if_pos c10]; rfl)
        exact ih (k3 + 1) H locs ls (by omega) ⟨by omega, by rw [hE]; exact hP, hS, by exact lv_sub hl [1, 0] rfl⟩
      · refine lv_aload_n hx hb dX2_doze_78 rfl (lv_at hl 0 rfl) ?_
        refine r_get (S := (R_doze2_it n (R_doze1_it n S n) k3)) (v := .ref (a 8)) hx hb hts hin hown hK hP 8 (by decide) (by decide +kernel) rfl rfl dX2_doze_79 ?_
        refine lv_iload_n hx hb dX2_doze_82 rfl (lv_at hl 1 rfl) ?_
        refine r_ald (S := (R_doze2_it n (R_doze1_it n S n) k3)) (x := (R_doze2_it n (R_doze1_it n S n) k3).2 8 k3) hx hb hK hP 8 (by decide) (j := k3) (by omega) rfl dX2_doze_83 ?_
        refine lv_iconst (v := 1) hx hb dX2_doze_84 (by decide) ?_
        refine lv_iadd hx hb dX2_doze_85 ?_
        refine lv_goto (tgt := 90) hx hb dX2_doze_86 (by decide) ?_
        refine r_ast ha hx hb hK hP hS 8 (by decide) (j := k3) (by omega) dX2_doze_90 (fun H locs hP hS => ?_)
        have hP : va_P D vwCl (rW cI cZ a ((R_doze2_it n (R_doze1_it n S n) k3).1, up2 ((R_doze2_it n (R_doze1_it n S n) k3).2) 8 k3 (((R_doze2_it n (R_doze1_it n S n) k3).2 8 k3) + 1))) H := hP
        refine lv_iinc (v := nI (k3 + 1)) (lv' := [(1, .int (nI (k3 + 1))), (0, .ref (a 0))]) hx hb dX2_doze_91 hl (k := 1) rfl (nI_1 _) (by decide) rfl (fun ls hl => ?_)
        refine lv_goto (tgt := 56) hx hb dX2_doze_94 (by decide) ?_
        have hE : R_doze2_it n (R_doze1_it n S n) (k3 + 1) = ((R_doze2_it n (R_doze1_it n S n) k3).1, up2 ((R_doze2_it n (R_doze1_it n S n) k3).2) 8 k3 (((R_doze2_it n (R_doze1_it n S n) k3).2 8 k3) + 1)) := by show R_doze2_b k3 (R_doze2_it n (R_doze1_it n S n) k3) = _; first | (simp only [R_doze2_b, if_neg c10]; done) | (simp only [R_doze2_b, if_neg c10]; rfl)
        exact ih (k3 + 1) H locs ls (by omega) ⟨by omega, by rw [hE]; exact hP, hS, by exact lv_sub hl [1, 0] rfl⟩
  · have hlt : k1 < n := Nat.lt_of_not_le (fun z => c2 ((nI_leI (by omega) (by omega)).mpr z))
    refine lv_aload_n hx hb dX2_doze_10 rfl (lv_at hl 0 rfl) ?_
    refine r_get (S := (R_doze1_it n S k1)) (v := .ref (a 11)) hx hb hts hin hown hK hP 11 (by decide) (by decide +kernel) rfl rfl dX2_doze_11 ?_
    refine lv_iload_n hx hb dX2_doze_14 rfl (lv_at hl 1 rfl) ?_
    refine lv_aload_n hx hb dX2_doze_15 rfl (lv_at hl 0 rfl) ?_
    refine r_get (S := (R_doze1_it n S k1)) (v := .ref (a 5)) hx hb hts hin hown hK hP 5 (by decide) (by decide +kernel) rfl rfl dX2_doze_16 ?_
    refine lv_iload_n hx hb dX2_doze_19 rfl (lv_at hl 1 rfl) ?_
    refine r_ald (S := (R_doze1_it n S k1)) (x := (R_doze1_it n S k1).2 5 k1) hx hb hK hP 5 (by decide) (j := k1) (by omega) rfl dX2_doze_20 ?_
    refine lv_iconst (v := 2) hx hb dX2_doze_21 (by decide) ?_
    refine lv_icmp_ne (tgt := 46) hx hb dX2_doze_22 (by decide) (fun c11 => ?_) (fun c11 => ?_)
    · refine lv_iconst (v := 0) hx hb dX2_doze_46 (by decide) ?_
      refine r_zast ha hx hb hK hP hS 11 (by decide) (j := k1) (by omega) (Or.inl rfl) dX2_doze_47 (fun H locs hP hS => ?_)
      have hP : va_P D vwCl (rW cI cZ a ((R_doze1_it n S k1).1, up2 ((R_doze1_it n S k1).2) 11 k1 0)) H := hP
      refine lv_iinc (v := nI (k1 + 1)) (lv' := [(1, .int (nI (k1 + 1))), (0, .ref (a 0))]) hx hb dX2_doze_48 hl (k := 1) rfl (nI_1 _) (by decide) rfl (fun ls hl => ?_)
      refine lv_goto (tgt := 2) hx hb dX2_doze_51 (by decide) ?_
      have hE : R_doze1_it n S (k1 + 1) = ((R_doze1_it n S k1).1, up2 ((R_doze1_it n S k1).2) 11 k1 0) := by show R_doze1_b n k1 (R_doze1_it n S k1) = _; first | (simp only [R_doze1_b, if_neg c11]; done) | (simp only [R_doze1_b, if_neg c11]; rfl)
      exact ih (k1 + 1) H locs ls (by omega) ⟨by omega, by rw [hE]; exact hP, hS, by exact lv_sub hl [1, 0] rfl⟩
    · refine lv_aload_n hx hb dX2_doze_25 rfl (lv_at hl 0 rfl) ?_
      refine r_get (S := (R_doze1_it n S k1)) (v := .ref (a 7)) hx hb hts hin hown hK hP 7 (by decide) (by decide +kernel) rfl rfl dX2_doze_26 ?_
      refine lv_iload_n hx hb dX2_doze_29 rfl (lv_at hl 1 rfl) ?_
      refine r_ald (S := (R_doze1_it n S k1)) (x := (R_doze1_it n S k1).2 7 k1) hx hb hK hP 7 (by decide) (j := k1) (by omega) rfl dX2_doze_30 ?_
      refine lv_if_ne (tgt := 46) hx hb dX2_doze_31 (by decide) (fun c12 => ?_) (fun c12 => ?_)
      · refine lv_iconst (v := 0) hx hb dX2_doze_46 (by decide) ?_
        refine r_zast ha hx hb hK hP hS 11 (by decide) (j := k1) (by omega) (Or.inl rfl) dX2_doze_47 (fun H locs hP hS => ?_)
        have hP : va_P D vwCl (rW cI cZ a ((R_doze1_it n S k1).1, up2 ((R_doze1_it n S k1).2) 11 k1 0)) H := hP
        refine lv_iinc (v := nI (k1 + 1)) (lv' := [(1, .int (nI (k1 + 1))), (0, .ref (a 0))]) hx hb dX2_doze_48 hl (k := 1) rfl (nI_1 _) (by decide) rfl (fun ls hl => ?_)
        refine lv_goto (tgt := 2) hx hb dX2_doze_51 (by decide) ?_
        have hE : R_doze1_it n S (k1 + 1) = ((R_doze1_it n S k1).1, up2 ((R_doze1_it n S k1).2) 11 k1 0) := by show R_doze1_b n k1 (R_doze1_it n S k1) = _; first | (simp only [R_doze1_b, if_pos c11, if_neg c12]; done) | (simp only [R_doze1_b, if_pos c11, if_neg c12]; rfl)
        exact ih (k1 + 1) H locs ls (by omega) ⟨by omega, by rw [hE]; exact hP, hS, by exact lv_sub hl [1, 0] rfl⟩
      · refine lv_aload_n hx hb dX2_doze_34 rfl (lv_at hl 0 rfl) ?_
        refine lv_iload_n hx hb dX2_doze_35 rfl (lv_at hl 1 rfl) ?_
        refine m_callR (As := [.int (nI k1)]) (rest := [.int (nI k1), .ref (a 11)]) ⟨hx, hb, hml, hown, hts⟩ (c_X2_childOn l D cI cZ a ha n (R_doze1_it n S k1) hok k1 (by omega)) (cwV 1 hts gX2_doze_X2_childOn rfl rfl rfl (by decide +kernel) ⟨Nat.le_of_ble_eq_true rfl, Nat.le_of_ble_eq_true rfl⟩) hK hP (va_recv hK hP (ci := 3) (q0 := 0) rfl rfl) rfl hl.1 rfl (Nat.le_of_ble_eq_true rfl) dX2_doze_36 ⟨Nat.zero_le _, Nat.zero_le _⟩ ?_
        refine lv_if_ne (tgt := 46) hx hb dX2_doze_39 (by decide) (fun c13 => ?_) (fun c13 => ?_)
        · refine lv_iconst (v := 0) hx hb dX2_doze_46 (by decide) ?_
          refine r_zast ha hx hb hK hP hS 11 (by decide) (j := k1) (by omega) (Or.inl rfl) dX2_doze_47 (fun H locs hP hS => ?_)
          have hP : va_P D vwCl (rW cI cZ a ((R_doze1_it n S k1).1, up2 ((R_doze1_it n S k1).2) 11 k1 0)) H := hP
          refine lv_iinc (v := nI (k1 + 1)) (lv' := [(1, .int (nI (k1 + 1))), (0, .ref (a 0))]) hx hb dX2_doze_48 hl (k := 1) rfl (nI_1 _) (by decide) rfl (fun ls hl => ?_)
          refine lv_goto (tgt := 2) hx hb dX2_doze_51 (by decide) ?_
          have hE : R_doze1_it n S (k1 + 1) = ((R_doze1_it n S k1).1, up2 ((R_doze1_it n S k1).2) 11 k1 0) := by show R_doze1_b n k1 (R_doze1_it n S k1) = _; first | (simp only [R_doze1_b, if_pos c11, if_pos c12, if_neg c13]; done) | (simp only [R_doze1_b, if_pos c11, if_pos c12, if_neg c13]; rfl)
          exact ih (k1 + 1) H locs ls (by omega) ⟨by omega, by rw [hE]; exact hP, hS, by exact lv_sub hl [1, 0] rfl⟩
        · refine lv_iconst (v := 1) hx hb dX2_doze_42 (by decide) ?_
          refine lv_goto (tgt := 47) hx hb dX2_doze_43 (by decide) ?_
          refine r_zast ha hx hb hK hP hS 11 (by decide) (j := k1) (by omega) (Or.inr rfl) dX2_doze_47 (fun H locs hP hS => ?_)
          have hP : va_P D vwCl (rW cI cZ a ((R_doze1_it n S k1).1, up2 ((R_doze1_it n S k1).2) 11 k1 1)) H := hP
          refine lv_iinc (v := nI (k1 + 1)) (lv' := [(1, .int (nI (k1 + 1))), (0, .ref (a 0))]) hx hb dX2_doze_48 hl (k := 1) rfl (nI_1 _) (by decide) rfl (fun ls hl => ?_)
          refine lv_goto (tgt := 2) hx hb dX2_doze_51 (by decide) ?_
          have hE : R_doze1_it n S (k1 + 1) = ((R_doze1_it n S k1).1, up2 ((R_doze1_it n S k1).2) 11 k1 1) := by show R_doze1_b n k1 (R_doze1_it n S k1) = _; first | (simp only [R_doze1_b, if_pos c11, if_pos c12, if_pos c13]; done) | (simp only [R_doze1_b, if_pos c11, if_pos c12, if_pos c13]; rfl)
          exact ih (k1 + 1) H locs ls (by omega) ⟨by omega, by rw [hE]; exact hP, hS, by exact lv_sub hl [1, 0] rfl⟩

def R_work (n : Nat) (S : rSt) : rSt :=
  if (S.1 14) - 1 ≤ 0 then (if S.1 12 = 1 then (if S.2 9 ((S.1 13).toNatClampNeg) ≤ 0 then (R_follow n (R_become n (upd (upd (S.1) 14 ((S.1 14) - 1)) 13 (-1), S.2) ((S.1 13).toNatClampNeg) 0))
      else (R_follow n (R_giveUp n (upd (upd (S.1) 14 ((S.1 14) - 1)) 13 (-1), up2 (S.2) 9 ((S.1 13).toNatClampNeg) ((S.2 9 ((S.1 13).toNatClampNeg)) - 1)) 1 (S.1 13))))
    else (R_follow n (R_become n (upd (upd (S.1) 14 ((S.1 14) - 1)) 13 (-1), S.2) ((S.1 13).toNatClampNeg) 2)))
  else (upd (S.1) 14 ((S.1 14) - 1), S.2)
theorem R_work_sm (n : Nat) (S : rSt) : rSm S (R_work n S) := by
  unfold R_work
  split
  · split
    · split
      · exact (((show rSm S (upd (upd (S.1) 14 ((S.1 14) - 1)) 13 (-1), S.2) from ⟨rfl, rfl⟩)).tr (R_become_sm n (upd (upd (S.1) 14 ((S.1 14) - 1)) 13 (-1), S.2) ((S.1 13).toNatClampNeg) 0)).tr (R_follow_sm n (R_become n (upd (upd (S.1) 14 ((S.1 14) - 1)) 13 (-1), S.2) ((S.1 13).toNatClampNeg) 0))
      · exact (((show rSm S (upd (upd (S.1) 14 ((S.1 14) - 1)) 13 (-1), up2 (S.2) 9 ((S.1 13).toNatClampNeg) ((S.2 9 ((S.1 13).toNatClampNeg)) - 1)) from ⟨rfl, rfl⟩)).tr (R_giveUp_sm n (upd (upd (S.1) 14 ((S.1 14) - 1)) 13 (-1), up2 (S.2) 9 ((S.1 13).toNatClampNeg) ((S.2 9 ((S.1 13).toNatClampNeg)) - 1)) 1 (S.1 13))).tr (R_follow_sm n (R_giveUp n (upd (upd (S.1) 14 ((S.1 14) - 1)) 13 (-1), up2 (S.2) 9 ((S.1 13).toNatClampNeg) ((S.2 9 ((S.1 13).toNatClampNeg)) - 1)) 1 (S.1 13)))
    · exact (((show rSm S (upd (upd (S.1) 14 ((S.1 14) - 1)) 13 (-1), S.2) from ⟨rfl, rfl⟩)).tr (R_become_sm n (upd (upd (S.1) 14 ((S.1 14) - 1)) 13 (-1), S.2) ((S.1 13).toNatClampNeg) 2)).tr (R_follow_sm n (R_become n (upd (upd (S.1) 14 ((S.1 14) - 1)) 13 (-1), S.2) ((S.1 13).toNatClampNeg) 2))
  · exact (show rSm S (upd (S.1) 14 ((S.1 14) - 1), S.2) from ⟨rfl, rfl⟩)
theorem R_work_ok (n : Nat) (S : rSt) (hok : rOk n S) : rOk n (R_work n S) := rOk_of (R_work_sm n S) hok
set_option maxHeartbeats 4000000 in
set_option maxRecDepth 100000 in
theorem c_X2_work (l : Launch) (D : va_G) (cI cZ : ClassId) (a : Nat → Nat) (ha : (rL a).Nodup) (n : Nat) (S : rSt) (hok : rOk n S) (j : Nat) (hj : j < n) (hdj : S.1 13 = nI j) : mV l yX2_work wsX2_work (rmz 5 113) D (rT cI cZ) (rL a) [.ref (a 0)] (rW cI cZ a S) (rW cI cZ a (R_work n S)) := by
  intro sz
  refine Met.ofW (cc := cX2_work) (maxL := 2) (ret := none) (by decide) rfl ?_
  intro p e s m args below meth c s₁ B hml hv
  obtain ⟨rfl, hsz, hP, hK⟩ := hv
  have hx := B.exec
  have hb := B.bytes
  have hr := B.returns
  have hts := atoms_spec (ws := wsX2_work) B.pre
  have hin : ∀ w ∈ wsX20, w ∈ wsX2_work := fun w h => List.mem_cons_of_mem _ (List.mem_append_right _ h)
  have hown : s.vm.findClass RX2 = some m.cls := findClass_of_methodNamed B.named
  have hlocks := B.notSynchronized
  have hn12 : n ≤ 12 := hok.2.1
  subst hsz
  have hS : va_S (wA (rL a) s.heap.size) s.heap s.heap [] := va_S.rf
  have hl := lv_entry ([.ref (a 0)]) (n := 2) (Nat.le_of_ble_eq_true rfl)
  rw [lg_entry_eq]
  generalize (lg_sl ([.ref (a 0)]) ++ List.replicate (2 - (lg_sl ([.ref (a 0)])).length) Slot.unset).toArray = ls at hl ⊢
  have hl : lv_has ls 2 [(0, .ref (a 0))] := hl
  refine lv_aload_n hx hb dX2_work_0 rfl (lv_at hl 0 rfl) ?_
  refine lv_dup hx hb dX2_work_1 rfl ?_
  refine r_get (S := S) (v := .int (S.1 14)) hx hb hts hin hown hK hP 14 (by decide) (by decide +kernel) rfl rfl dX2_work_2 ?_
  refine lv_iconst (v := 1) hx hb dX2_work_5 (by decide) ?_
  refine lv_isub hx hb dX2_work_6 ?_
  refine r_put ha hx hb hts hin hown hK hP hS 14 (by decide) (by decide +kernel) ⟨rfl, rfl, rfl⟩ dX2_work_7 (fun H locs hP hS => ?_)
  have hP : va_P D vwCl (rW cI cZ a (upd (S.1) 14 ((S.1 14) - 1), S.2)) H := hP
  refine lv_aload_n hx hb dX2_work_10 rfl (lv_at hl 0 rfl) ?_
  refine r_get (S := (upd (S.1) 14 ((S.1 14) - 1), S.2)) (v := .int ((S.1 14) - 1)) hx hb hts hin hown hK hP 14 (by decide) (by decide +kernel) rfl rfl dX2_work_11 ?_
  refine lv_if_le (tgt := 18) hx hb dX2_work_14 (by decide) (fun c1 => ?_) (fun c1 => ?_)
  · refine lv_aload_n hx hb dX2_work_18 rfl (lv_at hl 0 rfl) ?_
    refine r_get (S := (upd (S.1) 14 ((S.1 14) - 1), S.2)) (v := .int (nI j)) hx hb hts hin hown hK hP 13 (by decide) (by decide +kernel) rfl (congrArg (fun z => some (Value.int z)) hdj) dX2_work_19 ?_
    refine lv_istore_n (lv' := [(1, .int (nI j)), (0, .ref (a 0))]) hx hb dX2_work_22 rfl hl (by decide) rfl (fun ls hl => ?_)
    refine lv_aload_n hx hb dX2_work_23 rfl (lv_at hl 1 rfl) ?_
    refine lv_iconst (v := (-1)) hx hb dX2_work_24 (by decide) ?_
    refine r_put ha hx hb hts hin hown hK hP hS 13 (by decide) (by decide +kernel) ⟨rfl, rfl, rfl⟩ dX2_work_25 (fun H locs hP hS => ?_)
    have hP : va_P D vwCl (rW cI cZ a (upd (upd (S.1) 14 ((S.1 14) - 1)) 13 (-1), S.2)) H := hP
    refine lv_aload_n hx hb dX2_work_28 rfl (lv_at hl 1 rfl) ?_
    refine r_get (S := (upd (upd (S.1) 14 ((S.1 14) - 1)) 13 (-1), S.2)) (v := .int (S.1 12)) hx hb hts hin hown hK hP 12 (by decide) (by decide +kernel) rfl rfl dX2_work_29 ?_
    refine lv_iconst (v := 1) hx hb dX2_work_32 (by decide) ?_
    refine lv_icmp_eq (tgt := 45) hx hb dX2_work_33 (by decide) (fun c2 => ?_) (fun c2 => ?_)
    · refine lv_aload_n hx hb dX2_work_45 rfl (lv_at hl 1 rfl) ?_
      refine r_get (S := (upd (upd (S.1) 14 ((S.1 14) - 1)) 13 (-1), S.2)) (v := .ref (a 9)) hx hb hts hin hown hK hP 9 (by decide) (by decide +kernel) rfl rfl dX2_work_46 ?_
      refine lv_iload_n hx hb dX2_work_49 rfl (lv_at hl 0 rfl) ?_
      refine r_ald (S := (upd (upd (S.1) 14 ((S.1 14) - 1)) 13 (-1), S.2)) (x := S.2 9 j) hx hb hK hP 9 (by decide) (j := j) (by omega) rfl dX2_work_50 ?_
      refine lv_if_le (tgt := 73) hx hb dX2_work_51 (by decide) (fun c3 => ?_) (fun c3 => ?_)
      · refine lv_aload_n hx hb dX2_work_73 rfl (lv_at hl 1 rfl) ?_
        refine lv_iload_n hx hb dX2_work_74 rfl (lv_at hl 0 rfl) ?_
        refine lv_iconst (v := 0) hx hb dX2_work_75 (by decide) ?_
        refine m_callv (As := [.int (nI j), .int 0]) (rest := []) ⟨hx, hb, hml, hown, hts⟩ (c_X2_become l D cI cZ a ha n (upd (upd (S.1) 14 ((S.1 14) - 1)) 13 (-1), S.2) hok j (by omega) 0) (cwV 2 hts gX2_work_X2_become rfl rfl rfl (by decide +kernel) ⟨Nat.le_of_ble_eq_true rfl, Nat.le_of_ble_eq_true rfl⟩) hK hP hS (fun q h => wA_up hS.1 q h) (va_recv hK hP (ci := 3) (q0 := 0) rfl rfl) rfl hl.1 rfl (Nat.le_of_ble_eq_true rfl) dX2_work_76 ⟨Nat.zero_le _, Nat.zero_le _⟩ (fun H locs hP hS _ => ?_)
        have hok : rOk n (R_become n (upd (upd (S.1) 14 ((S.1 14) - 1)) 13 (-1), S.2) j 0) := R_become_ok n (upd (upd (S.1) 14 ((S.1 14) - 1)) 13 (-1), S.2) j 0 hok
        refine lv_aload_n hx hb dX2_work_79 rfl (lv_at hl 1 rfl) ?_
        refine m_callv (As := []) (rest := []) ⟨hx, hb, hml, hown, hts⟩ (c_X2_follow l D cI cZ a ha n (R_become n (upd (upd (S.1) 14 ((S.1 14) - 1)) 13 (-1), S.2) j 0) hok ) (cwV 0 hts gX2_work_X2_follow rfl rfl rfl (by decide +kernel) ⟨Nat.le_of_ble_eq_true rfl, Nat.le_of_ble_eq_true rfl⟩) hK hP hS (fun q h => wA_up hS.1 q h) (va_recv hK hP (ci := 3) (q0 := 0) rfl rfl) rfl hl.1 rfl (Nat.le_of_ble_eq_true rfl) dX2_work_80 ⟨Nat.zero_le _, Nat.zero_le _⟩ (fun H locs hP hS _ => ?_)
        have hok : rOk n (R_follow n (R_become n (upd (upd (S.1) 14 ((S.1 14) - 1)) 13 (-1), S.2) j 0)) := R_follow_ok n (R_become n (upd (upd (S.1) 14 ((S.1 14) - 1)) 13 (-1), S.2) j 0) hok
        have hE : R_work n S = (R_follow n (R_become n (upd (upd (S.1) 14 ((S.1 14) - 1)) 13 (-1), S.2) j 0)) := by first | (simp only [R_work, if_pos c1, if_pos c2, if_pos c3, hdj, nI_clamp (n := j) (by omega)]; done) | (simp only [R_work, if_pos c1, if_pos c2, if_pos c3, hdj, nI_clamp (n := j) (by omega)]; rfl)
        exact W.vret hx hb hr (fun tt ht hW => ⟨⟨(), rfl, trivial, by rw [ht, hE]; exact hP, va_K.moved hW.alike hK⟩, hS.F ht⟩) hS.2.2 dX2_work_83
      · refine lv_aload_n hx hb dX2_work_54 rfl (lv_at hl 1 rfl) ?_
        refine r_get (S := (upd (upd (S.1) 14 ((S.1 14) - 1)) 13 (-1), S.2)) (v := .ref (a 9)) hx hb hts hin hown hK hP 9 (by decide) (by decide +kernel) rfl rfl dX2_work_55 ?_
        refine lv_iload_n hx hb dX2_work_58 rfl (lv_at hl 0 rfl) ?_
        refine lv_dup2_11 hx hb dX2_work_59 rfl rfl ?_
        refine r_ald (S := (upd (upd (S.1) 14 ((S.1 14) - 1)) 13 (-1), S.2)) (x := S.2 9 j) hx hb hK hP 9 (by decide) (j := j) (by omega) rfl dX2_work_60 ?_
        refine lv_iconst (v := 1) hx hb dX2_work_61 (by decide) ?_
        refine lv_isub hx hb dX2_work_62 ?_
        refine r_ast ha hx hb hK hP hS 9 (by decide) (j := j) (by omega) dX2_work_63 (fun H locs hP hS => ?_)
        have hP : va_P D vwCl (rW cI cZ a (upd (upd (S.1) 14 ((S.1 14) - 1)) 13 (-1), up2 (S.2) 9 j ((S.2 9 j) - 1))) H := hP
        refine lv_aload_n hx hb dX2_work_64 rfl (lv_at hl 1 rfl) ?_
        refine lv_iconst (v := 1) hx hb dX2_work_65 (by decide) ?_
        refine lv_iload_n hx hb dX2_work_66 rfl (lv_at hl 0 rfl) ?_
        refine m_callv (As := [.int 1, .int (nI j)]) (rest := []) ⟨hx, hb, hml, hown, hts⟩ (c_X2_giveUp l D cI cZ a ha n (upd (upd (S.1) 14 ((S.1 14) - 1)) 13 (-1), up2 (S.2) 9 j ((S.2 9 j) - 1)) hok 1 (nI j)) (cwV 2 hts gX2_work_X2_giveUp rfl rfl rfl (by decide +kernel) ⟨Nat.le_of_ble_eq_true rfl, Nat.le_of_ble_eq_true rfl⟩) hK hP hS (fun q h => wA_up hS.1 q h) (va_recv hK hP (ci := 3) (q0 := 0) rfl rfl) rfl hl.1 rfl (Nat.le_of_ble_eq_true rfl) dX2_work_67 ⟨Nat.zero_le _, Nat.zero_le _⟩ (fun H locs hP hS _ => ?_)
        have hok : rOk n (R_giveUp n (upd (upd (S.1) 14 ((S.1 14) - 1)) 13 (-1), up2 (S.2) 9 j ((S.2 9 j) - 1)) 1 (nI j)) := R_giveUp_ok n (upd (upd (S.1) 14 ((S.1 14) - 1)) 13 (-1), up2 (S.2) 9 j ((S.2 9 j) - 1)) 1 (nI j) hok
        refine lv_goto (tgt := 79) hx hb dX2_work_70 (by decide) ?_
        refine lv_aload_n hx hb dX2_work_79 rfl (lv_at hl 1 rfl) ?_
        refine m_callv (As := []) (rest := []) ⟨hx, hb, hml, hown, hts⟩ (c_X2_follow l D cI cZ a ha n (R_giveUp n (upd (upd (S.1) 14 ((S.1 14) - 1)) 13 (-1), up2 (S.2) 9 j ((S.2 9 j) - 1)) 1 (nI j)) hok ) (cwV 0 hts gX2_work_X2_follow rfl rfl rfl (by decide +kernel) ⟨Nat.le_of_ble_eq_true rfl, Nat.le_of_ble_eq_true rfl⟩) hK hP hS (fun q h => wA_up hS.1 q h) (va_recv hK hP (ci := 3) (q0 := 0) rfl rfl) rfl hl.1 rfl (Nat.le_of_ble_eq_true rfl) dX2_work_80 ⟨Nat.zero_le _, Nat.zero_le _⟩ (fun H locs hP hS _ => ?_)
        have hok : rOk n (R_follow n (R_giveUp n (upd (upd (S.1) 14 ((S.1 14) - 1)) 13 (-1), up2 (S.2) 9 j ((S.2 9 j) - 1)) 1 (nI j))) := R_follow_ok n (R_giveUp n (upd (upd (S.1) 14 ((S.1 14) - 1)) 13 (-1), up2 (S.2) 9 j ((S.2 9 j) - 1)) 1 (nI j)) hok
        have hE : R_work n S = (R_follow n (R_giveUp n (upd (upd (S.1) 14 ((S.1 14) - 1)) 13 (-1), up2 (S.2) 9 j ((S.2 9 j) - 1)) 1 (nI j))) := by first | (simp only [R_work, if_pos c1, if_pos c2, if_neg c3, hdj, nI_clamp (n := j) (by omega)]; done) | (simp only [R_work, if_pos c1, if_pos c2, if_neg c3, hdj, nI_clamp (n := j) (by omega)]; rfl)
        exact W.vret hx hb hr (fun tt ht hW => ⟨⟨(), rfl, trivial, by rw [ht, hE]; exact hP, va_K.moved hW.alike hK⟩, hS.F ht⟩) hS.2.2 dX2_work_83
    · refine lv_aload_n hx hb dX2_work_36 rfl (lv_at hl 1 rfl) ?_
      refine lv_iload_n hx hb dX2_work_37 rfl (lv_at hl 0 rfl) ?_
      refine lv_iconst (v := 2) hx hb dX2_work_38 (by decide) ?_
      refine m_callv (As := [.int (nI j), .int 2]) (rest := []) ⟨hx, hb, hml, hown, hts⟩ (c_X2_become l D cI cZ a ha n (upd (upd (S.1) 14 ((S.1 14) - 1)) 13 (-1), S.2) hok j (by omega) 2) (cwV 2 hts gX2_work_X2_become rfl rfl rfl (by decide +kernel) ⟨Nat.le_of_ble_eq_true rfl, Nat.le_of_ble_eq_true rfl⟩) hK hP hS (fun q h => wA_up hS.1 q h) (va_recv hK hP (ci := 3) (q0 := 0) rfl rfl) rfl hl.1 rfl (Nat.le_of_ble_eq_true rfl) dX2_work_39 ⟨Nat.zero_le _, Nat.zero_le _⟩ (fun H locs hP hS _ => ?_)
      have hok : rOk n (R_become n (upd (upd (S.1) 14 ((S.1 14) - 1)) 13 (-1), S.2) j 2) := R_become_ok n (upd (upd (S.1) 14 ((S.1 14) - 1)) 13 (-1), S.2) j 2 hok
      refine lv_goto (tgt := 79) hx hb dX2_work_42 (by decide) ?_
      refine lv_aload_n hx hb dX2_work_79 rfl (lv_at hl 1 rfl) ?_
      refine m_callv (As := []) (rest := []) ⟨hx, hb, hml, hown, hts⟩ (c_X2_follow l D cI cZ a ha n (R_become n (upd (upd (S.1) 14 ((S.1 14) - 1)) 13 (-1), S.2) j 2) hok ) (cwV 0 hts gX2_work_X2_follow rfl rfl rfl (by decide +kernel) ⟨Nat.le_of_ble_eq_true rfl, Nat.le_of_ble_eq_true rfl⟩) hK hP hS (fun q h => wA_up hS.1 q h) (va_recv hK hP (ci := 3) (q0 := 0) rfl rfl) rfl hl.1 rfl (Nat.le_of_ble_eq_true rfl) dX2_work_80 ⟨Nat.zero_le _, Nat.zero_le _⟩ (fun H locs hP hS _ => ?_)
      have hok : rOk n (R_follow n (R_become n (upd (upd (S.1) 14 ((S.1 14) - 1)) 13 (-1), S.2) j 2)) := R_follow_ok n (R_become n (upd (upd (S.1) 14 ((S.1 14) - 1)) 13 (-1), S.2) j 2) hok
      have hE : R_work n S = (R_follow n (R_become n (upd (upd (S.1) 14 ((S.1 14) - 1)) 13 (-1), S.2) j 2)) := by first | (simp only [R_work, if_pos c1, if_neg c2, hdj, nI_clamp (n := j) (by omega)]; done) | (simp only [R_work, if_pos c1, if_neg c2, hdj, nI_clamp (n := j) (by omega)]; rfl)
      exact W.vret hx hb hr (fun tt ht hW => ⟨⟨(), rfl, trivial, by rw [ht, hE]; exact hP, va_K.moved hW.alike hK⟩, hS.F ht⟩) hS.2.2 dX2_work_83
  · have hE : R_work n S = (upd (S.1) 14 ((S.1 14) - 1), S.2) := by first | (simp only [R_work, if_neg c1, hdj, nI_clamp (n := j) (by omega)]; done) | (simp only [R_work, if_neg c1, hdj, nI_clamp (n := j) (by omega)]; rfl)
    exact W.vret hx hb hr (fun tt ht hW => ⟨⟨(), rfl, trivial, by rw [ht, hE]; exact hP, va_K.moved hW.alike hK⟩, hS.F ht⟩) hS.2.2 dX2_work_17

def rDue (n : Nat) (S : rSt) : Prop := S.1 12 = 0 ∨ S.1 12 = 2 ∨ ∃ j, j < n ∧ S.1 13 = nI j
theorem rDue_w {n : Nat} {S : rSt} (h : rDue n S) (h0 : ¬ S.1 12 = 0) (h2 : ¬ S.1 12 = 2) : ∃ j, j < n ∧ S.1 13 = nI j := h.elim (fun z => absurd z h0) (fun h => h.elim (fun z => absurd z h2) id)

def R_once (n : Nat) (S : rSt) : rSt :=
  if S.1 18 ≤ 0 then (if S.1 12 = 0 then (R_doze n (upd (S.1) 17 ((S.1 17) + 1), S.2))
    else if S.1 12 = 2 then (upd (S.1) 17 ((S.1 17) + 1), S.2)
    else (R_work n (upd (S.1) 17 ((S.1 17) + 1), S.2)))
  else if S.1 12 = 2 then (if S.1 12 = 0 then (R_doze n (upd (S.1) 17 ((S.1 17) + 1), S.2))
    else (upd (S.1) 17 ((S.1 17) + 1), S.2))
  else if (S.1 19) + 1 ≤ S.1 18 then (if S.1 12 = 0 then (R_doze n (upd (upd (S.1) 17 ((S.1 17) + 1)) 19 ((S.1 19) + 1), S.2))
    else (R_work n (upd (upd (S.1) 17 ((S.1 17) + 1)) 19 ((S.1 19) + 1), S.2)))
  else (R_reset n (upd (upd (S.1) 17 ((S.1 17) + 1)) 19 ((S.1 19) + 1), S.2))
theorem R_once_sm (n : Nat) (S : rSt) : rSm S (R_once n S) := by
  unfold R_once
  split
  · split
    · exact ((show rSm S (upd (S.1) 17 ((S.1 17) + 1), S.2) from ⟨rfl, rfl⟩)).tr (R_doze_sm n (upd (S.1) 17 ((S.1 17) + 1), S.2))
    · split
      · exact (show rSm S (upd (S.1) 17 ((S.1 17) + 1), S.2) from ⟨rfl, rfl⟩)
      · exact ((show rSm S (upd (S.1) 17 ((S.1 17) + 1), S.2) from ⟨rfl, rfl⟩)).tr (R_work_sm n (upd (S.1) 17 ((S.1 17) + 1), S.2))
  · split
    · split
      · exact ((show rSm S (upd (S.1) 17 ((S.1 17) + 1), S.2) from ⟨rfl, rfl⟩)).tr (R_doze_sm n (upd (S.1) 17 ((S.1 17) + 1), S.2))
      · exact (show rSm S (upd (S.1) 17 ((S.1 17) + 1), S.2) from ⟨rfl, rfl⟩)
    · split
      · split
        · exact ((show rSm S (upd (upd (S.1) 17 ((S.1 17) + 1)) 19 ((S.1 19) + 1), S.2) from ⟨rfl, rfl⟩)).tr (R_doze_sm n (upd (upd (S.1) 17 ((S.1 17) + 1)) 19 ((S.1 19) + 1), S.2))
        · exact ((show rSm S (upd (upd (S.1) 17 ((S.1 17) + 1)) 19 ((S.1 19) + 1), S.2) from ⟨rfl, rfl⟩)).tr (R_work_sm n (upd (upd (S.1) 17 ((S.1 17) + 1)) 19 ((S.1 19) + 1), S.2))
      · exact ((show rSm S (upd (upd (S.1) 17 ((S.1 17) + 1)) 19 ((S.1 19) + 1), S.2) from ⟨rfl, rfl⟩)).tr (R_reset_sm n (upd (upd (S.1) 17 ((S.1 17) + 1)) 19 ((S.1 19) + 1), S.2))
theorem R_once_ok (n : Nat) (S : rSt) (hok : rOk n S) : rOk n (R_once n S) := rOk_of (R_once_sm n S) hok
set_option maxHeartbeats 4000000 in
set_option maxRecDepth 100000 in
theorem c_X2_once (l : Launch) (D : va_G) (cI cZ : ClassId) (a : Nat → Nat) (ha : (rL a).Nodup) (n : Nat) (S : rSt) (hok : rOk n S) (hdu : rDue n S) : mV l yX2_once wsX2_once (rmz 6 134) D (rT cI cZ) (rL a) [.ref (a 0)] (rW cI cZ a S) (rW cI cZ a (R_once n S)) := by
  intro sz
  refine Met.ofW (cc := cX2_once) (maxL := 1) (ret := none) (by decide) rfl ?_
  intro p e s m args below meth c s₁ B hml hv
  obtain ⟨rfl, hsz, hP, hK⟩ := hv
  have hx := B.exec
  have hb := B.bytes
  have hr := B.returns
  have hts := atoms_spec (ws := wsX2_once) B.pre
  have hin : ∀ w ∈ wsX20, w ∈ wsX2_once := fun w h => List.mem_cons_of_mem _ (List.mem_append_right _ h)
  have hown : s.vm.findClass RX2 = some m.cls := findClass_of_methodNamed B.named
  have hlocks := B.notSynchronized
  have hn12 : n ≤ 12 := hok.2.1
  subst hsz
  have hS : va_S (wA (rL a) s.heap.size) s.heap s.heap [] := va_S.rf
  have hl := lv_entry ([.ref (a 0)]) (n := 1) (Nat.le_of_ble_eq_true rfl)
  rw [lg_entry_eq]
  generalize (lg_sl ([.ref (a 0)]) ++ List.replicate (1 - (lg_sl ([.ref (a 0)])).length) Slot.unset).toArray = ls at hl ⊢
  have hl : lv_has ls 1 [(0, .ref (a 0))] := hl
  refine lv_aload_n hx hb dX2_once_0 rfl (lv_at hl 0 rfl) ?_
  refine lv_dup hx hb dX2_once_1 rfl ?_
  refine r_get (S := S) (v := .int (S.1 17)) hx hb hts hin hown hK hP 17 (by decide) (by decide +kernel) rfl rfl dX2_once_2 ?_
  refine lv_iconst (v := 1) hx hb dX2_once_5 (by decide) ?_
  refine lv_iadd hx hb dX2_once_6 ?_
  refine r_put ha hx hb hts hin hown hK hP hS 17 (by decide) (by decide +kernel) ⟨rfl, rfl, rfl⟩ dX2_once_7 (fun H locs hP hS => ?_)
  have hP : va_P D vwCl (rW cI cZ a (upd (S.1) 17 ((S.1 17) + 1), S.2)) H := hP
  refine lv_aload_n hx hb dX2_once_10 rfl (lv_at hl 0 rfl) ?_
  refine r_get (S := (upd (S.1) 17 ((S.1 17) + 1), S.2)) (v := .int (S.1 18)) hx hb hts hin hown hK hP 18 (by decide) (by decide +kernel) rfl rfl dX2_once_11 ?_
  refine lv_if_le (tgt := 51) hx hb dX2_once_14 (by decide) (fun c1 => ?_) (fun c1 => ?_)
  · refine lv_aload_n hx hb dX2_once_51 rfl (lv_at hl 0 rfl) ?_
    refine r_get (S := (upd (S.1) 17 ((S.1 17) + 1), S.2)) (v := .int (S.1 12)) hx hb hts hin hown hK hP 12 (by decide) (by decide +kernel) rfl rfl dX2_once_52 ?_
    refine lv_if_ne (tgt := 65) hx hb dX2_once_55 (by decide) (fun c2 => ?_) (fun c2 => ?_)
    · refine lv_aload_n hx hb dX2_once_65 rfl (lv_at hl 0 rfl) ?_
      refine r_get (S := (upd (S.1) 17 ((S.1 17) + 1), S.2)) (v := .int (S.1 12)) hx hb hts hin hown hK hP 12 (by decide) (by decide +kernel) rfl rfl dX2_once_66 ?_
      refine lv_iconst (v := 2) hx hb dX2_once_69 (by decide) ?_
      refine lv_icmp_eq (tgt := 77) hx hb dX2_once_70 (by decide) (fun c3 => ?_) (fun c3 => ?_)
      · have hE : R_once n S = (upd (S.1) 17 ((S.1 17) + 1), S.2) := by first | (simp only [R_once, if_pos c1, if_neg c2, if_pos c3]; done) | (simp only [R_once, if_pos c1, if_neg c2, if_pos c3]; rfl)
        exact W.vret hx hb hr (fun tt ht hW => ⟨⟨(), rfl, trivial, by rw [ht, hE]; exact hP, va_K.moved hW.alike hK⟩, hS.F ht⟩) hS.2.2 dX2_once_77
      · refine lv_aload_n hx hb dX2_once_73 rfl (lv_at hl 0 rfl) ?_
        obtain ⟨j, hj, hdj⟩ := rDue_w hdu c2 c3
        refine m_callv (As := []) (rest := []) ⟨hx, hb, hml, hown, hts⟩ (c_X2_work l D cI cZ a ha n (upd (S.1) 17 ((S.1 17) + 1), S.2) hok  j hj hdj) (cwV 0 hts gX2_once_X2_work rfl rfl rfl (by decide +kernel) ⟨Nat.le_of_ble_eq_true rfl, Nat.le_of_ble_eq_true rfl⟩) hK hP hS (fun q h => wA_up hS.1 q h) (va_recv hK hP (ci := 3) (q0 := 0) rfl rfl) rfl hl.1 rfl (Nat.le_of_ble_eq_true rfl) dX2_once_74 ⟨Nat.zero_le _, Nat.zero_le _⟩ (fun H locs hP hS _ => ?_)
        have hok : rOk n (R_work n (upd (S.1) 17 ((S.1 17) + 1), S.2)) := R_work_ok n (upd (S.1) 17 ((S.1 17) + 1), S.2) hok
        have hE : R_once n S = (R_work n (upd (S.1) 17 ((S.1 17) + 1), S.2)) := by first | (simp only [R_once, if_pos c1, if_neg c2, if_neg c3]; done) | (simp only [R_once, if_pos c1, if_neg c2, if_neg c3]; rfl)
        exact W.vret hx hb hr (fun tt ht hW => ⟨⟨(), rfl, trivial, by rw [ht, hE]; exact hP, va_K.moved hW.alike hK⟩, hS.F ht⟩) hS.2.2 dX2_once_77
    · refine lv_aload_n hx hb dX2_once_58 rfl (lv_at hl 0 rfl) ?_
      refine m_callv (As := []) (rest := []) ⟨hx, hb, hml, hown, hts⟩ (c_X2_doze l D cI cZ a ha n (upd (S.1) 17 ((S.1 17) + 1), S.2) hok ) (cwV 0 hts gX2_once_X2_doze rfl rfl rfl (by decide +kernel) ⟨Nat.le_of_ble_eq_true rfl, Nat.le_of_ble_eq_true rfl⟩) hK hP hS (fun q h => wA_up hS.1 q h) (va_recv hK hP (ci := 3) (q0 := 0) rfl rfl) rfl hl.1 rfl (Nat.le_of_ble_eq_true rfl) dX2_once_59 ⟨Nat.zero_le _, Nat.zero_le _⟩ (fun H locs hP hS _ => ?_)
      have hok : rOk n (R_doze n (upd (S.1) 17 ((S.1 17) + 1), S.2)) := R_doze_ok n (upd (S.1) 17 ((S.1 17) + 1), S.2) hok
      refine lv_goto (tgt := 77) hx hb dX2_once_62 (by decide) ?_
      have hE : R_once n S = (R_doze n (upd (S.1) 17 ((S.1 17) + 1), S.2)) := by first | (simp only [R_once, if_pos c1, if_pos c2]; done) | (simp only [R_once, if_pos c1, if_pos c2]; rfl)
      exact W.vret hx hb hr (fun tt ht hW => ⟨⟨(), rfl, trivial, by rw [ht, hE]; exact hP, va_K.moved hW.alike hK⟩, hS.F ht⟩) hS.2.2 dX2_once_77
  · refine lv_aload_n hx hb dX2_once_17 rfl (lv_at hl 0 rfl) ?_
    refine r_get (S := (upd (S.1) 17 ((S.1 17) + 1), S.2)) (v := .int (S.1 12)) hx hb hts hin hown hK hP 12 (by decide) (by decide +kernel) rfl rfl dX2_once_18 ?_
    refine lv_iconst (v := 2) hx hb dX2_once_21 (by decide) ?_
    refine lv_icmp_eq (tgt := 51) hx hb dX2_once_22 (by decide) (fun c4 => ?_) (fun c4 => ?_)
    · refine lv_aload_n hx hb dX2_once_51 rfl (lv_at hl 0 rfl) ?_
      refine r_get (S := (upd (S.1) 17 ((S.1 17) + 1), S.2)) (v := .int (S.1 12)) hx hb hts hin hown hK hP 12 (by decide) (by decide +kernel) rfl rfl dX2_once_52 ?_
      refine lv_if_ne (tgt := 65) hx hb dX2_once_55 (by decide) (fun c5 => ?_) (fun c5 => ?_)
      · refine lv_aload_n hx hb dX2_once_65 rfl (lv_at hl 0 rfl) ?_
        refine r_get (S := (upd (S.1) 17 ((S.1 17) + 1), S.2)) (v := .int (S.1 12)) hx hb hts hin hown hK hP 12 (by decide) (by decide +kernel) rfl rfl dX2_once_66 ?_
        refine lv_iconst (v := 2) hx hb dX2_once_69 (by decide) ?_
        refine lv_icmp_eq (tgt := 77) hx hb dX2_once_70 (by decide) (fun c6 => ?_) (fun c6 => ?_)
        · have hE : R_once n S = (upd (S.1) 17 ((S.1 17) + 1), S.2) := by first | (simp only [R_once, if_neg c1, if_pos c4, if_neg c5]; done) | (simp only [R_once, if_neg c1, if_pos c4, if_neg c5]; rfl)
          exact W.vret hx hb hr (fun tt ht hW => ⟨⟨(), rfl, trivial, by rw [ht, hE]; exact hP, va_K.moved hW.alike hK⟩, hS.F ht⟩) hS.2.2 dX2_once_77
        · exact absurd c4 c6
      · refine lv_aload_n hx hb dX2_once_58 rfl (lv_at hl 0 rfl) ?_
        refine m_callv (As := []) (rest := []) ⟨hx, hb, hml, hown, hts⟩ (c_X2_doze l D cI cZ a ha n (upd (S.1) 17 ((S.1 17) + 1), S.2) hok ) (cwV 0 hts gX2_once_X2_doze rfl rfl rfl (by decide +kernel) ⟨Nat.le_of_ble_eq_true rfl, Nat.le_of_ble_eq_true rfl⟩) hK hP hS (fun q h => wA_up hS.1 q h) (va_recv hK hP (ci := 3) (q0 := 0) rfl rfl) rfl hl.1 rfl (Nat.le_of_ble_eq_true rfl) dX2_once_59 ⟨Nat.zero_le _, Nat.zero_le _⟩ (fun H locs hP hS _ => ?_)
        have hok : rOk n (R_doze n (upd (S.1) 17 ((S.1 17) + 1), S.2)) := R_doze_ok n (upd (S.1) 17 ((S.1 17) + 1), S.2) hok
        refine lv_goto (tgt := 77) hx hb dX2_once_62 (by decide) ?_
        have hE : R_once n S = (R_doze n (upd (S.1) 17 ((S.1 17) + 1), S.2)) := by first | (simp only [R_once, if_neg c1, if_pos c4, if_pos c5]; done) | (simp only [R_once, if_neg c1, if_pos c4, if_pos c5]; rfl)
        exact W.vret hx hb hr (fun tt ht hW => ⟨⟨(), rfl, trivial, by rw [ht, hE]; exact hP, va_K.moved hW.alike hK⟩, hS.F ht⟩) hS.2.2 dX2_once_77
    · refine lv_aload_n hx hb dX2_once_25 rfl (lv_at hl 0 rfl) ?_
      refine lv_dup hx hb dX2_once_26 rfl ?_
      refine r_get (S := (upd (S.1) 17 ((S.1 17) + 1), S.2)) (v := .int (S.1 19)) hx hb hts hin hown hK hP 19 (by decide) (by decide +kernel) rfl rfl dX2_once_27 ?_
      refine lv_iconst (v := 1) hx hb dX2_once_30 (by decide) ?_
      refine lv_iadd hx hb dX2_once_31 ?_
      refine r_put ha hx hb hts hin hown hK hP hS 19 (by decide) (by decide +kernel) ⟨rfl, rfl, rfl⟩ dX2_once_32 (fun H locs hP hS => ?_)
      have hP : va_P D vwCl (rW cI cZ a (upd (upd (S.1) 17 ((S.1 17) + 1)) 19 ((S.1 19) + 1), S.2)) H := hP
      refine lv_aload_n hx hb dX2_once_35 rfl (lv_at hl 0 rfl) ?_
      refine r_get (S := (upd (upd (S.1) 17 ((S.1 17) + 1)) 19 ((S.1 19) + 1), S.2)) (v := .int ((S.1 19) + 1)) hx hb hts hin hown hK hP 19 (by decide) (by decide +kernel) rfl rfl dX2_once_36 ?_
      refine lv_aload_n hx hb dX2_once_39 rfl (lv_at hl 0 rfl) ?_
      refine r_get (S := (upd (upd (S.1) 17 ((S.1 17) + 1)) 19 ((S.1 19) + 1), S.2)) (v := .int (S.1 18)) hx hb hts hin hown hK hP 18 (by decide) (by decide +kernel) rfl rfl dX2_once_40 ?_
      refine lv_icmp_le (tgt := 51) hx hb dX2_once_43 (by decide) (fun c7 => ?_) (fun c7 => ?_)
      · refine lv_aload_n hx hb dX2_once_51 rfl (lv_at hl 0 rfl) ?_
        refine r_get (S := (upd (upd (S.1) 17 ((S.1 17) + 1)) 19 ((S.1 19) + 1), S.2)) (v := .int (S.1 12)) hx hb hts hin hown hK hP 12 (by decide) (by decide +kernel) rfl rfl dX2_once_52 ?_
        refine lv_if_ne (tgt := 65) hx hb dX2_once_55 (by decide) (fun c8 => ?_) (fun c8 => ?_)
        · refine lv_aload_n hx hb dX2_once_65 rfl (lv_at hl 0 rfl) ?_
          refine r_get (S := (upd (upd (S.1) 17 ((S.1 17) + 1)) 19 ((S.1 19) + 1), S.2)) (v := .int (S.1 12)) hx hb hts hin hown hK hP 12 (by decide) (by decide +kernel) rfl rfl dX2_once_66 ?_
          refine lv_iconst (v := 2) hx hb dX2_once_69 (by decide) ?_
          refine lv_icmp_eq (tgt := 77) hx hb dX2_once_70 (by decide) (fun c9 => ?_) (fun c9 => ?_)
          · exact absurd c9 c4
          · refine lv_aload_n hx hb dX2_once_73 rfl (lv_at hl 0 rfl) ?_
            obtain ⟨j, hj, hdj⟩ := rDue_w hdu c8 c4
            refine m_callv (As := []) (rest := []) ⟨hx, hb, hml, hown, hts⟩ (c_X2_work l D cI cZ a ha n (upd (upd (S.1) 17 ((S.1 17) + 1)) 19 ((S.1 19) + 1), S.2) hok  j hj hdj) (cwV 0 hts gX2_once_X2_work rfl rfl rfl (by decide +kernel) ⟨Nat.le_of_ble_eq_true rfl, Nat.le_of_ble_eq_true rfl⟩) hK hP hS (fun q h => wA_up hS.1 q h) (va_recv hK hP (ci := 3) (q0 := 0) rfl rfl) rfl hl.1 rfl (Nat.le_of_ble_eq_true rfl) dX2_once_74 ⟨Nat.zero_le _, Nat.zero_le _⟩ (fun H locs hP hS _ => ?_)
            have hok : rOk n (R_work n (upd (upd (S.1) 17 ((S.1 17) + 1)) 19 ((S.1 19) + 1), S.2)) := R_work_ok n (upd (upd (S.1) 17 ((S.1 17) + 1)) 19 ((S.1 19) + 1), S.2) hok
            have hE : R_once n S = (R_work n (upd (upd (S.1) 17 ((S.1 17) + 1)) 19 ((S.1 19) + 1), S.2)) := by first | (simp only [R_once, if_neg c1, if_neg c4, if_pos c7, if_neg c8]; done) | (simp only [R_once, if_neg c1, if_neg c4, if_pos c7, if_neg c8]; rfl)
            exact W.vret hx hb hr (fun tt ht hW => ⟨⟨(), rfl, trivial, by rw [ht, hE]; exact hP, va_K.moved hW.alike hK⟩, hS.F ht⟩) hS.2.2 dX2_once_77
        · refine lv_aload_n hx hb dX2_once_58 rfl (lv_at hl 0 rfl) ?_
          refine m_callv (As := []) (rest := []) ⟨hx, hb, hml, hown, hts⟩ (c_X2_doze l D cI cZ a ha n (upd (upd (S.1) 17 ((S.1 17) + 1)) 19 ((S.1 19) + 1), S.2) hok ) (cwV 0 hts gX2_once_X2_doze rfl rfl rfl (by decide +kernel) ⟨Nat.le_of_ble_eq_true rfl, Nat.le_of_ble_eq_true rfl⟩) hK hP hS (fun q h => wA_up hS.1 q h) (va_recv hK hP (ci := 3) (q0 := 0) rfl rfl) rfl hl.1 rfl (Nat.le_of_ble_eq_true rfl) dX2_once_59 ⟨Nat.zero_le _, Nat.zero_le _⟩ (fun H locs hP hS _ => ?_)
          have hok : rOk n (R_doze n (upd (upd (S.1) 17 ((S.1 17) + 1)) 19 ((S.1 19) + 1), S.2)) := R_doze_ok n (upd (upd (S.1) 17 ((S.1 17) + 1)) 19 ((S.1 19) + 1), S.2) hok
          refine lv_goto (tgt := 77) hx hb dX2_once_62 (by decide) ?_
          have hE : R_once n S = (R_doze n (upd (upd (S.1) 17 ((S.1 17) + 1)) 19 ((S.1 19) + 1), S.2)) := by first | (simp only [R_once, if_neg c1, if_neg c4, if_pos c7, if_pos c8]; done) | (simp only [R_once, if_neg c1, if_neg c4, if_pos c7, if_pos c8]; rfl)
          exact W.vret hx hb hr (fun tt ht hW => ⟨⟨(), rfl, trivial, by rw [ht, hE]; exact hP, va_K.moved hW.alike hK⟩, hS.F ht⟩) hS.2.2 dX2_once_77
      · refine lv_aload_n hx hb dX2_once_46 rfl (lv_at hl 0 rfl) ?_
        refine m_callv (As := []) (rest := []) ⟨hx, hb, hml, hown, hts⟩ (c_X2_reset l D cI cZ a ha n (upd (upd (S.1) 17 ((S.1 17) + 1)) 19 ((S.1 19) + 1), S.2) hok ) (cwV 0 hts gX2_once_X2_reset rfl rfl rfl (by decide +kernel) ⟨Nat.le_of_ble_eq_true rfl, Nat.le_of_ble_eq_true rfl⟩) hK hP hS (fun q h => wA_up hS.1 q h) (va_recv hK hP (ci := 3) (q0 := 0) rfl rfl) rfl hl.1 rfl (Nat.le_of_ble_eq_true rfl) dX2_once_47 ⟨Nat.zero_le _, Nat.zero_le _⟩ (fun H locs hP hS _ => ?_)
        have hok : rOk n (R_reset n (upd (upd (S.1) 17 ((S.1 17) + 1)) 19 ((S.1 19) + 1), S.2)) := R_reset_ok n (upd (upd (S.1) 17 ((S.1 17) + 1)) 19 ((S.1 19) + 1), S.2) hok
        have hE : R_once n S = (R_reset n (upd (upd (S.1) 17 ((S.1 17) + 1)) 19 ((S.1 19) + 1), S.2)) := by first | (simp only [R_once, if_neg c1, if_neg c4, if_neg c7]; done) | (simp only [R_once, if_neg c1, if_neg c4, if_neg c7]; rfl)
        exact W.vret hx hb hr (fun tt ht hW => ⟨⟨(), rfl, trivial, by rw [ht, hE]; exact hP, va_K.moved hW.alike hK⟩, hS.F ht⟩) hS.2.2 dX2_once_50

def R_tick_b (n : Nat) (k : Nat) (Z : rSt) : rSt := R_once n Z
def R_tick_it (n : Nat) (S : rSt) : Nat → rSt
  | 0 => (upd S.1 23 0, S.2)
  | k + 1 => R_tick_b n k (R_tick_it n S k)
def R_tick (n : Nat) (S : rSt) (k : Int32) : Int32 × rSt := if k < 0 then (-2, S) else if k ≤ 200 then ((R_tick_it n S k.toNatClampNeg).1 23, R_tick_it n S k.toNatClampNeg) else (-2, S)
theorem R_tick_it_sm (n : Nat) (S : rSt) : ∀ k, rSm S (R_tick_it n S k)
  | 0 => ⟨rfl, rfl⟩
  | k + 1 => (R_tick_it_sm n S k).tr (R_once_sm n _)
theorem R_tick_it_ok (n : Nat) (S : rSt) (k : Nat) (hok : rOk n S) : rOk n (R_tick_it n S k) := rOk_of (R_tick_it_sm n S k) hok
theorem R_tick_sm (n : Nat) (S : rSt) (k : Int32) : rSm S (R_tick n S k).2 := by
  unfold R_tick
  repeat' split
  all_goals first | exact rSm.rf | exact R_tick_it_sm n S _
theorem R_tick_ok (n : Nat) (S : rSt) (k : Int32) (hok : rOk n S) : rOk n (R_tick n S k).2 := rOk_of (R_tick_sm n S k) hok

set_option maxHeartbeats 4000000 in
set_option maxRecDepth 100000 in
theorem c_X2_tick (l : Launch) (D : va_G) (cI cZ : ClassId) (a : Nat → Nat) (ha : (rL a).Nodup) (n : Nat) (S : rSt) (hok : rOk n S) (k : Int32) (hdu : ∀ i, i < k.toNatClampNeg → rDue n (R_tick_it n S i)) : mI l yX2_tick wsX2_tick (rmz 7 154) D (rT cI cZ) (rL a) [.ref (a 0), .int k] (rW cI cZ a S) (R_tick n S k).1 (rW cI cZ a (R_tick n S k).2) := by
  intro sz
  refine Met.ofW (cc := cX2_tick) (maxL := 3) (ret := (some .int)) (by decide) rfl ?_
  intro p e s m args below meth c s₁ B hml hv
  obtain ⟨rfl, hsz, hP, hK⟩ := hv
  have hx := B.exec
  have hb := B.bytes
  have hr := B.returns
  have hts := atoms_spec (ws := wsX2_tick) B.pre
  have hin : ∀ w ∈ wsX20, w ∈ wsX2_tick := fun w h => List.mem_cons_of_mem _ (List.mem_append_right _ h)
  have hown : s.vm.findClass RX2 = some m.cls := findClass_of_methodNamed B.named
  have hlocks := B.notSynchronized
  have hn12 : n ≤ 12 := hok.2.1
  subst hsz
  have hS : va_S (wA (rL a) s.heap.size) s.heap s.heap [] := va_S.rf
  have hl := lv_entry ([.ref (a 0), .int k]) (n := 3) (Nat.le_of_ble_eq_true rfl)
  rw [lg_entry_eq]
  generalize (lg_sl ([.ref (a 0), .int k]) ++ List.replicate (3 - (lg_sl ([.ref (a 0), .int k])).length) Slot.unset).toArray = ls at hl ⊢
  have hl : lv_has ls 3 [(0, .ref (a 0)), (1, .int k)] := hl
  have hok0 := hok
  refine lv_iload_n hx hb dX2_tick_0 rfl (lv_at hl 1 rfl) ?_
  refine lv_if_lt (tgt := 11) hx hb dX2_tick_1 (by decide) (fun c1 => ?_) (fun c1 => ?_)
  · refine lv_bipush (v := (-2)) hx hb dX2_tick_11 (by decide) ?_
    have hE : R_tick n S k = ((-2), S) := by first | (simp only [R_tick, if_pos c1]; done) | (simp only [R_tick, if_pos c1]; rfl)
    exact W.iret (v := (-2)) hx hb hr (fun tt ht hW => ⟨⟨(-2), (), rfl, by rw [hE], by rw [ht, hE]; exact hP, va_K.moved hW.alike hK⟩, hS.F ht⟩) hS.2.2 dX2_tick_13
  · refine lv_iload_n hx hb dX2_tick_4 rfl (lv_at hl 1 rfl) ?_
    refine lv_sipush (v := 200) hx hb dX2_tick_5 (by decide) ?_
    refine lv_icmp_le (tgt := 14) hx hb dX2_tick_8 (by decide) (fun c2 => ?_) (fun c2 => ?_)
    · obtain ⟨t, ht, hkt⟩ := nI_of2 (M := 200) (n := 200) rfl c1 c2
      subst hkt
      have htc : (nI t).toNatClampNeg = t := nI_clamp (by omega)
      rw [htc] at hdu
      refine lv_aload_n hx hb dX2_tick_14 rfl (lv_at hl 0 rfl) ?_
      refine lv_iconst (v := 0) hx hb dX2_tick_15 (by decide) ?_
      refine r_put ha hx hb hts hin hown hK hP hS 23 (by decide) (by decide +kernel) ⟨rfl, rfl, rfl⟩ dX2_tick_16 (fun H locs hP hS => ?_)
      have hP : va_P D vwCl (rW cI cZ a (upd (S.1) 23 0, S.2)) H := hP
      refine lv_iconst (v := 0) hx hb dX2_tick_19 (by decide) ?_
      refine lv_istore_n (lv' := [(2, .int 0), (0, .ref (a 0)), (1, .int (nI t))]) hx hb dX2_tick_20 rfl hl (by decide) rfl (fun ls hl => ?_)
      refine w_loop (σ := Nat) (I := fun k3 H locs ls => k3 ≤ t ∧ va_P D vwCl (rW cI cZ a (R_tick_it n S k3)) H ∧ va_S (wA (rL a) s.heap.size) s.heap H locs ∧ lv_has ls 3 [(0, .ref (a 0)), (1, .int (nI t)), (2, .int (nI k3))]) (fun k3 => t - k3) ?_ 0 ⟨Nat.zero_le _, hP, hS, lv_sub hl [1, 2, 0] rfl⟩
      intro k3 H locs ls hI ih
      obtain ⟨hk, hP, hS, hl⟩ := hI
      have hok : rOk n (R_tick_it n S k3) := R_tick_it_ok n S k3 hok0
      refine lv_iload_n hx hb dX2_tick_21 rfl (lv_at hl 2 rfl) ?_
      refine lv_iload_n hx hb dX2_tick_22 rfl (lv_at hl 1 rfl) ?_
      refine lv_icmp_ge (tgt := 36) hx hb dX2_tick_23 (by decide) (fun c4 => ?_) (fun c4 => ?_)
      · have hkn : k3 = t := Nat.le_antisymm hk ((nI_leI (by omega) (by omega)).mp c4)
        rw [hkn] at hP hl
        have hok : rOk n (R_tick_it n S t) := R_tick_it_ok n S t hok0
        refine lv_aload_n hx hb dX2_tick_36 rfl (lv_at hl 0 rfl) ?_
        refine r_get (S := (R_tick_it n S t)) (v := .int ((R_tick_it n S t).1 23)) hx hb hts hin hown hK hP 23 (by decide) (by decide +kernel) rfl rfl dX2_tick_37 ?_
        have hE : R_tick n S (nI t) = ((R_tick_it n S t).1 23, (R_tick_it n S t)) := by first | (simp only [R_tick, if_neg c1, if_pos c2, htc]; done) | (simp only [R_tick, if_neg c1, if_pos c2, htc]; rfl)
        exact W.iret (v := (R_tick_it n S t).1 23) hx hb hr (fun tt ht hW => ⟨⟨(R_tick_it n S t).1 23, (), rfl, by rw [hE], by rw [ht, hE]; exact hP, va_K.moved hW.alike hK⟩, hS.F ht⟩) hS.2.2 dX2_tick_40
      · have hlt : k3 < t := Nat.lt_of_not_le (fun z => c4 ((nI_leI (by omega) (by omega)).mpr z))
        refine lv_aload_n hx hb dX2_tick_26 rfl (lv_at hl 0 rfl) ?_
        refine m_callv (As := []) (rest := []) ⟨hx, hb, hml, hown, hts⟩ (c_X2_once l D cI cZ a ha n (R_tick_it n S k3) hok  (hdu k3 hlt)) (cwV 0 hts gX2_tick_X2_once rfl rfl rfl (by decide +kernel) ⟨Nat.le_of_ble_eq_true rfl, Nat.le_of_ble_eq_true rfl⟩) hK hP hS (fun q h => wA_up hS.1 q h) (va_recv hK hP (ci := 3) (q0 := 0) rfl rfl) rfl hl.1 rfl (Nat.le_of_ble_eq_true rfl) dX2_tick_27 ⟨Nat.zero_le _, Nat.zero_le _⟩ (fun H locs hP hS _ => ?_)
        have hok : rOk n (R_once n (R_tick_it n S k3)) := R_once_ok n (R_tick_it n S k3) hok
        refine lv_iinc (v := nI (k3 + 1)) (lv' := [(2, .int (nI (k3 + 1))), (0, .ref (a 0)), (1, .int (nI t))]) hx hb dX2_tick_30 hl (k := 2) rfl (nI_1 _) (by decide) rfl (fun ls hl => ?_)
        refine lv_goto (tgt := 21) hx hb dX2_tick_33 (by decide) ?_
        have hE : R_tick_it n S (k3 + 1) = (R_once n (R_tick_it n S k3)) := by show R_tick_b n k3 (R_tick_it n S k3) = _; first | (simp only [R_tick_b, htc]; done) | (simp only [R_tick_b, htc]; rfl)
        exact ih (k3 + 1) H locs ls (by omega) ⟨by omega, by rw [hE]; exact hP, hS, by exact lv_sub hl [1, 2, 0] rfl⟩
    · refine lv_bipush (v := (-2)) hx hb dX2_tick_11 (by decide) ?_
      have hE : R_tick n S k = ((-2), S) := by first | (simp only [R_tick, if_neg c1, if_neg c2]; done) | (simp only [R_tick, if_neg c1, if_neg c2]; rfl)
      exact W.iret (v := (-2)) hx hb hr (fun tt ht hW => ⟨⟨(-2), (), rfl, by rw [hE], by rw [ht, hE]; exact hP, va_K.moved hW.alike hK⟩, hS.F ht⟩) hS.2.2 dX2_tick_13

theorem nI_back (n : Nat) : nI n + 1 - 1 = nI n := by rw [nI_1, nI_pred]
theorem R_dev_ok {n : Nat} {S T : rSt} {above : Int32} (hok : rOk n S) (hn : n < 12) (hsh : above >>> (nI n &&& 31) = 0) (h0 : T.1 0 = nI n + 1) (h1 : T.2 1 = upd (S.2 1) n above) : rOk (n + 1) T := by
  refine ⟨h0.trans (nI_1 n), by omega, fun p hp => ?_⟩
  rw [h1]
  by_cases h : p = n
  · subst h; simp only [upd, if_true]; exact lb_shr (by omega) hsh
  · simp only [upd, if_neg h]; exact hok.2.2 p (by omega)

def R_device (n : Nat) (S : rSt) (above : Int32) (down : Int32) (up : Int32) (delay : Int32) : Int32 × rSt :=
  if above < 0 then ((-2), S)
  else if above >>> ((nI n) &&& 31) = 0 then (if down < 1 then ((-2), S)
    else if 20 < down then ((-2), S)
    else if up < 1 then ((-2), S)
    else if 20 < up then ((-2), S)
    else if delay < 0 then ((-2), S)
    else if delay ≤ 50 then (if S.1 12 = 0 then (if nI n = 12 then ((-4), S)
        else (nI n, (R_rouse (n + 1) (upd (S.1) 0 ((nI n) + 1), up2 (up2 (up2 (up2 (up2 (up2 (up2 (up2 (up2 (S.2) 1 n above) 2 n down) 3 n up) 4 n delay) 5 n 2) 7 n 0) 8 n 0) 9 n 0) 10 n 0) (R_line (n + 1) (upd (S.1) 0 ((nI n) + 1), up2 (up2 (up2 (up2 (up2 (up2 (up2 (up2 (up2 (S.2) 1 n above) 2 n down) 3 n up) 4 n delay) 5 n 2) 7 n 0) 8 n 0) 9 n 0) 10 n 0) n)).2))
      else ((-3), S))
    else ((-2), S))
  else ((-2), S)
set_option maxHeartbeats 4000000 in
set_option maxRecDepth 100000 in
theorem c_X2_device (l : Launch) (D : va_G) (cI cZ : ClassId) (a : Nat → Nat) (ha : (rL a).Nodup) (n : Nat) (S : rSt) (hok : rOk n S) (above : Int32) (down : Int32) (up : Int32) (delay : Int32) : mI l yX2_device wsX2_device (rmz 1 23) D (rT cI cZ) (rL a) [.ref (a 0), .int above, .int down, .int up, .int delay] (rW cI cZ a S) (R_device n S above down up delay).1 (rW cI cZ a (R_device n S above down up delay).2) := by
  intro sz
  refine Met.ofW (cc := cX2_device) (maxL := 5) (ret := (some .int)) (by decide) rfl ?_
  intro p e s m args below meth c s₁ B hml hv
  obtain ⟨rfl, hsz, hP, hK⟩ := hv
  have hx := B.exec
  have hb := B.bytes
  have hr := B.returns
  have hts := atoms_spec (ws := wsX2_device) B.pre
  have hin : ∀ w ∈ wsX20, w ∈ wsX2_device := fun w h => List.mem_cons_of_mem _ (List.mem_append_right _ h)
  have hown : s.vm.findClass RX2 = some m.cls := findClass_of_methodNamed B.named
  have hlocks := B.notSynchronized
  have hn12 : n ≤ 12 := hok.2.1
  subst hsz
  have hS : va_S (wA (rL a) s.heap.size) s.heap s.heap [] := va_S.rf
  have hl := lv_entry ([.ref (a 0), .int above, .int down, .int up, .int delay]) (n := 5) (Nat.le_of_ble_eq_true rfl)
  rw [lg_entry_eq]
  generalize (lg_sl ([.ref (a 0), .int above, .int down, .int up, .int delay]) ++ List.replicate (5 - (lg_sl ([.ref (a 0), .int above, .int down, .int up, .int delay])).length) Slot.unset).toArray = ls at hl ⊢
  have hl : lv_has ls 5 [(0, .ref (a 0)), (1, .int above), (2, .int down), (3, .int up), (4, .int delay)] := hl
  refine lv_iload_n hx hb dX2_device_0 rfl (lv_at hl 1 rfl) ?_
  refine lv_if_lt (tgt := 47) hx hb dX2_device_1 (by decide) (fun c1 => ?_) (fun c1 => ?_)
  · refine lv_bipush (v := (-2)) hx hb dX2_device_47 (by decide) ?_
    have hE : R_device n S above down up delay = ((-2), S) := by first | (simp only [R_device, if_pos c1]; done) | (simp only [R_device, if_pos c1]; rfl)
    exact W.iret (v := (-2)) hx hb hr (fun tt ht hW => ⟨⟨(-2), (), rfl, by rw [hE], by rw [ht, hE]; exact hP, va_K.moved hW.alike hK⟩, hS.F ht⟩) hS.2.2 dX2_device_49
  · refine lv_iload_n hx hb dX2_device_4 rfl (lv_at hl 1 rfl) ?_
    refine lv_aload_n hx hb dX2_device_5 rfl (lv_at hl 0 rfl) ?_
    refine r_get (S := S) (v := .int (nI n)) hx hb hts hin hown hK hP 0 (by decide) (by decide +kernel) rfl (congrArg (fun z => some (Value.int z)) hok.1) dX2_device_6 ?_
    refine lv_ishr hx hb dX2_device_9 ?_
    refine lv_if_ne (tgt := 47) hx hb dX2_device_10 (by decide) (fun c2 => ?_) (fun c2 => ?_)
    · refine lv_bipush (v := (-2)) hx hb dX2_device_47 (by decide) ?_
      have hE : R_device n S above down up delay = ((-2), S) := by first | (simp only [R_device, if_neg c1, if_neg c2]; done) | (simp only [R_device, if_neg c1, if_neg c2]; rfl)
      exact W.iret (v := (-2)) hx hb hr (fun tt ht hW => ⟨⟨(-2), (), rfl, by rw [hE], by rw [ht, hE]; exact hP, va_K.moved hW.alike hK⟩, hS.F ht⟩) hS.2.2 dX2_device_49
    · refine lv_iload_n hx hb dX2_device_13 rfl (lv_at hl 2 rfl) ?_
      refine lv_iconst (v := 1) hx hb dX2_device_14 (by decide) ?_
      refine lv_icmp_lt (tgt := 47) hx hb dX2_device_15 (by decide) (fun c3 => ?_) (fun c3 => ?_)
      · refine lv_bipush (v := (-2)) hx hb dX2_device_47 (by decide) ?_
        have hE : R_device n S above down up delay = ((-2), S) := by first | (simp only [R_device, if_neg c1, if_pos c2, if_pos c3]; done) | (simp only [R_device, if_neg c1, if_pos c2, if_pos c3]; rfl)
        exact W.iret (v := (-2)) hx hb hr (fun tt ht hW => ⟨⟨(-2), (), rfl, by rw [hE], by rw [ht, hE]; exact hP, va_K.moved hW.alike hK⟩, hS.F ht⟩) hS.2.2 dX2_device_49
      · refine lv_iload_n hx hb dX2_device_18 rfl (lv_at hl 2 rfl) ?_
        refine lv_bipush (v := 20) hx hb dX2_device_19 (by decide) ?_
        refine lv_icmp_gt (tgt := 47) hx hb dX2_device_21 (by decide) (fun c4 => ?_) (fun c4 => ?_)
        · refine lv_bipush (v := (-2)) hx hb dX2_device_47 (by decide) ?_
          have hE : R_device n S above down up delay = ((-2), S) := by first | (simp only [R_device, if_neg c1, if_pos c2, if_neg c3, if_pos c4]; done) | (simp only [R_device, if_neg c1, if_pos c2, if_neg c3, if_pos c4]; rfl)
          exact W.iret (v := (-2)) hx hb hr (fun tt ht hW => ⟨⟨(-2), (), rfl, by rw [hE], by rw [ht, hE]; exact hP, va_K.moved hW.alike hK⟩, hS.F ht⟩) hS.2.2 dX2_device_49
        · refine lv_iload_n hx hb dX2_device_24 rfl (lv_at hl 3 rfl) ?_
          refine lv_iconst (v := 1) hx hb dX2_device_25 (by decide) ?_
          refine lv_icmp_lt (tgt := 47) hx hb dX2_device_26 (by decide) (fun c5 => ?_) (fun c5 => ?_)
          · refine lv_bipush (v := (-2)) hx hb dX2_device_47 (by decide) ?_
            have hE : R_device n S above down up delay = ((-2), S) := by first | (simp only [R_device, if_neg c1, if_pos c2, if_neg c3, if_neg c4, if_pos c5]; done) | (simp only [R_device, if_neg c1, if_pos c2, if_neg c3, if_neg c4, if_pos c5]; rfl)
            exact W.iret (v := (-2)) hx hb hr (fun tt ht hW => ⟨⟨(-2), (), rfl, by rw [hE], by rw [ht, hE]; exact hP, va_K.moved hW.alike hK⟩, hS.F ht⟩) hS.2.2 dX2_device_49
          · refine lv_iload_n hx hb dX2_device_29 rfl (lv_at hl 3 rfl) ?_
            refine lv_bipush (v := 20) hx hb dX2_device_30 (by decide) ?_
            refine lv_icmp_gt (tgt := 47) hx hb dX2_device_32 (by decide) (fun c6 => ?_) (fun c6 => ?_)
            · refine lv_bipush (v := (-2)) hx hb dX2_device_47 (by decide) ?_
              have hE : R_device n S above down up delay = ((-2), S) := by first | (simp only [R_device, if_neg c1, if_pos c2, if_neg c3, if_neg c4, if_neg c5, if_pos c6]; done) | (simp only [R_device, if_neg c1, if_pos c2, if_neg c3, if_neg c4, if_neg c5, if_pos c6]; rfl)
              exact W.iret (v := (-2)) hx hb hr (fun tt ht hW => ⟨⟨(-2), (), rfl, by rw [hE], by rw [ht, hE]; exact hP, va_K.moved hW.alike hK⟩, hS.F ht⟩) hS.2.2 dX2_device_49
            · refine lv_iload hx hb dX2_device_35 (lv_at hl 4 rfl) ?_
              refine lv_if_lt (tgt := 47) hx hb dX2_device_37 (by decide) (fun c7 => ?_) (fun c7 => ?_)
              · refine lv_bipush (v := (-2)) hx hb dX2_device_47 (by decide) ?_
                have hE : R_device n S above down up delay = ((-2), S) := by first | (simp only [R_device, if_neg c1, if_pos c2, if_neg c3, if_neg c4, if_neg c5, if_neg c6, if_pos c7]; done) | (simp only [R_device, if_neg c1, if_pos c2, if_neg c3, if_neg c4, if_neg c5, if_neg c6, if_pos c7]; rfl)
                exact W.iret (v := (-2)) hx hb hr (fun tt ht hW => ⟨⟨(-2), (), rfl, by rw [hE], by rw [ht, hE]; exact hP, va_K.moved hW.alike hK⟩, hS.F ht⟩) hS.2.2 dX2_device_49
              · refine lv_iload hx hb dX2_device_40 (lv_at hl 4 rfl) ?_
                refine lv_bipush (v := 50) hx hb dX2_device_42 (by decide) ?_
                refine lv_icmp_le (tgt := 50) hx hb dX2_device_44 (by decide) (fun c8 => ?_) (fun c8 => ?_)
                · refine lv_aload_n hx hb dX2_device_50 rfl (lv_at hl 0 rfl) ?_
                  refine r_get (S := S) (v := .int (S.1 12)) hx hb hts hin hown hK hP 12 (by decide) (by decide +kernel) rfl rfl dX2_device_51 ?_
                  refine lv_if_eq (tgt := 60) hx hb dX2_device_54 (by decide) (fun c9 => ?_) (fun c9 => ?_)
                  · refine lv_aload_n hx hb dX2_device_60 rfl (lv_at hl 0 rfl) ?_
                    refine r_get (S := S) (v := .int (nI n)) hx hb hts hin hown hK hP 0 (by decide) (by decide +kernel) rfl (congrArg (fun z => some (Value.int z)) hok.1) dX2_device_61 ?_
                    refine lv_bipush (v := 12) hx hb dX2_device_64 (by decide) ?_
                    refine lv_icmp_ne (tgt := 72) hx hb dX2_device_66 (by decide) (fun c10 => ?_) (fun c10 => ?_)
                    · have c10n : ¬ n = 12 := fun z => c10 ((nI_eq (b := 12) (by omega) (by omega)).mpr z)
                      refine lv_aload_n hx hb dX2_device_72 rfl (lv_at hl 0 rfl) ?_
                      refine r_get (S := S) (v := .ref (a 1)) hx hb hts hin hown hK hP 1 (by decide) (by decide +kernel) rfl rfl dX2_device_73 ?_
                      refine lv_aload_n hx hb dX2_device_76 rfl (lv_at hl 0 rfl) ?_
                      refine r_get (S := S) (v := .int (nI n)) hx hb hts hin hown hK hP 0 (by decide) (by decide +kernel) rfl (congrArg (fun z => some (Value.int z)) hok.1) dX2_device_77 ?_
                      refine lv_iload_n hx hb dX2_device_80 rfl (lv_at hl 1 rfl) ?_
                      refine r_ast ha hx hb hK hP hS 1 (by decide) (j := n) (by omega) dX2_device_81 (fun H locs hP hS => ?_)
                      have hP : va_P D vwCl (rW cI cZ a (S.1, up2 (S.2) 1 n above)) H := hP
                      refine lv_aload_n hx hb dX2_device_82 rfl (lv_at hl 0 rfl) ?_
                      refine r_get (S := (S.1, up2 (S.2) 1 n above)) (v := .ref (a 2)) hx hb hts hin hown hK hP 2 (by decide) (by decide +kernel) rfl rfl dX2_device_83 ?_
                      refine lv_aload_n hx hb dX2_device_86 rfl (lv_at hl 0 rfl) ?_
                      refine r_get (S := (S.1, up2 (S.2) 1 n above)) (v := .int (nI n)) hx hb hts hin hown hK hP 0 (by decide) (by decide +kernel) rfl (congrArg (fun z => some (Value.int z)) hok.1) dX2_device_87 ?_
                      refine lv_iload_n hx hb dX2_device_90 rfl (lv_at hl 2 rfl) ?_
                      refine r_ast ha hx hb hK hP hS 2 (by decide) (j := n) (by omega) dX2_device_91 (fun H locs hP hS => ?_)
                      have hP : va_P D vwCl (rW cI cZ a (S.1, up2 (up2 (S.2) 1 n above) 2 n down)) H := hP
                      refine lv_aload_n hx hb dX2_device_92 rfl (lv_at hl 0 rfl) ?_
                      refine r_get (S := (S.1, up2 (up2 (S.2) 1 n above) 2 n down)) (v := .ref (a 3)) hx hb hts hin hown hK hP 3 (by decide) (by decide +kernel) rfl rfl dX2_device_93 ?_
                      refine lv_aload_n hx hb dX2_device_96 rfl (lv_at hl 0 rfl) ?_
                      refine r_get (S := (S.1, up2 (up2 (S.2) 1 n above) 2 n down)) (v := .int (nI n)) hx hb hts hin hown hK hP 0 (by decide) (by decide +kernel) rfl (congrArg (fun z => some (Value.int z)) hok.1) dX2_device_97 ?_
                      refine lv_iload_n hx hb dX2_device_100 rfl (lv_at hl 3 rfl) ?_
                      refine r_ast ha hx hb hK hP hS 3 (by decide) (j := n) (by omega) dX2_device_101 (fun H locs hP hS => ?_)
                      have hP : va_P D vwCl (rW cI cZ a (S.1, up2 (up2 (up2 (S.2) 1 n above) 2 n down) 3 n up)) H := hP
                      refine lv_aload_n hx hb dX2_device_102 rfl (lv_at hl 0 rfl) ?_
                      refine r_get (S := (S.1, up2 (up2 (up2 (S.2) 1 n above) 2 n down) 3 n up)) (v := .ref (a 4)) hx hb hts hin hown hK hP 4 (by decide) (by decide +kernel) rfl rfl dX2_device_103 ?_
                      refine lv_aload_n hx hb dX2_device_106 rfl (lv_at hl 0 rfl) ?_
                      refine r_get (S := (S.1, up2 (up2 (up2 (S.2) 1 n above) 2 n down) 3 n up)) (v := .int (nI n)) hx hb hts hin hown hK hP 0 (by decide) (by decide +kernel) rfl (congrArg (fun z => some (Value.int z)) hok.1) dX2_device_107 ?_
                      refine lv_iload hx hb dX2_device_110 (lv_at hl 4 rfl) ?_
                      refine r_ast ha hx hb hK hP hS 4 (by decide) (j := n) (by omega) dX2_device_112 (fun H locs hP hS => ?_)
                      have hP : va_P D vwCl (rW cI cZ a (S.1, up2 (up2 (up2 (up2 (S.2) 1 n above) 2 n down) 3 n up) 4 n delay)) H := hP
                      refine lv_aload_n hx hb dX2_device_113 rfl (lv_at hl 0 rfl) ?_
                      refine r_get (S := (S.1, up2 (up2 (up2 (up2 (S.2) 1 n above) 2 n down) 3 n up) 4 n delay)) (v := .ref (a 5)) hx hb hts hin hown hK hP 5 (by decide) (by decide +kernel) rfl rfl dX2_device_114 ?_
                      refine lv_aload_n hx hb dX2_device_117 rfl (lv_at hl 0 rfl) ?_
                      refine r_get (S := (S.1, up2 (up2 (up2 (up2 (S.2) 1 n above) 2 n down) 3 n up) 4 n delay)) (v := .int (nI n)) hx hb hts hin hown hK hP 0 (by decide) (by decide +kernel) rfl (congrArg (fun z => some (Value.int z)) hok.1) dX2_device_118 ?_
                      refine lv_iconst (v := 2) hx hb dX2_device_121 (by decide) ?_
                      refine r_ast ha hx hb hK hP hS 5 (by decide) (j := n) (by omega) dX2_device_122 (fun H locs hP hS => ?_)
                      have hP : va_P D vwCl (rW cI cZ a (S.1, up2 (up2 (up2 (up2 (up2 (S.2) 1 n above) 2 n down) 3 n up) 4 n delay) 5 n 2)) H := hP
                      refine lv_aload_n hx hb dX2_device_123 rfl (lv_at hl 0 rfl) ?_
                      refine r_get (S := (S.1, up2 (up2 (up2 (up2 (up2 (S.2) 1 n above) 2 n down) 3 n up) 4 n delay) 5 n 2)) (v := .ref (a 7)) hx hb hts hin hown hK hP 7 (by decide) (by decide +kernel) rfl rfl dX2_device_124 ?_
                      refine lv_aload_n hx hb dX2_device_127 rfl (lv_at hl 0 rfl) ?_
                      refine r_get (S := (S.1, up2 (up2 (up2 (up2 (up2 (S.2) 1 n above) 2 n down) 3 n up) 4 n delay) 5 n 2)) (v := .int (nI n)) hx hb hts hin hown hK hP 0 (by decide) (by decide +kernel) rfl (congrArg (fun z => some (Value.int z)) hok.1) dX2_device_128 ?_
                      refine lv_iconst (v := 0) hx hb dX2_device_131 (by decide) ?_
                      refine r_ast ha hx hb hK hP hS 7 (by decide) (j := n) (by omega) dX2_device_132 (fun H locs hP hS => ?_)
                      have hP : va_P D vwCl (rW cI cZ a (S.1, up2 (up2 (up2 (up2 (up2 (up2 (S.2) 1 n above) 2 n down) 3 n up) 4 n delay) 5 n 2) 7 n 0)) H := hP
                      refine lv_aload_n hx hb dX2_device_133 rfl (lv_at hl 0 rfl) ?_
                      refine r_get (S := (S.1, up2 (up2 (up2 (up2 (up2 (up2 (S.2) 1 n above) 2 n down) 3 n up) 4 n delay) 5 n 2) 7 n 0)) (v := .ref (a 8)) hx hb hts hin hown hK hP 8 (by decide) (by decide +kernel) rfl rfl dX2_device_134 ?_
                      refine lv_aload_n hx hb dX2_device_137 rfl (lv_at hl 0 rfl) ?_
                      refine r_get (S := (S.1, up2 (up2 (up2 (up2 (up2 (up2 (S.2) 1 n above) 2 n down) 3 n up) 4 n delay) 5 n 2) 7 n 0)) (v := .int (nI n)) hx hb hts hin hown hK hP 0 (by decide) (by decide +kernel) rfl (congrArg (fun z => some (Value.int z)) hok.1) dX2_device_138 ?_
                      refine lv_iconst (v := 0) hx hb dX2_device_141 (by decide) ?_
                      refine r_ast ha hx hb hK hP hS 8 (by decide) (j := n) (by omega) dX2_device_142 (fun H locs hP hS => ?_)
                      have hP : va_P D vwCl (rW cI cZ a (S.1, up2 (up2 (up2 (up2 (up2 (up2 (up2 (S.2) 1 n above) 2 n down) 3 n up) 4 n delay) 5 n 2) 7 n 0) 8 n 0)) H := hP
                      refine lv_aload_n hx hb dX2_device_143 rfl (lv_at hl 0 rfl) ?_
                      refine r_get (S := (S.1, up2 (up2 (up2 (up2 (up2 (up2 (up2 (S.2) 1 n above) 2 n down) 3 n up) 4 n delay) 5 n 2) 7 n 0) 8 n 0)) (v := .ref (a 9)) hx hb hts hin hown hK hP 9 (by decide) (by decide +kernel) rfl rfl dX2_device_144 ?_
                      refine lv_aload_n hx hb dX2_device_147 rfl (lv_at hl 0 rfl) ?_
                      refine r_get (S := (S.1, up2 (up2 (up2 (up2 (up2 (up2 (up2 (S.2) 1 n above) 2 n down) 3 n up) 4 n delay) 5 n 2) 7 n 0) 8 n 0)) (v := .int (nI n)) hx hb hts hin hown hK hP 0 (by decide) (by decide +kernel) rfl (congrArg (fun z => some (Value.int z)) hok.1) dX2_device_148 ?_
                      refine lv_iconst (v := 0) hx hb dX2_device_151 (by decide) ?_
                      refine r_ast ha hx hb hK hP hS 9 (by decide) (j := n) (by omega) dX2_device_152 (fun H locs hP hS => ?_)
                      have hP : va_P D vwCl (rW cI cZ a (S.1, up2 (up2 (up2 (up2 (up2 (up2 (up2 (up2 (S.2) 1 n above) 2 n down) 3 n up) 4 n delay) 5 n 2) 7 n 0) 8 n 0) 9 n 0)) H := hP
                      refine lv_aload_n hx hb dX2_device_153 rfl (lv_at hl 0 rfl) ?_
                      refine r_get (S := (S.1, up2 (up2 (up2 (up2 (up2 (up2 (up2 (up2 (S.2) 1 n above) 2 n down) 3 n up) 4 n delay) 5 n 2) 7 n 0) 8 n 0) 9 n 0)) (v := .ref (a 10)) hx hb hts hin hown hK hP 10 (by decide) (by decide +kernel) rfl rfl dX2_device_154 ?_
                      refine lv_aload_n hx hb dX2_device_157 rfl (lv_at hl 0 rfl) ?_
                      refine r_get (S := (S.1, up2 (up2 (up2 (up2 (up2 (up2 (up2 (up2 (S.2) 1 n above) 2 n down) 3 n up) 4 n delay) 5 n 2) 7 n 0) 8 n 0) 9 n 0)) (v := .int (nI n)) hx hb hts hin hown hK hP 0 (by decide) (by decide +kernel) rfl (congrArg (fun z => some (Value.int z)) hok.1) dX2_device_158 ?_
                      refine lv_iconst (v := 0) hx hb dX2_device_161 (by decide) ?_
                      refine r_zast ha hx hb hK hP hS 10 (by decide) (j := n) (by omega) (Or.inl rfl) dX2_device_162 (fun H locs hP hS => ?_)
                      have hP : va_P D vwCl (rW cI cZ a (S.1, up2 (up2 (up2 (up2 (up2 (up2 (up2 (up2 (up2 (S.2) 1 n above) 2 n down) 3 n up) 4 n delay) 5 n 2) 7 n 0) 8 n 0) 9 n 0) 10 n 0)) H := hP
                      refine lv_aload_n hx hb dX2_device_163 rfl (lv_at hl 0 rfl) ?_
                      refine lv_dup hx hb dX2_device_164 rfl ?_
                      refine r_get (S := (S.1, up2 (up2 (up2 (up2 (up2 (up2 (up2 (up2 (up2 (S.2) 1 n above) 2 n down) 3 n up) 4 n delay) 5 n 2) 7 n 0) 8 n 0) 9 n 0) 10 n 0)) (v := .int (nI n)) hx hb hts hin hown hK hP 0 (by decide) (by decide +kernel) rfl (congrArg (fun z => some (Value.int z)) hok.1) dX2_device_165 ?_
                      refine lv_iconst (v := 1) hx hb dX2_device_168 (by decide) ?_
                      refine lv_iadd hx hb dX2_device_169 ?_
                      refine r_put ha hx hb hts hin hown hK hP hS 0 (by decide) (by decide +kernel) ⟨rfl, rfl, rfl⟩ dX2_device_170 (fun H locs hP hS => ?_)
                      have hP : va_P D vwCl (rW cI cZ a (upd (S.1) 0 ((nI n) + 1), up2 (up2 (up2 (up2 (up2 (up2 (up2 (up2 (up2 (S.2) 1 n above) 2 n down) 3 n up) 4 n delay) 5 n 2) 7 n 0) 8 n 0) 9 n 0) 10 n 0)) H := hP
                      have hok : rOk (n + 1) (upd (S.1) 0 ((nI n) + 1), up2 (up2 (up2 (up2 (up2 (up2 (up2 (up2 (up2 (S.2) 1 n above) 2 n down) 3 n up) 4 n delay) 5 n 2) 7 n 0) 8 n 0) 9 n 0) 10 n 0) := R_dev_ok hok (by omega) c2 rfl rfl
                      refine lv_aload_n hx hb dX2_device_173 rfl (lv_at hl 0 rfl) ?_
                      refine lv_aload_n hx hb dX2_device_174 rfl (lv_at hl 0 rfl) ?_
                      refine lv_aload_n hx hb dX2_device_175 rfl (lv_at hl 0 rfl) ?_
                      refine r_get (S := (upd (S.1) 0 ((nI n) + 1), up2 (up2 (up2 (up2 (up2 (up2 (up2 (up2 (up2 (S.2) 1 n above) 2 n down) 3 n up) 4 n delay) 5 n 2) 7 n 0) 8 n 0) 9 n 0) 10 n 0)) (v := .int ((nI n) + 1)) hx hb hts hin hown hK hP 0 (by decide) (by decide +kernel) rfl rfl dX2_device_176 ?_
                      refine lv_iconst (v := 1) hx hb dX2_device_179 (by decide) ?_
                      refine lv_isub hx hb dX2_device_180 ?_
                      rw [nI_back n]
                      refine m_callR (As := [.int (nI n)]) (rest := [.ref (a 0)]) ⟨hx, hb, hml, hown, hts⟩ (c_X2_line l D cI cZ a ha (n + 1) (upd (S.1) 0 ((nI n) + 1), up2 (up2 (up2 (up2 (up2 (up2 (up2 (up2 (up2 (S.2) 1 n above) 2 n down) 3 n up) 4 n delay) 5 n 2) 7 n 0) 8 n 0) 9 n 0) 10 n 0) hok n (by omega)) (cwV 1 hts gX2_device_X2_line rfl rfl rfl (by decide +kernel) ⟨Nat.le_of_ble_eq_true rfl, Nat.le_of_ble_eq_true rfl⟩) hK hP (va_recv hK hP (ci := 3) (q0 := 0) rfl rfl) rfl hl.1 rfl (Nat.le_of_ble_eq_true rfl) dX2_device_181 ⟨Nat.zero_le _, Nat.zero_le _⟩ ?_
                      refine m_calli (As := [.int (R_line (n + 1) (upd (S.1) 0 ((nI n) + 1), up2 (up2 (up2 (up2 (up2 (up2 (up2 (up2 (up2 (S.2) 1 n above) 2 n down) 3 n up) 4 n delay) 5 n 2) 7 n 0) 8 n 0) 9 n 0) 10 n 0) n)]) (rest := []) ⟨hx, hb, hml, hown, hts⟩ (c_X2_rouse l D cI cZ a ha (n + 1) (upd (S.1) 0 ((nI n) + 1), up2 (up2 (up2 (up2 (up2 (up2 (up2 (up2 (up2 (S.2) 1 n above) 2 n down) 3 n up) 4 n delay) 5 n 2) 7 n 0) 8 n 0) 9 n 0) 10 n 0) hok (R_line (n + 1) (upd (S.1) 0 ((nI n) + 1), up2 (up2 (up2 (up2 (up2 (up2 (up2 (up2 (up2 (S.2) 1 n above) 2 n down) 3 n up) 4 n delay) 5 n 2) 7 n 0) 8 n 0) 9 n 0) 10 n 0) n)) (cwV 1 hts gX2_device_X2_rouse rfl rfl rfl (by decide +kernel) ⟨Nat.le_of_ble_eq_true rfl, Nat.le_of_ble_eq_true rfl⟩) hK hP hS (fun q h => wA_up hS.1 q h) (va_recv hK hP (ci := 3) (q0 := 0) rfl rfl) rfl hl.1 rfl (Nat.le_of_ble_eq_true rfl) dX2_device_184 ⟨Nat.zero_le _, Nat.zero_le _⟩ (fun H locs hP hS _ => ?_)
                      have hok : rOk (n + 1) (R_rouse (n + 1) (upd (S.1) 0 ((nI n) + 1), up2 (up2 (up2 (up2 (up2 (up2 (up2 (up2 (up2 (S.2) 1 n above) 2 n down) 3 n up) 4 n delay) 5 n 2) 7 n 0) 8 n 0) 9 n 0) 10 n 0) (R_line (n + 1) (upd (S.1) 0 ((nI n) + 1), up2 (up2 (up2 (up2 (up2 (up2 (up2 (up2 (up2 (S.2) 1 n above) 2 n down) 3 n up) 4 n delay) 5 n 2) 7 n 0) 8 n 0) 9 n 0) 10 n 0) n)).2 := R_rouse_ok (n + 1) (upd (S.1) 0 ((nI n) + 1), up2 (up2 (up2 (up2 (up2 (up2 (up2 (up2 (up2 (S.2) 1 n above) 2 n down) 3 n up) 4 n delay) 5 n 2) 7 n 0) 8 n 0) 9 n 0) 10 n 0) (R_line (n + 1) (upd (S.1) 0 ((nI n) + 1), up2 (up2 (up2 (up2 (up2 (up2 (up2 (up2 (up2 (S.2) 1 n above) 2 n down) 3 n up) 4 n delay) 5 n 2) 7 n 0) 8 n 0) 9 n 0) 10 n 0) n) hok
                      refine lv_pop hx hb dX2_device_187 rfl ?_
                      refine lv_aload_n hx hb dX2_device_188 rfl (lv_at hl 0 rfl) ?_
                      refine r_get (S := (R_rouse (n + 1) (upd (S.1) 0 ((nI n) + 1), up2 (up2 (up2 (up2 (up2 (up2 (up2 (up2 (up2 (S.2) 1 n above) 2 n down) 3 n up) 4 n delay) 5 n 2) 7 n 0) 8 n 0) 9 n 0) 10 n 0) (R_line (n + 1) (upd (S.1) 0 ((nI n) + 1), up2 (up2 (up2 (up2 (up2 (up2 (up2 (up2 (up2 (S.2) 1 n above) 2 n down) 3 n up) 4 n delay) 5 n 2) 7 n 0) 8 n 0) 9 n 0) 10 n 0) n)).2) (v := .int (nI (n + 1))) hx hb hts hin hown hK hP 0 (by decide) (by decide +kernel) rfl (congrArg (fun z => some (Value.int z)) hok.1) dX2_device_189 ?_
                      refine lv_iconst (v := 1) hx hb dX2_device_192 (by decide) ?_
                      refine lv_isub hx hb dX2_device_193 ?_
                      rw [nI_pred]
                      have hE : R_device n S above down up delay = (nI n, (R_rouse (n + 1) (upd (S.1) 0 ((nI n) + 1), up2 (up2 (up2 (up2 (up2 (up2 (up2 (up2 (up2 (S.2) 1 n above) 2 n down) 3 n up) 4 n delay) 5 n 2) 7 n 0) 8 n 0) 9 n 0) 10 n 0) (R_line (n + 1) (upd (S.1) 0 ((nI n) + 1), up2 (up2 (up2 (up2 (up2 (up2 (up2 (up2 (up2 (S.2) 1 n above) 2 n down) 3 n up) 4 n delay) 5 n 2) 7 n 0) 8 n 0) 9 n 0) 10 n 0) n)).2) := by first | (simp only [R_device, if_neg c1, if_pos c2, if_neg c3, if_neg c4, if_neg c5, if_neg c6, if_neg c7, if_pos c8, if_pos c9, if_neg c10]; done) | (simp only [R_device, if_neg c1, if_pos c2, if_neg c3, if_neg c4, if_neg c5, if_neg c6, if_neg c7, if_pos c8, if_pos c9, if_neg c10]; rfl)
                      exact W.iret (v := nI n) hx hb hr (fun tt ht hW => ⟨⟨nI n, (), rfl, by rw [hE], by rw [ht, hE]; exact hP, va_K.moved hW.alike hK⟩, hS.F ht⟩) hS.2.2 dX2_device_194
                    · have c10n : n = 12 := (nI_eq (b := 12) (by omega) (by omega)).mp c10
                      refine lv_bipush (v := (-4)) hx hb dX2_device_69 (by decide) ?_
                      have hE : R_device n S above down up delay = ((-4), S) := by first | (simp only [R_device, if_neg c1, if_pos c2, if_neg c3, if_neg c4, if_neg c5, if_neg c6, if_neg c7, if_pos c8, if_pos c9, if_pos c10]; done) | (simp only [R_device, if_neg c1, if_pos c2, if_neg c3, if_neg c4, if_neg c5, if_neg c6, if_neg c7, if_pos c8, if_pos c9, if_pos c10]; rfl)
                      exact W.iret (v := (-4)) hx hb hr (fun tt ht hW => ⟨⟨(-4), (), rfl, by rw [hE], by rw [ht, hE]; exact hP, va_K.moved hW.alike hK⟩, hS.F ht⟩) hS.2.2 dX2_device_71
                  · refine lv_bipush (v := (-3)) hx hb dX2_device_57 (by decide) ?_
                    have hE : R_device n S above down up delay = ((-3), S) := by first | (simp only [R_device, if_neg c1, if_pos c2, if_neg c3, if_neg c4, if_neg c5, if_neg c6, if_neg c7, if_pos c8, if_neg c9]; done) | (simp only [R_device, if_neg c1, if_pos c2, if_neg c3, if_neg c4, if_neg c5, if_neg c6, if_neg c7, if_pos c8, if_neg c9]; rfl)
                    exact W.iret (v := (-3)) hx hb hr (fun tt ht hW => ⟨⟨(-3), (), rfl, by rw [hE], by rw [ht, hE]; exact hP, va_K.moved hW.alike hK⟩, hS.F ht⟩) hS.2.2 dX2_device_59
                · refine lv_bipush (v := (-2)) hx hb dX2_device_47 (by decide) ?_
                  have hE : R_device n S above down up delay = ((-2), S) := by first | (simp only [R_device, if_neg c1, if_pos c2, if_neg c3, if_neg c4, if_neg c5, if_neg c6, if_neg c7, if_neg c8]; done) | (simp only [R_device, if_neg c1, if_pos c2, if_neg c3, if_neg c4, if_neg c5, if_neg c6, if_neg c7, if_neg c8]; rfl)
                  exact W.iret (v := (-2)) hx hb hr (fun tt ht hW => ⟨⟨(-2), (), rfl, by rw [hE], by rw [ht, hE]; exact hP, va_K.moved hW.alike hK⟩, hS.F ht⟩) hS.2.2 dX2_device_49

theorem fig_out {k : Int32} (h0 : ¬ k = 0) (h1 : ¬ k = 1) (h2 : ¬ k = 2) (h3 : ¬ k = 3) (h4 : ¬ k = 4) (h5 : ¬ k = 5) (h6 : ¬ k = 6) : k.toInt < 0 ∨ 6 < k.toInt := by
  rcases Int.lt_or_le k.toInt 0 with h | h
  · exact Or.inl h
  · refine Or.inr ?_
    have key : ∀ j : Nat, j < 7 → k.toInt ≠ (j : Int) := by
      intro j hj q
      have e : k = nI j := Int32.toInt_inj.mp (q.trans (nI_toInt (by omega)).symm)
      have hjj : j = 0 ∨ j = 1 ∨ j = 2 ∨ j = 3 ∨ j = 4 ∨ j = 5 ∨ j = 6 := by omega
      rcases hjj with rfl | rfl | rfl | rfl | rfl | rfl | rfl
      · exact h0 e
      · exact h1 e
      · exact h2 e
      · exact h3 e
      · exact h4 e
      · exact h5 e
      · exact h6 e
    have k0 := key 0 (by omega); have k1 := key 1 (by omega); have k2 := key 2 (by omega); have k3 := key 3 (by omega); have k4 := key 4 (by omega); have k5 := key 5 (by omega); have k6 := key 6 (by omega)
    omega

def R_figure (n : Nat) (S : rSt) (k : Int32) : Int32 :=
  if k = 0 then S.1 17
  else if k = 1 then S.1 19
  else if k = 2 then S.1 20
  else if k = 3 then S.1 21
  else if k = 4 then S.1 22
  else if k = 5 then S.1 16
  else if k = 6 then nI n
  else (-2)
set_option maxHeartbeats 4000000 in
set_option maxRecDepth 100000 in
theorem c_X2_figure (l : Launch) (D : va_G) (cI cZ : ClassId) (a : Nat → Nat) (ha : (rL a).Nodup) (n : Nat) (S : rSt) (hok : rOk n S) (k : Int32) : mR l yX2_figure wsX2_figure (rmz 0 0) D (rT cI cZ) [.ref (a 0), .int k] (rW cI cZ a S) (R_figure n S k) := by
  refine Met.ofW (cc := cX2_figure) (maxL := 2) (ret := (some .int)) (by decide) rfl ?_
  intro p e s m args below meth c s₁ B hml hv
  obtain ⟨rfl, hP, hK⟩ := hv
  have hx := B.exec
  have hb := B.bytes
  have hr := B.returns
  have hts := atoms_spec (ws := wsX2_figure) B.pre
  have hin : ∀ w ∈ wsX20, w ∈ wsX2_figure := fun w h => List.mem_cons_of_mem _ (List.mem_append_right _ h)
  have hown : s.vm.findClass RX2 = some m.cls := findClass_of_methodNamed B.named
  have hlocks := B.notSynchronized
  have hn12 : n ≤ 12 := hok.2.1
  have hl := lv_entry ([.ref (a 0), .int k]) (n := 2) (Nat.le_of_ble_eq_true rfl)
  rw [lg_entry_eq]
  generalize (lg_sl ([.ref (a 0), .int k]) ++ List.replicate (2 - (lg_sl ([.ref (a 0), .int k])).length) Slot.unset).toArray = ls at hl ⊢
  have hl : lv_has ls 2 [(0, .ref (a 0)), (1, .int k)] := hl
  refine lv_iload_n hx hb dX2_figure_0 rfl (lv_at hl 1 rfl) ?_
  by_cases h0 : k = 0
  · subst h0
    refine lv_tableIn (off := 43) (tgt := 44) hx hb dX2_figure_1 (by decide) (by decide) (by decide) (by decide) ?_
    refine lv_aload_n hx hb dX2_figure_44 rfl (lv_at hl 0 rfl) ?_
    refine r_get (S := S) (v := .int (S.1 17)) hx hb hts hin hown hK hP 17 (by decide) (by decide +kernel) rfl rfl dX2_figure_45 ?_
    have hE : R_figure n S 0 = S.1 17 := by first | rfl | (simp [R_figure]; done) | (simp [C_figure]; done)
    exact W.iret (v := S.1 17) hx hb hr (fun tt ht hW => ⟨S.1 17, rfl, hE.symm, ht⟩) (fun q hq => by cases hq) dX2_figure_48
  · by_cases h1 : k = 1
    · subst h1
      refine lv_tableIn (off := 48) (tgt := 49) hx hb dX2_figure_1 (by decide) (by decide) (by decide) (by decide) ?_
      refine lv_aload_n hx hb dX2_figure_49 rfl (lv_at hl 0 rfl) ?_
      refine r_get (S := S) (v := .int (S.1 19)) hx hb hts hin hown hK hP 19 (by decide) (by decide +kernel) rfl rfl dX2_figure_50 ?_
      have hE : R_figure n S 1 = S.1 19 := by first | rfl | (simp [R_figure]; done) | (simp [C_figure]; done)
      exact W.iret (v := S.1 19) hx hb hr (fun tt ht hW => ⟨S.1 19, rfl, hE.symm, ht⟩) (fun q hq => by cases hq) dX2_figure_53
    · by_cases h2 : k = 2
      · subst h2
        refine lv_tableIn (off := 53) (tgt := 54) hx hb dX2_figure_1 (by decide) (by decide) (by decide) (by decide) ?_
        refine lv_aload_n hx hb dX2_figure_54 rfl (lv_at hl 0 rfl) ?_
        refine r_get (S := S) (v := .int (S.1 20)) hx hb hts hin hown hK hP 20 (by decide) (by decide +kernel) rfl rfl dX2_figure_55 ?_
        have hE : R_figure n S 2 = S.1 20 := by first | rfl | (simp [R_figure]; done) | (simp [C_figure]; done)
        exact W.iret (v := S.1 20) hx hb hr (fun tt ht hW => ⟨S.1 20, rfl, hE.symm, ht⟩) (fun q hq => by cases hq) dX2_figure_58
      · by_cases h3 : k = 3
        · subst h3
          refine lv_tableIn (off := 58) (tgt := 59) hx hb dX2_figure_1 (by decide) (by decide) (by decide) (by decide) ?_
          refine lv_aload_n hx hb dX2_figure_59 rfl (lv_at hl 0 rfl) ?_
          refine r_get (S := S) (v := .int (S.1 21)) hx hb hts hin hown hK hP 21 (by decide) (by decide +kernel) rfl rfl dX2_figure_60 ?_
          have hE : R_figure n S 3 = S.1 21 := by first | rfl | (simp [R_figure]; done) | (simp [C_figure]; done)
          exact W.iret (v := S.1 21) hx hb hr (fun tt ht hW => ⟨S.1 21, rfl, hE.symm, ht⟩) (fun q hq => by cases hq) dX2_figure_63
        · by_cases h4 : k = 4
          · subst h4
            refine lv_tableIn (off := 63) (tgt := 64) hx hb dX2_figure_1 (by decide) (by decide) (by decide) (by decide) ?_
            refine lv_aload_n hx hb dX2_figure_64 rfl (lv_at hl 0 rfl) ?_
            refine r_get (S := S) (v := .int (S.1 22)) hx hb hts hin hown hK hP 22 (by decide) (by decide +kernel) rfl rfl dX2_figure_65 ?_
            have hE : R_figure n S 4 = S.1 22 := by first | rfl | (simp [R_figure]; done) | (simp [C_figure]; done)
            exact W.iret (v := S.1 22) hx hb hr (fun tt ht hW => ⟨S.1 22, rfl, hE.symm, ht⟩) (fun q hq => by cases hq) dX2_figure_68
          · by_cases h5 : k = 5
            · subst h5
              refine lv_tableIn (off := 68) (tgt := 69) hx hb dX2_figure_1 (by decide) (by decide) (by decide) (by decide) ?_
              refine lv_aload_n hx hb dX2_figure_69 rfl (lv_at hl 0 rfl) ?_
              refine r_get (S := S) (v := .int (S.1 16)) hx hb hts hin hown hK hP 16 (by decide) (by decide +kernel) rfl rfl dX2_figure_70 ?_
              have hE : R_figure n S 5 = S.1 16 := by first | rfl | (simp [R_figure]; done) | (simp [C_figure]; done)
              exact W.iret (v := S.1 16) hx hb hr (fun tt ht hW => ⟨S.1 16, rfl, hE.symm, ht⟩) (fun q hq => by cases hq) dX2_figure_73
            · by_cases h6 : k = 6
              · subst h6
                refine lv_tableIn (off := 73) (tgt := 74) hx hb dX2_figure_1 (by decide) (by decide) (by decide) (by decide) ?_
                refine lv_aload_n hx hb dX2_figure_74 rfl (lv_at hl 0 rfl) ?_
                refine r_get (S := S) (v := .int (nI n)) hx hb hts hin hown hK hP 0 (by decide) (by decide +kernel) rfl (congrArg (fun z => some (Value.int z)) hok.1) dX2_figure_75 ?_
                have hE : R_figure n S 6 = nI n := by first | rfl | (simp [R_figure]; done) | (simp [C_figure]; done)
                exact W.iret (v := nI n) hx hb hr (fun tt ht hW => ⟨nI n, rfl, hE.symm, ht⟩) (fun q hq => by cases hq) dX2_figure_78
              · refine lv_tableOut (tgt := 79) hx hb dX2_figure_1 (fig_out h0 h1 h2 h3 h4 h5 h6) (by decide) ?_
                refine lv_bipush (v := (-2)) hx hb dX2_figure_79 (by decide) ?_
                have hE : R_figure n S k = (-2) := by first | (simp only [R_figure, if_neg h0, if_neg h1, if_neg h2, if_neg h3, if_neg h4, if_neg h5, if_neg h6]; done) | (simp only [R_figure, if_neg h0, if_neg h1, if_neg h2, if_neg h3, if_neg h4, if_neg h5, if_neg h6]; rfl)
                exact W.iret (v := (-2)) hx hb hr (fun tt ht hW => ⟨(-2), rfl, hE.symm, ht⟩) (fun q hq => by cases hq) dX2_figure_81
end
section
/-! calls that are static or answer a reference; the JDK's own reads of a list -/
section MC2
variable {p : Program} {l : Launch} {e : Env} {R : Room} {s : State} {m : MethodId} {args : Array Value} {below : List Frame} {meth : Method} {c : Code} {H : Heap} {locs : List Loc} {cells slots : Nat} {Q : State → Prop}
variable {cc bytes : ByteArray} {pc index nL n maxL : Nat} {ls : Array Slot} {rest st0 As : List Value} {y : MethodName} {ws Ts : List Cond} {rm : Room} {ret : Option FieldType} {own C : String} {b : Nat} {D : va_G} {tys : List (ClassId × FieldType)} {w0 : va_W} {ans : Int32} {qns : Option Nat}
theorem m_callRS (S : CallFix p m c cc nL s args Ts own) (hM : mR l y ws rm D tys As w0 ans) (cw : CallB R s args own index y bytes maxL ret ws rm 0 0 n ∧ (Cond.static y).before args s = true) (hK : va_K D vwCl tys s) (hP : va_P D vwCl w0 H)
    (hn : As.length = n) (hsize : ls.size = nL) (hstack : st0 = As.reverse ++ rest) (hW : (rest.map fun v => v.category).sum ≤ 8) (hdg : decode cc pc = .ok (.invokestatic index, 3)) (hf : cells + 0 ≤ R.cells ∧ slots + 0 ≤ R.slots)
    (kk : W p l e R s m args below meth c H locs cells slots Q (F0 m (pc + 3) ls (.int ans :: rest))) : W p l e R s m args below meth c H locs cells slots Q (F0 m pc ls st0) := by
  refine vp_callSi (W.runS (As := As) (rest := rest) S hM cw ⟨m_blindR, fun U hU hw => ⟨rfl, by rw [hU]; exact hP, va_K.moved hw.alike hK⟩⟩ rfl hn hsize hstack (lv_room hW) hdg hf) (fun r hr => ?_)
  subst hr
  exact kk
theorem m_callQ (S : CallFix p m c cc nL s args Ts own) (hM : mQ l y ws rm D tys (.ref b :: As) w0 qns) (cw : CallW R s args own C index y bytes maxL ret ws rm 0 0 n) (hK : va_K D vwCl tys s) (hP : va_P D vwCl w0 H)
    (hrec : ∃ cellB : Cell, H[b]? = some cellB ∧ cellB.vm.isStatics = false ∧ s.vm.findClass C = some cellB.cls) (hn : As.length = n) (hsize : ls.size = nL) (hstack : st0 = As.reverse ++ .ref b :: rest) (hW : (rest.map fun v => v.category).sum ≤ 8) (hdg : decode cc pc = .ok (.invokevirtual index, 3)) (hf : cells + 0 ≤ R.cells ∧ slots + 0 ≤ R.slots)
    (kk : W p l e R s m args below meth c H locs cells slots Q (F0 m (pc + 3) ls (va_rf qns :: rest))) : W p l e R s m args below meth c H locs cells slots Q (F0 m pc ls st0) := by
  refine va_csq (W.runV (As := As) (rest := rest) S hM cw ⟨m_blindR, hrec, fun U hU hw => ⟨rfl, by rw [hU]; exact hP, va_K.moved hw.alike hK⟩⟩ rfl hn hsize hstack (lv_room hW) hdg hf) (fun r hr => ?_)
  subst hr
  exact kk
end MC2
theorem va_rf_cases (r : Option Nat) : va_rf r = .null ∨ ∃ a, va_rf r = .ref a := by cases r <;> simp [va_rf]
set_option maxHeartbeats 4000000 in
set_option maxRecDepth 100000 in
theorem c_J3_checkIndex (l : Launch) (D : va_G) (tys : List (ClassId × FieldType)) (w0 : va_W) (i n : Nat) (hi : i < n) (hn : n < 2 ^ 31) : mR l yJ3_checkIndex_8e157 wsJ3_checkIndex_8e157 (rmz 0 0) D tys [.int (nI i), .int (nI n), .null] w0 (nI i) := by
  refine Met.ofW (cc := cJ3_checkIndex_8e157) (maxL := 3) (ret := (some .int)) (by decide) rfl ?_
  intro p e s m args below meth c s₁ B hml hv
  obtain ⟨rfl, hP, hK⟩ := hv
  have hx := B.exec
  have hb := B.bytes
  have hr := B.returns
  have hlocks := B.notSynchronized
  have hl := lv_entry ([.int (nI i), .int (nI n), .null]) (n := 3) (Nat.le_of_ble_eq_true rfl)
  rw [lg_entry_eq]
  generalize (lg_sl ([.int (nI i), .int (nI n), .null]) ++ List.replicate (3 - (lg_sl ([.int (nI i), .int (nI n), .null])).length) Slot.unset).toArray = ls at hl ⊢
  have hl : lv_has ls 3 [(0, .int (nI i)), (1, .int (nI n)), (2, .null)] := hl
  refine lv_iload_n hx hb dJ3_checkIndex_8e157_0 rfl (lv_at hl 0 rfl) ?_
  refine lv_if_lt (tgt := 9) hx hb dJ3_checkIndex_8e157_1 (by decide) (fun c1 => ?_) (fun c1 => ?_)
  · exact absurd c1 (nI_pos (by omega))
  · refine lv_iload_n hx hb dJ3_checkIndex_8e157_4 rfl (lv_at hl 0 rfl) ?_
    refine lv_iload_n hx hb dJ3_checkIndex_8e157_5 rfl (lv_at hl 1 rfl) ?_
    refine lv_icmp_lt (tgt := 16) hx hb dJ3_checkIndex_8e157_6 (by decide) (fun c2 => ?_) (fun c2 => ?_)
    · refine lv_iload_n hx hb dJ3_checkIndex_8e157_16 rfl (lv_at hl 0 rfl) ?_
      exact W.iret (v := nI i) hx hb hr (fun tt ht hW => ⟨nI i, rfl, rfl, ht⟩) (fun q hq => by cases hq) dJ3_checkIndex_8e157_17
    · exact absurd (nI_lt hi hn) c2
set_option maxHeartbeats 4000000 in
set_option maxRecDepth 100000 in
theorem c_J15_checkIndex (l : Launch) (D : va_G) (tys : List (ClassId × FieldType)) (w0 : va_W) (i n : Nat) (hi : i < n) (hn : n < 2 ^ 31) : mR l yJ15_checkIndex_7cf53 wsJ15_checkIndex_7cf53 (rmz 1 22) D tys [.int (nI i), .int (nI n)] w0 (nI i) := by
  refine Met.ofW (cc := cJ15_checkIndex_7cf53) (maxL := 2) (ret := (some .int)) (by decide) rfl ?_
  intro p e s m args below meth c s₁ B hml hv
  obtain ⟨rfl, hP, hK⟩ := hv
  have hx := B.exec
  have hb := B.bytes
  have hr := B.returns
  have hts := atoms_spec (ws := wsJ15_checkIndex_7cf53) B.pre
  have hown : s.vm.findClass RJ15 = some m.cls := findClass_of_methodNamed B.named
  have hlocks := B.notSynchronized
  have hl := lv_entry ([.int (nI i), .int (nI n)]) (n := 2) (Nat.le_of_ble_eq_true rfl)
  rw [lg_entry_eq]
  generalize (lg_sl ([.int (nI i), .int (nI n)]) ++ List.replicate (2 - (lg_sl ([.int (nI i), .int (nI n)])).length) Slot.unset).toArray = ls at hl ⊢
  have hl : lv_has ls 2 [(0, .int (nI i)), (1, .int (nI n))] := hl
  refine lv_iload_n hx hb dJ15_checkIndex_7cf53_0 rfl (lv_at hl 0 rfl) ?_
  refine lv_iload_n hx hb dJ15_checkIndex_7cf53_1 rfl (lv_at hl 1 rfl) ?_
  refine lv_null hx hb dJ15_checkIndex_7cf53_2 ?_
  refine m_callRS (As := [.int (nI i), .int (nI n), .null]) (rest := []) ⟨hx, hb, hml, hown, hts⟩ (c_J3_checkIndex l D tys w0 i n hi hn) (va_cwS 3 hts gJ15_checkIndex_7cf53_J3_checkIndex_8e157 rfl rfl rfl (by decide +kernel) ⟨Nat.le_of_ble_eq_true rfl, Nat.le_of_ble_eq_true rfl⟩) hK hP rfl hl.1 rfl (Nat.le_of_ble_eq_true rfl) dJ15_checkIndex_7cf53_3 ⟨Nat.zero_le _, Nat.zero_le _⟩ ?_
  exact W.iret (v := nI i) hx hb hr (fun tt ht hW => ⟨nI i, rfl, rfl, ht⟩) (fun q hq => by cases hq) dJ15_checkIndex_7cf53_6
set_option maxHeartbeats 4000000 in
set_option maxRecDepth 100000 in
theorem c_J_size (l : Launch) (D : va_G) (tys : List (ClassId × FieldType)) (w0 : va_W) (q q0 ea : Nat) (md sz : Int32) (he : w0[q0]? = some (q, .inr (0, [.int md, .ref ea, .int sz]))) : mR l yJx4a65c_size_8abf5 wsJx4a65c_size_8abf5 (rmz 0 0) D tys [.ref q] w0 sz := by
  refine Met.ofW (cc := cJx4a65c_size_8abf5) (maxL := 1) (ret := (some .int)) (by decide) rfl ?_
  intro p e s m args below meth c s₁ B hml hv
  obtain ⟨rfl, hP, hK⟩ := hv
  have hx := B.exec
  have hb := B.bytes
  have hr := B.returns
  have hts := atoms_spec (ws := wsJx4a65c_size_8abf5) B.pre
  have hin : ∀ w ∈ wsJx4a65c0, w ∈ wsJx4a65c_size_8abf5 := fun w h => List.mem_cons_of_mem _ (List.mem_append_right _ h)
  have hown : s.vm.findClass RJx4a65c = some m.cls := findClass_of_methodNamed B.named
  have hlocks := B.notSynchronized
  have hl := lv_entry ([.ref q]) (n := 1) (Nat.le_of_ble_eq_true rfl)
  rw [lg_entry_eq]
  generalize (lg_sl ([.ref q]) ++ List.replicate (1 - (lg_sl ([.ref q])).length) Slot.unset).toArray = ls at hl ⊢
  have hl : lv_has ls 1 [(0, .ref q)] := hl
  refine lv_aload_n hx hb dJx4a65c_size_8abf5_0 rfl (lv_at hl 0 rfl) ?_
  refine va_get (ci := 0) (v := .int sz) (C := RJx4a65c) (T := TJx4a65c) (N := 3) hx hb hts hin hown hK hP q0 he rfl 2 (by decide) (hts (.fieldLink RJx4a65c 48 "java/util/ArrayList" "size" "I") (by decide +kernel)) (fun _ h9 => h9) rfl dJx4a65c_size_8abf5_1 ?_
  exact W.iret (v := sz) hx hb hr (fun tt ht hW => ⟨sz, rfl, rfl, ht⟩) (fun q hq => by cases hq) dJx4a65c_size_8abf5_4
set_option maxHeartbeats 4000000 in
set_option maxRecDepth 100000 in
theorem c_J_elementData (l : Launch) (D : va_G) (tys : List (ClassId × FieldType)) (w0 : va_W) (q q0 ea q1 t0 cap i : Nat) (cO : ClassId) (f : Nat → Option Nat) (md sz : Int32) (he : w0[q0]? = some (q, .inr (0, [.int md, .ref ea, .int sz]))) (ha : w0[q1]? = some (ea, .inl (cO, cap, .inr (.inr (.inr (.inr f)))))) (ht : tys[t0]? = some (cO, .object "java/lang/Object")) (hi : i < cap) (hc : cap < 2 ^ 31) : mQ l yJx4a65c_elementData_915e3 wsJx4a65c_elementData_915e3 (rmz 0 0) D tys [.ref q, .int (nI i)] w0 (f i) := by
  refine Met.ofW (cc := cJx4a65c_elementData_915e3) (maxL := 2) (ret := (some (.object "java/lang/Object"))) (by decide) rfl ?_
  intro p e s m args below meth c s₁ B hml hv
  obtain ⟨rfl, hP, hK⟩ := hv
  have hx := B.exec
  have hb := B.bytes
  have hr := B.returns
  have hts := atoms_spec (ws := wsJx4a65c_elementData_915e3) B.pre
  have hin : ∀ w ∈ wsJx4a65c0, w ∈ wsJx4a65c_elementData_915e3 := fun w h => List.mem_cons_of_mem _ (List.mem_append_right _ h)
  have hown : s.vm.findClass RJx4a65c = some m.cls := findClass_of_methodNamed B.named
  have hlocks := B.notSynchronized
  have hl := lv_entry ([.ref q, .int (nI i)]) (n := 2) (Nat.le_of_ble_eq_true rfl)
  rw [lg_entry_eq]
  generalize (lg_sl ([.ref q, .int (nI i)]) ++ List.replicate (2 - (lg_sl ([.ref q, .int (nI i)])).length) Slot.unset).toArray = ls at hl ⊢
  have hl : lv_has ls 2 [(0, .ref q), (1, .int (nI i))] := hl
  refine lv_aload_n hx hb dJx4a65c_elementData_915e3_0 rfl (lv_at hl 0 rfl) ?_
  refine va_get (ci := 0) (v := .ref ea) (C := RJx4a65c) (T := TJx4a65c) (N := 3) hx hb hts hin hown hK hP q0 he rfl 1 (by decide) (hts (.fieldLink RJx4a65c 9 "java/util/ArrayList" "elementData" "[Ljava/lang/Object;") (by decide +kernel)) (fun _ h9 => h9) rfl dJx4a65c_elementData_915e3_1 ?_
  refine lv_iload_n hx hb dJx4a65c_elementData_915e3_4 rfl (lv_at hl 1 rfl) ?_
  refine va_aldq hx hb hK hP q1 t0 ha ht (vp_in_nI hi hc) dJx4a65c_elementData_915e3_5 ?_
  rw [nI_clamp (by omega)]
  exact W.aret (v := va_rf (f i)) hx hb hr (Or.inl ⟨_, rfl⟩) (va_rf_cases _) (fun tt ht hW => ⟨f i, rfl, rfl, ht⟩) (fun q hq => by cases hq) dJx4a65c_elementData_915e3_6
set_option maxHeartbeats 4000000 in
set_option maxRecDepth 100000 in
theorem c_J_get (l : Launch) (D : va_G) (tys : List (ClassId × FieldType)) (w0 : va_W) (q q0 ea q1 t0 cap i n : Nat) (cO : ClassId) (f : Nat → Option Nat) (md : Int32) (he : w0[q0]? = some (q, .inr (0, [.int md, .ref ea, .int (nI n)]))) (ha : w0[q1]? = some (ea, .inl (cO, cap, .inr (.inr (.inr (.inr f)))))) (ht : tys[t0]? = some (cO, .object "java/lang/Object")) (hi : i < n) (hn : n ≤ cap) (hc : cap < 2 ^ 31) : mQ l yJx4a65c_get_915e3 wsJx4a65c_get_915e3 (rmz 2 43) D tys [.ref q, .int (nI i)] w0 (f i) := by
  refine Met.ofW (cc := cJx4a65c_get_915e3) (maxL := 2) (ret := (some (.object "java/lang/Object"))) (by decide) rfl ?_
  intro p e s m args below meth c s₁ B hml hv
  obtain ⟨rfl, hP, hK⟩ := hv
  have hx := B.exec
  have hb := B.bytes
  have hr := B.returns
  have hts := atoms_spec (ws := wsJx4a65c_get_915e3) B.pre
  have hin : ∀ w ∈ wsJx4a65c0, w ∈ wsJx4a65c_get_915e3 := fun w h => List.mem_cons_of_mem _ (List.mem_append_right _ h)
  have hown : s.vm.findClass RJx4a65c = some m.cls := findClass_of_methodNamed B.named
  have hlocks := B.notSynchronized
  have hl := lv_entry ([.ref q, .int (nI i)]) (n := 2) (Nat.le_of_ble_eq_true rfl)
  rw [lg_entry_eq]
  generalize (lg_sl ([.ref q, .int (nI i)]) ++ List.replicate (2 - (lg_sl ([.ref q, .int (nI i)])).length) Slot.unset).toArray = ls at hl ⊢
  have hl : lv_has ls 2 [(0, .ref q), (1, .int (nI i))] := hl
  refine lv_iload_n hx hb dJx4a65c_get_915e3_0 rfl (lv_at hl 1 rfl) ?_
  refine lv_aload_n hx hb dJx4a65c_get_915e3_1 rfl (lv_at hl 0 rfl) ?_
  refine va_get (ci := 0) (v := .int (nI n)) (C := RJx4a65c) (T := TJx4a65c) (N := 3) hx hb hts hin hown hK hP q0 he rfl 2 (by decide) (hts (.fieldLink RJx4a65c 48 "java/util/ArrayList" "size" "I") (by decide +kernel)) (fun _ h9 => h9) rfl dJx4a65c_get_915e3_2 ?_
  refine m_callRS (As := [.int (nI i), .int (nI n)]) (rest := []) ⟨hx, hb, hml, hown, hts⟩ (c_J15_checkIndex l D tys w0 i n hi (by omega)) (va_cwS 2 hts gJx4a65c_get_915e3_J15_checkIndex_7cf53 rfl rfl rfl (by decide +kernel) ⟨Nat.le_of_ble_eq_true rfl, Nat.le_of_ble_eq_true rfl⟩) hK hP rfl hl.1 rfl (Nat.le_of_ble_eq_true rfl) dJx4a65c_get_915e3_5 ⟨Nat.zero_le _, Nat.zero_le _⟩ ?_
  refine lv_pop hx hb dJx4a65c_get_915e3_8 rfl ?_
  refine lv_aload_n hx hb dJx4a65c_get_915e3_9 rfl (lv_at hl 0 rfl) ?_
  refine lv_iload_n hx hb dJx4a65c_get_915e3_10 rfl (lv_at hl 1 rfl) ?_
  refine m_callQ (As := [.int (nI i)]) (rest := []) ⟨hx, hb, hml, hown, hts⟩ (c_J_elementData l D tys w0 q q0 ea q1 t0 cap i cO f md (nI n) he ha ht (by omega) hc) (cwV 1 hts gJx4a65c_get_915e3_Jx4a65c_elementData_915e3 rfl rfl rfl (by decide +kernel) ⟨Nat.le_of_ble_eq_true rfl, Nat.le_of_ble_eq_true rfl⟩) hK hP (va_recv hK hP (ci := 0) (q0 := q0) rfl he) rfl hl.1 rfl (Nat.le_of_ble_eq_true rfl) dJx4a65c_get_915e3_11 ⟨Nat.zero_le _, Nat.zero_le _⟩ ?_
  exact W.aret (v := va_rf (f i)) hx hb hr (Or.inl ⟨_, rfl⟩) (va_rf_cases _) (fun tt ht hW => ⟨f i, rfl, rfl, ht⟩) (fun q hq => by cases hq) dJx4a65c_get_915e3_14
end
section
/-! the class's world: h: object, two lists, their arrays; ad: the devices; md: the lists' counts of changes; n devices, o: the order; the state: numbers by the place of the field, the devices' fields, the due one -/
abbrev cSt : Type := (Nat → Int32) × (Nat → Nat → Int32) × Option Nat
def cF (h ad : Nat → Nat) (S : cSt) : List Value := [.ref (h 1), .ref (h 2), .int (S.1 2), va_rf (S.2.2.map ad), .int (S.1 4), .int (S.1 5), .int (S.1 6), .int (S.1 7), .int (S.1 8), .int (S.1 9), .int (S.1 10), .int (S.1 11), .int (S.1 12), .int (S.1 13)]
def cD (F : Nat → Nat → Int32) (i : Nat) : List Value := [.int (F 0 i), .int (F 1 i), .int (F 2 i), .int (F 3 i), .int (F 4 i), .int (F 5 i), .int (F 6 i), .int (F 7 i), .int (F 8 i), .int (F 9 i), .int (F 10 i), .int (F 11 i), .int (F 12 i)]
def cap (n : Nat) : Nat := if n ≤ 10 then 10 else 15
def cX (h ad : Nat → Nat) (md : Nat → Int32) (n : Nat) (S : cSt) : va_W := [(h 0, .inr (2, cF h ad S)), (h 1, .inr (0, [.int (md 1), .ref (h 3), .int (nI n)])), (h 2, .inr (0, [.int (md 2), .ref (h 4), .int (nI n)]))]
def cDv (ad : Nat → Nat) (n : Nat) (F : Nat → Nat → Int32) : va_W := (List.range n).map (fun i => (ad i, .inr (1, cD F i)))
def cR1 (ad : Nat → Nat) (n : Nat) : Nat → Option Nat := fun i => if i < n then some (ad i) else none
def cR2 (ad : Nat → Nat) (n : Nat) (o : Nat → Nat) : Nat → Option Nat := fun i => if i < n then some (ad (o i)) else none
def cAr (cO : ClassId) (h ad : Nat → Nat) (n : Nat) (o : Nat → Nat) : va_W := if n = 0 then [] else [(h 3, .inl (cO, cap n, .inr (.inr (.inr (.inr (cR1 ad n)))))), (h 4, .inl (cO, cap n, .inr (.inr (.inr (.inr (cR2 ad n o))))))]
def cW (cO : ClassId) (h ad : Nat → Nat) (md : Nat → Int32) (n : Nat) (o : Nat → Nat) (S : cSt) : va_W := cX h ad md n S ++ (cDv ad n S.2.1 ++ cAr cO h ad n o)
def cL (h ad : Nat → Nat) (n : Nat) : List Nat := [h 0, h 1, h 2] ++ ((List.range n).map ad ++ (if n = 0 then [] else [h 3, h 4]))
abbrev cT (cO : ClassId) : List (ClassId × FieldType) := [(cO, .object "java/lang/Object")]
section CW
variable {cO : ClassId} {h ad : Nat → Nat} {md : Nat → Int32} {n : Nat} {o : Nat → Nat} {S : cSt}
theorem cW_L : (cW cO h ad md n o S).map (fun q => q.1) = cL h ad n := by
  unfold cW cL cX cDv cAr
  by_cases h0 : n = 0
  · simp [h0]
  · simp [h0]
theorem cDv_len {F : Nat → Nat → Int32} : (cDv ad n F).length = n := by simp [cDv]
theorem cW_dv {i : Nat} (hi : i < n) : (cW cO h ad md n o S)[3 + i]? = some (ad i, .inr (1, cD S.2.1 i)) := by
  unfold cW
  rw [List.getElem?_append_right (by show 3 ≤ 3 + i; omega)]
  show (cDv ad n S.2.1 ++ cAr cO h ad n o)[3 + i - 3]? = _
  rw [Nat.add_sub_cancel_left, List.getElem?_append_left (by rw [cDv_len]; exact hi)]
  simp [cDv, hi]
theorem cW_a1 (h0 : 0 < n) : (cW cO h ad md n o S)[3 + n]? = some (h 3, .inl (cO, cap n, .inr (.inr (.inr (.inr (cR1 ad n)))))) := by
  unfold cW
  rw [List.getElem?_append_right (by show 3 ≤ 3 + n; omega)]
  show (cDv ad n S.2.1 ++ cAr cO h ad n o)[3 + n - 3]? = _
  rw [Nat.add_sub_cancel_left, List.getElem?_append_right (by rw [cDv_len]; exact Nat.le_refl n), cDv_len, Nat.sub_self]
  unfold cAr
  rw [if_neg (by omega)]
  rfl
theorem cW_a2 (h0 : 0 < n) : (cW cO h ad md n o S)[3 + n + 1]? = some (h 4, .inl (cO, cap n, .inr (.inr (.inr (.inr (cR2 ad n o)))))) := by
  unfold cW
  rw [List.getElem?_append_right (by show 3 ≤ 3 + n + 1; omega)]
  show (cDv ad n S.2.1 ++ cAr cO h ad n o)[3 + n + 1 - 3]? = _
  rw [show 3 + n + 1 - 3 = n + 1 by omega, List.getElem?_append_right (by rw [cDv_len]; omega), cDv_len, Nat.add_sub_cancel_left]
  unfold cAr
  rw [if_neg (by omega)]
  rfl
theorem cF_put {x : Int32} (k : Nat) (hk : k = 2 ∨ (4 ≤ k ∧ k < 14)) : (cF h ad S).set k (.int x) = cF h ad (upd S.1 k x, S.2) := by
  have hh : k = 2 ∨ k = 4 ∨ k = 5 ∨ k = 6 ∨ k = 7 ∨ k = 8 ∨ k = 9 ∨ k = 10 ∨ k = 11 ∨ k = 12 ∨ k = 13 := by omega
  rcases hh with rfl | rfl | rfl | rfl | rfl | rfl | rfl | rfl | rfl | rfl | rfl <;> rfl
theorem cW_put {x : Int32} (k : Nat) (hk : k = 2 ∨ (4 ≤ k ∧ k < 14)) : (cW cO h ad md n o S).set 0 (h 0, .inr (2, (cF h ad S).set k (.int x))) = cW cO h ad md n o (upd S.1 k x, S.2) := by
  rw [cF_put k hk]; rfl
theorem cW_due {u : Option Nat} : (cW cO h ad md n o S).set 0 (h 0, .inr (2, (cF h ad S).set 3 (va_rf (u.map ad)))) = cW cO h ad md n o (S.1, S.2.1, u) := rfl
theorem up2_ne {F : Nat → Nat → Int32} {k i j q : Nat} {x : Int32} (hj : j ≠ i) : up2 F k i x q j = F q j := by
  unfold up2 va_up upd
  by_cases hq : q = k
  · subst hq; simp [hj]
  · simp [hq]
theorem cD_ne {F : Nat → Nat → Int32} {k i j : Nat} {x : Int32} (hj : j ≠ i) : cD (up2 F k i x) j = cD F j := by
  unfold cD; simp only [up2_ne hj]
theorem cD_eq {F : Nat → Nat → Int32} {k i : Nat} {x : Int32} (hk : k < 13) : cD (up2 F k i x) i = (cD F i).set k (.int x) := by
  have hh : k = 0 ∨ k = 1 ∨ k = 2 ∨ k = 3 ∨ k = 4 ∨ k = 5 ∨ k = 6 ∨ k = 7 ∨ k = 8 ∨ k = 9 ∨ k = 10 ∨ k = 11 ∨ k = 12 := by omega
  rcases hh with rfl | rfl | rfl | rfl | rfl | rfl | rfl | rfl | rfl | rfl | rfl | rfl | rfl <;> simp [cD, up2, va_up, upd]
theorem cDv_set {F : Nat → Nat → Int32} {k i : Nat} {x : Int32} (hi : i < n) (hk : k < 13) : (cDv ad n F).set i (ad i, .inr (1, (cD F i).set k (.int x))) = cDv ad n (up2 F k i x) := by
  apply List.ext_getElem?
  intro j
  by_cases hj : j = i
  · subst hj
    rw [List.getElem?_set_self (by rw [cDv_len]; exact hi)]
    simp only [cDv, List.getElem?_map, List.getElem?_range hi, Option.map_some, cD_eq hk]
  · rw [List.getElem?_set_ne (fun z => hj z.symm)]
    simp only [cDv, List.getElem?_map]
    rcases Nat.lt_or_ge j n with h2 | h2
    · simp only [List.getElem?_range h2, Option.map_some, cD_ne hj]
    · rw [List.getElem?_eq_none (by simpa using h2)]; rfl
theorem cW_dput {k i : Nat} {x : Int32} (hi : i < n) (hk : k < 13) : (cW cO h ad md n o S).set (3 + i) (ad i, .inr (1, (cD S.2.1 i).set k (.int x))) = cW cO h ad md n o (S.1, up2 S.2.1 k i x, S.2.2) := by
  unfold cW
  rw [List.set_append_right _ _ (by show 3 ≤ 3 + i; omega)]
  show cX h ad md n S ++ (cDv ad n S.2.1 ++ cAr cO h ad n o).set (3 + i - 3) _ = _
  rw [Nat.add_sub_cancel_left, List.set_append_left _ _ (by rw [cDv_len]; exact hi), cDv_set hi hk]
  rfl
theorem cap_ge (hn : n ≤ 12) : n ≤ cap n := by unfold cap; split <;> omega
theorem cap_lt : cap n < 2 ^ 31 := by unfold cap; split <;> omega
end CW
theorem c_J_get1 (l : Launch) (D : va_G) (cO : ClassId) (h ad : Nat → Nat) (md : Nat → Int32) (n : Nat) (o : Nat → Nat) (S : cSt) (i : Nat) (hn : n ≤ 12) (hi : i < n) : mQ l yJx4a65c_get_915e3 wsJx4a65c_get_915e3 (rmz 2 43) D (cT cO) [.ref (h 1), .int (nI i)] (cW cO h ad md n o S) (some (ad i)) := by
  have e := c_J_get l D (cT cO) (cW cO h ad md n o S) (h 1) 1 (h 3) (3 + n) 0 (cap n) i n cO (cR1 ad n) (md 1) rfl (cW_a1 (by omega)) rfl hi (cap_ge hn) cap_lt
  have e2 : cR1 ad n i = some (ad i) := if_pos hi
  rw [e2] at e
  exact e
theorem c_J_get2 (l : Launch) (D : va_G) (cO : ClassId) (h ad : Nat → Nat) (md : Nat → Int32) (n : Nat) (o : Nat → Nat) (S : cSt) (i : Nat) (hn : n ≤ 12) (hi : i < n) : mQ l yJx4a65c_get_915e3 wsJx4a65c_get_915e3 (rmz 2 43) D (cT cO) [.ref (h 2), .int (nI i)] (cW cO h ad md n o S) (some (ad (o i))) := by
  have e := c_J_get l D (cT cO) (cW cO h ad md n o S) (h 2) 2 (h 4) (3 + n + 1) 0 (cap n) i n cO (cR2 ad n o) (md 2) rfl (cW_a2 (by omega)) rfl hi (cap_ge hn) cap_lt
  have e2 : cR2 ad n o i = some (ad (o i)) := if_pos hi
  rw [e2] at e
  exact e
section CK
variable {p : Program} {l : Launch} {e : Env} {R : Room} {s : State} {m : MethodId} {args : Array Value} {below : List Frame} {meth : Method} {c : Code} {H : Heap} {locs : List Loc} {cells slots : Nat} {Q : State → Prop}
variable {cc bytes : ByteArray} {pc index nL nA maxL : Nat} {ls : Array Slot} {rest st0 As : List Value} {y : MethodName} {ws Ts : List Cond} {rm : Room} {ret : Option FieldType} {own C : String} {b qa : Nat} {D : va_G} {tys : List (ClassId × FieldType)} {w0 : va_W}
variable {cO : ClassId} {h ad : Nat → Nat} {md : Nat → Int32} {n : Nat} {o : Nat → Nat} {S : cSt}
/-- an answer that is a reference for certain -/
theorem m_callQr (S : CallFix p m c cc nL s args Ts own) (hM : mQ l y ws rm D tys (.ref b :: As) w0 (some qa)) (cw : CallW R s args own C index y bytes maxL ret ws rm 0 0 nA) (hK : va_K D vwCl tys s) (hP : va_P D vwCl w0 H)
    (hrec : ∃ cellB : Cell, H[b]? = some cellB ∧ cellB.vm.isStatics = false ∧ s.vm.findClass C = some cellB.cls) (hn : As.length = nA) (hsize : ls.size = nL) (hstack : st0 = As.reverse ++ .ref b :: rest) (hW : (rest.map fun v => v.category).sum ≤ 8) (hdg : decode cc pc = .ok (.invokevirtual index, 3)) (hf : cells + 0 ≤ R.cells ∧ slots + 0 ≤ R.slots)
    (kk : W p l e R s m args below meth c H locs cells slots Q (F0 m (pc + 3) ls (.ref qa :: rest))) : W p l e R s m args below meth c H locs cells slots Q (F0 m pc ls st0) :=
  m_callQ S hM cw hK hP hrec hn hsize hstack hW hdg hf kk
theorem c_get (hx : p.tables.exec = Jvm.exec) (hb : c.code = cc) (hts : ∀ w ∈ Ts, w.before args s = true) (hin : ∀ w ∈ wsX10, w ∈ Ts) (hown : s.vm.findClass RX1 = some m.cls) (hK : va_K D vwCl (cT cO) s) (hP : va_P D vwCl (cW cO h ad md n o S) H) (k : Nat) (hk : k < 14) (hlink : Cond.fieldLink RX1 index "DozingDevices" (TX1 k).2.1 (TX1 k).2.2.1 ∈ Ts) (hT : (TX1 k).1 = "DozingDevices") {v : Value} (hv : (cF h ad S)[k]? = some v) (hdg : decode cc pc = .ok (.getfield index, 3))
    (kk : W p l e R s m args below meth c H locs cells slots Q (F0 m (pc + 3) ls (v :: rest))) : W p l e R s m args below meth c H locs cells slots Q (F0 m pc ls (.ref (h 0) :: rest)) :=
  va_get (ci := 2) (C := RX1) (T := TX1) (N := 14) hx hb hts hin hown hK hP 0 rfl rfl k hk (hts _ hlink) (fun _ h => by rw [hT] at h; exact h) hv hdg kk
theorem c_put (hn : (cL h ad n).Nodup) (hx : p.tables.exec = Jvm.exec) (hb : c.code = cc) (hts : ∀ w ∈ Ts, w.before args s = true) (hin : ∀ w ∈ wsX10, w ∈ Ts) (hown : s.vm.findClass RX1 = some m.cls) (hK : va_K D vwCl (cT cO) s) (hP : va_P D vwCl (cW cO h ad md n o S) H) (hS : va_S (wA (cL h ad n) s.heap.size) s.heap H locs) (k : Nat) (hk : k = 2 ∨ (4 ≤ k ∧ k < 14)) (hlink : Cond.fieldLink RX1 index "DozingDevices" (TX1 k).2.1 (TX1 k).2.2.1 ∈ Ts) (hT : (TX1 k).1 = "DozingDevices" ∧ (TX1 k).2.2.2 = false ∧ tyX1 k = .int) {x : Int32} (hdg : decode cc pc = .ok (.putfield index, 3))
    (kk : ∀ (H1 : Heap) (locs1 : List Loc), va_P D vwCl (cW cO h ad md n o (upd S.1 k x, S.2)) H1 → va_S (wA (cL h ad n) s.heap.size) s.heap H1 locs1 → W p l e R s m args below meth c H1 locs1 cells slots Q (F0 m (pc + 3) ls rest)) : W p l e R s m args below meth c H locs cells slots Q (F0 m pc ls (.int x :: .ref (h 0) :: rest)) := by
  have hk14 : k < 14 := by omega
  refine va_put (ci := 2) (C := RX1) (T := TX1) (N := 14) (ty := .int) hx hb hts hin tyX1 tyX1_ok nmX1 hown hK hP (wD cW_L hn (fun _ h => Or.inl h)) hS 0 rfl rfl k hk14 (hts _ hlink) (fun _ h => by rw [hT.1] at h; exact h) hT.2.1 (by rw [tyX1_ok k hk14, hT.2.2]) rfl rfl (by show k < 14; exact hk14) hdg (fun H1 locs1 hP1 _ hS1 => ?_)
  rw [cW_put k hk] at hP1
  exact kk H1 locs1 hP1 hS1
theorem c_putd (u : Option Nat) (hn : (cL h ad n).Nodup) (hx : p.tables.exec = Jvm.exec) (hb : c.code = cc) (hts : ∀ w ∈ Ts, w.before args s = true) (hin : ∀ w ∈ wsX10, w ∈ Ts) (hown : s.vm.findClass RX1 = some m.cls) (hK : va_K D vwCl (cT cO) s) (hP : va_P D vwCl (cW cO h ad md n o S) H) (hS : va_S (wA (cL h ad n) s.heap.size) s.heap H locs) (hlink : Cond.fieldLink RX1 index "DozingDevices" "dueDevice" "LDozingDevices$Device;" ∈ Ts) (hdg : decode cc pc = .ok (.putfield index, 3))
    (kk : ∀ (H1 : Heap) (locs1 : List Loc), va_P D vwCl (cW cO h ad md n o (S.1, S.2.1, u)) H1 → va_S (wA (cL h ad n) s.heap.size) s.heap H1 locs1 → W p l e R s m args below meth c H1 locs1 cells slots Q (F0 m (pc + 3) ls rest)) : W p l e R s m args below meth c H locs cells slots Q (F0 m pc ls (va_rf (u.map ad) :: .ref (h 0) :: rest)) := by
  refine va_put (ci := 2) (C := RX1) (T := TX1) (N := 14) (ty := .object "DozingDevices$Device") hx hb hts hin tyX1 tyX1_ok nmX1 hown hK hP (wD cW_L hn (fun _ h => Or.inl h)) hS 0 rfl rfl 3 (by decide) (hts _ hlink) (fun _ h => h) rfl (by decide +kernel) (by cases u <;> rfl) (by cases u <;> rfl) (by show 3 < 14; decide) hdg (fun H1 locs1 hP1 _ hS1 => ?_)
  rw [cW_due] at hP1
  exact kk H1 locs1 hP1 hS1
theorem c_dget (hx : p.tables.exec = Jvm.exec) (hb : c.code = cc) (hts : ∀ w ∈ Ts, w.before args s = true) (hin : ∀ w ∈ wsX00, w ∈ Ts) (hown : s.vm.findClass RX1 = some m.cls) (hK : va_K D vwCl (cT cO) s) (hP : va_P D vwCl (cW cO h ad md n o S) H) {i : Nat} (hi : i < n) (k : Nat) (hk : k < 13) (hlink : Cond.fieldLink RX1 index "DozingDevices$Device" (TX0 k).2.1 (TX0 k).2.2.1 ∈ Ts) (hT : (TX0 k).1 = "DozingDevices$Device") {v : Value} (hv : (cD S.2.1 i)[k]? = some v) (hdg : decode cc pc = .ok (.getfield index, 3))
    (kk : W p l e R s m args below meth c H locs cells slots Q (F0 m (pc + 3) ls (v :: rest))) : W p l e R s m args below meth c H locs cells slots Q (F0 m pc ls (.ref (ad i) :: rest)) :=
  va_get (ci := 1) (C := RX0) (T := TX0) (N := 13) hx hb hts hin hown hK hP (3 + i) (cW_dv hi) rfl k hk (hts _ hlink) (fun _ h => by rw [hT] at h; exact h) hv hdg kk
theorem c_dput (hn : (cL h ad n).Nodup) (hx : p.tables.exec = Jvm.exec) (hb : c.code = cc) (hts : ∀ w ∈ Ts, w.before args s = true) (hin : ∀ w ∈ wsX00, w ∈ Ts) (hown : s.vm.findClass RX1 = some m.cls) (hK : va_K D vwCl (cT cO) s) (hP : va_P D vwCl (cW cO h ad md n o S) H) (hS : va_S (wA (cL h ad n) s.heap.size) s.heap H locs) {i : Nat} (hi : i < n) (k : Nat) (hk : k < 13) (hlink : Cond.fieldLink RX1 index "DozingDevices$Device" (TX0 k).2.1 (TX0 k).2.2.1 ∈ Ts) (hT : (TX0 k).1 = "DozingDevices$Device" ∧ (TX0 k).2.2.2 = false) {x : Int32} (hnr : narrow (tyX0 k) (.int x) = .int x) (hft : fits (tyX0 k) (.int x) = true) (hdg : decode cc pc = .ok (.putfield index, 3))
    (kk : ∀ (H1 : Heap) (locs1 : List Loc), va_P D vwCl (cW cO h ad md n o (S.1, up2 S.2.1 k i x, S.2.2)) H1 → va_S (wA (cL h ad n) s.heap.size) s.heap H1 locs1 → W p l e R s m args below meth c H1 locs1 cells slots Q (F0 m (pc + 3) ls rest)) : W p l e R s m args below meth c H locs cells slots Q (F0 m pc ls (.int x :: .ref (ad i) :: rest)) := by
  refine va_put (ci := 1) (C := RX0) (T := TX0) (N := 13) (ty := tyX0 k) hx hb hts hin tyX0 tyX0_ok nmX0 hown hK hP (wD cW_L hn (fun _ h => Or.inl h)) hS (3 + i) (cW_dv hi) rfl k hk (hts _ hlink) (fun _ h => by rw [hT.1] at h; exact h) hT.2 (tyX0_ok k hk) hnr hft (by show k < 13; exact hk) hdg (fun H1 locs1 hP1 _ hS1 => ?_)
  rw [cW_dput hi hk] at hP1
  exact kk H1 locs1 hP1 hS1
theorem c_cast (hx : p.tables.exec = Jvm.exec) (hb : c.code = cc) (hts : ∀ w ∈ Ts, w.before args s = true) (hown : s.vm.findClass RX1 = some m.cls) (hK : va_K D vwCl (cT cO) s) (hP : va_P D vwCl (cW cO h ad md n o S) H) {i : Nat} (hi : i < n) (hlink : Cond.classLink RX1 index "DozingDevices$Device" ∈ Ts) (hdg : decode cc pc = .ok (.checkcast index, 3))
    (kk : W p l e R s m args below meth c H locs cells slots Q (F0 m (pc + 3) ls (.ref (ad i) :: rest))) : W p l e R s m args below meth c H locs cells slots Q (F0 m pc ls (.ref (ad i) :: rest)) :=
  va_castS (nm := "DozingDevices$Device") (cC := D.1 1) hx hb hown (hts _ hlink) (hK.1 1 (RX0, TX0, 13) rfl).2 (va_recv (ci := 1) (q0 := 3 + i) hK hP rfl (cW_dv hi)) hdg kk
end CK
/-- what the machine needs of a state: the order stays among the devices, each bears its number, the due one is one of them -/
def cOk (n : Nat) (o : Nat → Nat) (S : cSt) : Prop := n ≤ 12 ∧ (∀ i, i < n → o i < n) ∧ (∀ i, i < n → S.2.1 0 i = nI i) ∧ ∀ i, S.2.2 = some i → i < n
theorem cOk_due {n : Nat} {o : Nat → Nat} {V : Nat → Int32} {F : Nat → Nat → Int32} {u : Option Nat} (V1 : Nat → Int32) {j : Nat} (h : cOk n o (V, F, u)) (hj : j < n) : cOk n o (V1, F, some j) := ⟨h.1, h.2.1, h.2.2.1, fun i q => by cases q; exact hj⟩
theorem cOk_none {n : Nat} {o : Nat → Nat} {V : Nat → Int32} {F : Nat → Nat → Int32} {u : Option Nat} (V1 : Nat → Int32) (h : cOk n o (V, F, u)) : cOk n o (V1, F, none) := ⟨h.1, h.2.1, h.2.2.1, fun i q => by cases q⟩
end
