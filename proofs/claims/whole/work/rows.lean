section
-- ===== PART A: goes FIRST, ahead of the names: the tables' words, and 'selects' of the private methods out of them =====
/-- a private method of a class that the tables say can be made, by its rows of tables_1 -/
def lw_okq (q : MethodName × Nat) : Prop := (q.1.cls ≠ "java/lang/invoke/MethodHandle" ∧ q.1.cls ≠ "java/lang/invoke/VarHandle") ∧ Cond.instantiable q.1.cls q.2 ∈ tables_1 ∧ Cond.privateMethod q.1 ∈ tables_1 ∧ Cond.instanceMethod q.1 ∈ tables_1
theorem lw_p0 : lw_okq (⟨"BundledLinks$Net", "clear", "()V"⟩, 7) := ⟨⟨by decide +kernel, by decide +kernel⟩, List.mem_of_getElem? (i := 40) (by decide +kernel), List.mem_of_getElem? (i := 270) (by decide +kernel), List.mem_of_getElem? (i := 271) (by decide +kernel)⟩
theorem lw_p1 : lw_okq (⟨"BundledLinks$Net", "layItem", "(LBundledLinks$Text;I)V"⟩, 7) := ⟨⟨by decide +kernel, by decide +kernel⟩, List.mem_of_getElem? (i := 40) (by decide +kernel), List.mem_of_getElem? (i := 290) (by decide +kernel), List.mem_of_getElem? (i := 291) (by decide +kernel)⟩
theorem lw_p2 : lw_okq (⟨"BundledLinks$Net", "addLink", "(LBundledLinks$Text;I)V"⟩, 7) := ⟨⟨by decide +kernel, by decide +kernel⟩, List.mem_of_getElem? (i := 40) (by decide +kernel), List.mem_of_getElem? (i := 298) (by decide +kernel), List.mem_of_getElem? (i := 299) (by decide +kernel)⟩
theorem lw_p3 : lw_okq (⟨"BundledLinks$Text", "numbersOfItem", "(I)I"⟩, 2) := ⟨⟨by decide +kernel, by decide +kernel⟩, List.mem_of_getElem? (i := 24) (by decide +kernel), List.mem_of_getElem? (i := 319) (by decide +kernel), List.mem_of_getElem? (i := 320) (by decide +kernel)⟩
theorem lw_p4 : lw_okq (⟨"BundledLinks$Text", "isItem", "(I)Z"⟩, 2) := ⟨⟨by decide +kernel, by decide +kernel⟩, List.mem_of_getElem? (i := 24) (by decide +kernel), List.mem_of_getElem? (i := 363) (by decide +kernel), List.mem_of_getElem? (i := 364) (by decide +kernel)⟩
theorem lw_p5 : lw_okq (⟨"BundledLinks$Net", "stepOf", "(LBundledLinks$End;)V"⟩, 7) := ⟨⟨by decide +kernel, by decide +kernel⟩, List.mem_of_getElem? (i := 40) (by decide +kernel), List.mem_of_getElem? (i := 481) (by decide +kernel), List.mem_of_getElem? (i := 482) (by decide +kernel)⟩
theorem lw_p6 : lw_okq (⟨"BundledLinks$End", "decides", "()Z"⟩, 4) := ⟨⟨by decide +kernel, by decide +kernel⟩, List.mem_of_getElem? (i := 46) (by decide +kernel), List.mem_of_getElem? (i := 489) (by decide +kernel), List.mem_of_getElem? (i := 490) (by decide +kernel)⟩
theorem lw_p7 : lw_okq (⟨"BundledLinks$End", "bestOpen", "(ZLBundledLinks$Port;)LBundledLinks$Port;"⟩, 4) := ⟨⟨by decide +kernel, by decide +kernel⟩, List.mem_of_getElem? (i := 46) (by decide +kernel), List.mem_of_getElem? (i := 493) (by decide +kernel), List.mem_of_getElem? (i := 494) (by decide +kernel)⟩
theorem lw_p8 : lw_okq (⟨"BundledLinks$Port", "howNow", "(I)I"⟩, 11) := ⟨⟨by decide +kernel, by decide +kernel⟩, List.mem_of_getElem? (i := 53) (by decide +kernel), List.mem_of_getElem? (i := 513) (by decide +kernel), List.mem_of_getElem? (i := 514) (by decide +kernel)⟩
theorem lw_p9 : lw_okq (⟨"BundledLinks$Port", "known", "(I)I"⟩, 11) := ⟨⟨by decide +kernel, by decide +kernel⟩, List.mem_of_getElem? (i := 53) (by decide +kernel), List.mem_of_getElem? (i := 566) (by decide +kernel), List.mem_of_getElem? (i := 567) (by decide +kernel)⟩
theorem lw_p10 : lw_okq (⟨"BundledLinks", "placeOfFrames", "(II)I"⟩, 6) := ⟨⟨by decide +kernel, by decide +kernel⟩, List.mem_of_getElem? (i := 16) (by decide +kernel), List.mem_of_getElem? (i := 592) (by decide +kernel), List.mem_of_getElem? (i := 593) (by decide +kernel)⟩
theorem lw_p11 : lw_okq (⟨"BundledLinksModel", "clearsPlan", "()V"⟩, 18) := ⟨⟨by decide +kernel, by decide +kernel⟩, List.mem_of_getElem? (i := 617) (by decide +kernel), List.mem_of_getElem? (i := 623) (by decide +kernel), List.mem_of_getElem? (i := 624) (by decide +kernel)⟩
theorem lw_p12 : lw_okq (⟨"BundledLinksModel", "adds", "(IIII)V"⟩, 18) := ⟨⟨by decide +kernel, by decide +kernel⟩, List.mem_of_getElem? (i := 617) (by decide +kernel), List.mem_of_getElem? (i := 627) (by decide +kernel), List.mem_of_getElem? (i := 628) (by decide +kernel)⟩
theorem lw_p13 : lw_okq (⟨"BundledLinksModel", "lays", "()V"⟩, 18) := ⟨⟨by decide +kernel, by decide +kernel⟩, List.mem_of_getElem? (i := 617) (by decide +kernel), List.mem_of_getElem? (i := 631) (by decide +kernel), List.mem_of_getElem? (i := 632) (by decide +kernel)⟩
theorem lw_p14 : lw_okq (⟨"BundledLinksModel", "faultAt", "()I"⟩, 18) := ⟨⟨by decide +kernel, by decide +kernel⟩, List.mem_of_getElem? (i := 617) (by decide +kernel), List.mem_of_getElem? (i := 709) (by decide +kernel), List.mem_of_getElem? (i := 710) (by decide +kernel)⟩
theorem lw_p15 : lw_okq (⟨"BundledLinksModel", "isItem", "()Z"⟩, 18) := ⟨⟨by decide +kernel, by decide +kernel⟩, List.mem_of_getElem? (i := 617) (by decide +kernel), List.mem_of_getElem? (i := 713) (by decide +kernel), List.mem_of_getElem? (i := 714) (by decide +kernel)⟩
def lw_privs_1 : List (MethodName × Nat) := [(⟨"BundledLinks$Net", "clear", "()V"⟩, 7), (⟨"BundledLinks$Net", "layItem", "(LBundledLinks$Text;I)V"⟩, 7), (⟨"BundledLinks$Net", "addLink", "(LBundledLinks$Text;I)V"⟩, 7), (⟨"BundledLinks$Text", "numbersOfItem", "(I)I"⟩, 2), (⟨"BundledLinks$Text", "isItem", "(I)Z"⟩, 2), (⟨"BundledLinks$Net", "stepOf", "(LBundledLinks$End;)V"⟩, 7), (⟨"BundledLinks$End", "decides", "()Z"⟩, 4), (⟨"BundledLinks$End", "bestOpen", "(ZLBundledLinks$Port;)LBundledLinks$Port;"⟩, 4), (⟨"BundledLinks$Port", "howNow", "(I)I"⟩, 11), (⟨"BundledLinks$Port", "known", "(I)I"⟩, 11), (⟨"BundledLinks", "placeOfFrames", "(II)I"⟩, 6), (⟨"BundledLinksModel", "clearsPlan", "()V"⟩, 18), (⟨"BundledLinksModel", "adds", "(IIII)V"⟩, 18), (⟨"BundledLinksModel", "lays", "()V"⟩, 18), (⟨"BundledLinksModel", "faultAt", "()I"⟩, 18), (⟨"BundledLinksModel", "isItem", "()Z"⟩, 18)]
theorem lw_r1 : ∀ q ∈ lw_privs_1, lw_okq q := List.forall_mem_cons.mpr ⟨lw_p0, List.forall_mem_cons.mpr ⟨lw_p1, List.forall_mem_cons.mpr ⟨lw_p2, List.forall_mem_cons.mpr ⟨lw_p3, List.forall_mem_cons.mpr ⟨lw_p4, List.forall_mem_cons.mpr ⟨lw_p5, List.forall_mem_cons.mpr ⟨lw_p6, List.forall_mem_cons.mpr ⟨lw_p7, List.forall_mem_cons.mpr ⟨lw_p8, List.forall_mem_cons.mpr ⟨lw_p9, List.forall_mem_cons.mpr ⟨lw_p10, List.forall_mem_cons.mpr ⟨lw_p11, List.forall_mem_cons.mpr ⟨lw_p12, List.forall_mem_cons.mpr ⟨lw_p13, List.forall_mem_cons.mpr ⟨lw_p14, List.forall_mem_cons.mpr ⟨lw_p15, fun _ h => absurd h List.not_mem_nil⟩⟩⟩⟩⟩⟩⟩⟩⟩⟩⟩⟩⟩⟩⟩⟩
theorem lw_p16 : lw_okq (⟨"BundledLinksModel", "passes", "(I)Z"⟩, 18) := ⟨⟨by decide +kernel, by decide +kernel⟩, List.mem_of_getElem? (i := 617) (by decide +kernel), List.mem_of_getElem? (i := 717) (by decide +kernel), List.mem_of_getElem? (i := 718) (by decide +kernel)⟩
theorem lw_p17 : lw_okq (⟨"BundledLinksModel", "areFigures", "(I)Z"⟩, 18) := ⟨⟨by decide +kernel, by decide +kernel⟩, List.mem_of_getElem? (i := 617) (by decide +kernel), List.mem_of_getElem? (i := 721) (by decide +kernel), List.mem_of_getElem? (i := 722) (by decide +kernel)⟩
theorem lw_p18 : lw_okq (⟨"BundledLinksModel", "isLink", "(I)Z"⟩, 18) := ⟨⟨by decide +kernel, by decide +kernel⟩, List.mem_of_getElem? (i := 617) (by decide +kernel), List.mem_of_getElem? (i := 733) (by decide +kernel), List.mem_of_getElem? (i := 734) (by decide +kernel)⟩
theorem lw_p19 : lw_okq (⟨"BundledLinksModel", "keeps", "()V"⟩, 18) := ⟨⟨by decide +kernel, by decide +kernel⟩, List.mem_of_getElem? (i := 617) (by decide +kernel), List.mem_of_getElem? (i := 737) (by decide +kernel), List.mem_of_getElem? (i := 738) (by decide +kernel)⟩
theorem lw_p20 : lw_okq (⟨"BundledLinksModel", "upMany", "()I"⟩, 18) := ⟨⟨by decide +kernel, by decide +kernel⟩, List.mem_of_getElem? (i := 617) (by decide +kernel), List.mem_of_getElem? (i := 741) (by decide +kernel), List.mem_of_getElem? (i := 742) (by decide +kernel)⟩
theorem lw_p21 : lw_okq (⟨"BundledLinksModel", "becomes", "(II)I"⟩, 18) := ⟨⟨by decide +kernel, by decide +kernel⟩, List.mem_of_getElem? (i := 617) (by decide +kernel), List.mem_of_getElem? (i := 756) (by decide +kernel), List.mem_of_getElem? (i := 757) (by decide +kernel)⟩
theorem lw_p22 : lw_okq (⟨"BundledLinksModel", "sendingSet", "(I)I"⟩, 18) := ⟨⟨by decide +kernel, by decide +kernel⟩, List.mem_of_getElem? (i := 617) (by decide +kernel), List.mem_of_getElem? (i := 772) (by decide +kernel), List.mem_of_getElem? (i := 773) (by decide +kernel)⟩
theorem lw_p23 : lw_okq (⟨"BundledLinksModel", "isSending", "(II)Z"⟩, 18) := ⟨⟨by decide +kernel, by decide +kernel⟩, List.mem_of_getElem? (i := 617) (by decide +kernel), List.mem_of_getElem? (i := 776) (by decide +kernel), List.mem_of_getElem? (i := 777) (by decide +kernel)⟩
theorem lw_p24 : lw_okq (⟨"BundledLinksModel", "ticks", "()V"⟩, 18) := ⟨⟨by decide +kernel, by decide +kernel⟩, List.mem_of_getElem? (i := 617) (by decide +kernel), List.mem_of_getElem? (i := 784) (by decide +kernel), List.mem_of_getElem? (i := 785) (by decide +kernel)⟩
theorem lw_p25 : lw_okq (⟨"BundledLinksModel", "comes", "(II)V"⟩, 18) := ⟨⟨by decide +kernel, by decide +kernel⟩, List.mem_of_getElem? (i := 617) (by decide +kernel), List.mem_of_getElem? (i := 788) (by decide +kernel), List.mem_of_getElem? (i := 789) (by decide +kernel)⟩
theorem lw_p26 : lw_okq (⟨"BundledLinksModel", "knowsNothing", "(I)V"⟩, 18) := ⟨⟨by decide +kernel, by decide +kernel⟩, List.mem_of_getElem? (i := 617) (by decide +kernel), List.mem_of_getElem? (i := 792) (by decide +kernel), List.mem_of_getElem? (i := 793) (by decide +kernel)⟩
theorem lw_p27 : lw_okq (⟨"BundledLinksModel", "becomesHow", "(I)V"⟩, 18) := ⟨⟨by decide +kernel, by decide +kernel⟩, List.mem_of_getElem? (i := 617) (by decide +kernel), List.mem_of_getElem? (i := 796) (by decide +kernel), List.mem_of_getElem? (i := 797) (by decide +kernel)⟩
theorem lw_p28 : lw_okq (⟨"BundledLinksModel", "chooses", "(I)V"⟩, 18) := ⟨⟨by decide +kernel, by decide +kernel⟩, List.mem_of_getElem? (i := 617) (by decide +kernel), List.mem_of_getElem? (i := 800) (by decide +kernel), List.mem_of_getElem? (i := 801) (by decide +kernel)⟩
theorem lw_p29 : lw_okq (⟨"BundledLinksModel", "doesDecide", "(I)Z"⟩, 18) := ⟨⟨by decide +kernel, by decide +kernel⟩, List.mem_of_getElem? (i := 617) (by decide +kernel), List.mem_of_getElem? (i := 804) (by decide +kernel), List.mem_of_getElem? (i := 805) (by decide +kernel)⟩
theorem lw_p30 : lw_okq (⟨"BundledLinksModel", "isOpen", "(II)Z"⟩, 18) := ⟨⟨by decide +kernel, by decide +kernel⟩, List.mem_of_getElem? (i := 617) (by decide +kernel), List.mem_of_getElem? (i := 808) (by decide +kernel), List.mem_of_getElem? (i := 809) (by decide +kernel)⟩
theorem lw_p31 : lw_okq (⟨"BundledLinksModel", "ahead", "(IIIZ)I"⟩, 18) := ⟨⟨by decide +kernel, by decide +kernel⟩, List.mem_of_getElem? (i := 617) (by decide +kernel), List.mem_of_getElem? (i := 812) (by decide +kernel), List.mem_of_getElem? (i := 813) (by decide +kernel)⟩
def lw_privs_2 : List (MethodName × Nat) := [(⟨"BundledLinksModel", "passes", "(I)Z"⟩, 18), (⟨"BundledLinksModel", "areFigures", "(I)Z"⟩, 18), (⟨"BundledLinksModel", "isLink", "(I)Z"⟩, 18), (⟨"BundledLinksModel", "keeps", "()V"⟩, 18), (⟨"BundledLinksModel", "upMany", "()I"⟩, 18), (⟨"BundledLinksModel", "becomes", "(II)I"⟩, 18), (⟨"BundledLinksModel", "sendingSet", "(I)I"⟩, 18), (⟨"BundledLinksModel", "isSending", "(II)Z"⟩, 18), (⟨"BundledLinksModel", "ticks", "()V"⟩, 18), (⟨"BundledLinksModel", "comes", "(II)V"⟩, 18), (⟨"BundledLinksModel", "knowsNothing", "(I)V"⟩, 18), (⟨"BundledLinksModel", "becomesHow", "(I)V"⟩, 18), (⟨"BundledLinksModel", "chooses", "(I)V"⟩, 18), (⟨"BundledLinksModel", "doesDecide", "(I)Z"⟩, 18), (⟨"BundledLinksModel", "isOpen", "(II)Z"⟩, 18), (⟨"BundledLinksModel", "ahead", "(IIIZ)I"⟩, 18)]
theorem lw_r2 : ∀ q ∈ lw_privs_2, lw_okq q := List.forall_mem_cons.mpr ⟨lw_p16, List.forall_mem_cons.mpr ⟨lw_p17, List.forall_mem_cons.mpr ⟨lw_p18, List.forall_mem_cons.mpr ⟨lw_p19, List.forall_mem_cons.mpr ⟨lw_p20, List.forall_mem_cons.mpr ⟨lw_p21, List.forall_mem_cons.mpr ⟨lw_p22, List.forall_mem_cons.mpr ⟨lw_p23, List.forall_mem_cons.mpr ⟨lw_p24, List.forall_mem_cons.mpr ⟨lw_p25, List.forall_mem_cons.mpr ⟨lw_p26, List.forall_mem_cons.mpr ⟨lw_p27, List.forall_mem_cons.mpr ⟨lw_p28, List.forall_mem_cons.mpr ⟨lw_p29, List.forall_mem_cons.mpr ⟨lw_p30, List.forall_mem_cons.mpr ⟨lw_p31, fun _ h => absurd h List.not_mem_nil⟩⟩⟩⟩⟩⟩⟩⟩⟩⟩⟩⟩⟩⟩⟩⟩
theorem lw_p32 : lw_okq (⟨"BundledLinksModel", "isPair", "(III)Z"⟩, 18) := ⟨⟨by decide +kernel, by decide +kernel⟩, List.mem_of_getElem? (i := 617) (by decide +kernel), List.mem_of_getElem? (i := 816) (by decide +kernel), List.mem_of_getElem? (i := 817) (by decide +kernel)⟩
theorem lw_p33 : lw_okq (⟨"BundledLinksModel", "howOf", "(II)I"⟩, 18) := ⟨⟨by decide +kernel, by decide +kernel⟩, List.mem_of_getElem? (i := 617) (by decide +kernel), List.mem_of_getElem? (i := 820) (by decide +kernel), List.mem_of_getElem? (i := 821) (by decide +kernel)⟩
theorem lw_p34 : lw_okq (⟨"BundledLinksModel", "sends", "(II)V"⟩, 18) := ⟨⟨by decide +kernel, by decide +kernel⟩, List.mem_of_getElem? (i := 617) (by decide +kernel), List.mem_of_getElem? (i := 824) (by decide +kernel), List.mem_of_getElem? (i := 825) (by decide +kernel)⟩
theorem lw_p35 : lw_okq (⟨"BundledLinksModel", "deals", "(II)V"⟩, 18) := ⟨⟨by decide +kernel, by decide +kernel⟩, List.mem_of_getElem? (i := 617) (by decide +kernel), List.mem_of_getElem? (i := 828) (by decide +kernel), List.mem_of_getElem? (i := 829) (by decide +kernel)⟩
theorem lw_p36 : lw_okq (⟨"BundledLinksModel", "wants", "(II)I"⟩, 18) := ⟨⟨by decide +kernel, by decide +kernel⟩, List.mem_of_getElem? (i := 617) (by decide +kernel), List.mem_of_getElem? (i := 832) (by decide +kernel), List.mem_of_getElem? (i := 833) (by decide +kernel)⟩
theorem lw_p37 : lw_okq (⟨"BundledLinksModel", "tellLink", "(II)I"⟩, 18) := ⟨⟨by decide +kernel, by decide +kernel⟩, List.mem_of_getElem? (i := 617) (by decide +kernel), List.mem_of_getElem? (i := 841) (by decide +kernel), List.mem_of_getElem? (i := 842) (by decide +kernel)⟩
theorem lw_p38 : lw_okq (⟨"BundledLinksModel", "fewest", "()I"⟩, 18) := ⟨⟨by decide +kernel, by decide +kernel⟩, List.mem_of_getElem? (i := 617) (by decide +kernel), List.mem_of_getElem? (i := 868) (by decide +kernel), List.mem_of_getElem? (i := 869) (by decide +kernel)⟩
theorem lw_p39 : lw_okq (⟨"BundledLinksModel", "isOther", "()Z"⟩, 18) := ⟨⟨by decide +kernel, by decide +kernel⟩, List.mem_of_getElem? (i := 617) (by decide +kernel), List.mem_of_getElem? (i := 872) (by decide +kernel), List.mem_of_getElem? (i := 873) (by decide +kernel)⟩
def lw_privs_3 : List (MethodName × Nat) := [(⟨"BundledLinksModel", "isPair", "(III)Z"⟩, 18), (⟨"BundledLinksModel", "howOf", "(II)I"⟩, 18), (⟨"BundledLinksModel", "sends", "(II)V"⟩, 18), (⟨"BundledLinksModel", "deals", "(II)V"⟩, 18), (⟨"BundledLinksModel", "wants", "(II)I"⟩, 18), (⟨"BundledLinksModel", "tellLink", "(II)I"⟩, 18), (⟨"BundledLinksModel", "fewest", "()I"⟩, 18), (⟨"BundledLinksModel", "isOther", "()Z"⟩, 18)]
theorem lw_r3 : ∀ q ∈ lw_privs_3, lw_okq q := List.forall_mem_cons.mpr ⟨lw_p32, List.forall_mem_cons.mpr ⟨lw_p33, List.forall_mem_cons.mpr ⟨lw_p34, List.forall_mem_cons.mpr ⟨lw_p35, List.forall_mem_cons.mpr ⟨lw_p36, List.forall_mem_cons.mpr ⟨lw_p37, List.forall_mem_cons.mpr ⟨lw_p38, List.forall_mem_cons.mpr ⟨lw_p39, fun _ h => absurd h List.not_mem_nil⟩⟩⟩⟩⟩⟩⟩⟩
def lw_privs : List (MethodName × Nat) := lw_privs_1 ++ (lw_privs_2 ++ (lw_privs_3))
def lw_tbl : List Cond := k2_sels lw_privs ++ tables_1
theorem lw_privs_ok : ∀ q ∈ lw_privs, lw_okq q := by
  show ∀ q ∈ lw_privs_1 ++ (lw_privs_2 ++ (lw_privs_3)), lw_okq q
  exact List.forall_mem_append.mpr ⟨lw_r1, List.forall_mem_append.mpr ⟨lw_r2, lw_r3⟩⟩
-- ===== end of PART A; then your names; then what follows =====
end
section
/-! ===== BEGIN words of one list among another's, by their places ===== -/
theorem goodIn_r {big : List Cond} (ws : List Cond) (ps : List Nat) (hp : ws = ps.filterMap (fun i => big[i]?)) (h : ws.all goodWord = true) : GoodIn big ws := by
  intro w hw
  have h1 := List.all_eq_true.mp h w hw
  rw [hp] at hw
  obtain ⟨i, -, hi⟩ := List.mem_filterMap.mp hw
  have hm : w ∈ big := by first | exact List.mem_of_getElem? hi | exact List.getElem?_mem hi
  exact ⟨hm, good_of_word h1⟩
theorem goodIn_app {big a b : List Cond} (ha : GoodIn big a) (hb : GoodIn big b) : GoodIn big (a ++ b) := fun w h => (List.mem_append.mp h).elim (ha w) (hb w)
theorem goodIn_ca {big a b : List Cond} {c : Cond} (ha : GoodIn big (c :: a)) (hb : GoodIn big b) : GoodIn big (c :: (a ++ b)) := fun w h => (List.mem_cons.mp h).elim (fun e => ha w (List.mem_cons.mpr (Or.inl e))) (fun h => (List.mem_append.mp h).elim (fun h => ha w (List.mem_cons.mpr (Or.inr h))) (hb w))
theorem goodIn_sub {big ws : List Cond} (hm : ∀ w ∈ ws, w ∈ big) (h : ws.all goodWord = true) : GoodIn big ws := fun w hw => ⟨hm w hw, good_of_word (List.all_eq_true.mp h w hw)⟩
/-! ===== END ===== -/

/-! ===== BEGIN printed: names, fields, word lists, decode rows ===== -/
def RX0 : String := "BundledLinks$End"
def TX0 : u_T := fun k => match k with
  | 0 => ("BundledLinks$End", "number", "I", true)
  | 1 => ("BundledLinks$End", "rank", "I", false)
  | 2 => ("BundledLinks$End", "ports", "[LBundledLinks$Port;", true)
  | _ => ("BundledLinks$End", "flows", "[LBundledLinks$Flow;", true)
def tyX0 : Nat → FieldType := fun k => match k with
  | 0 => .int
  | 1 => .int
  | 2 => .array (.object "BundledLinks$Port")
  | _ => .array (.object "BundledLinks$Flow")
abbrev wsX00 : List Cond := u_ws RX0 TX0 4
theorem nmX0 : ∀ a, a < 4 → ∀ b, b < 4 → a ≠ b → (TX0 a).2.1 ≠ (TX0 b).2.1 := by decide +kernel
theorem tyX0_ok : ∀ k, k < 4 → parseFieldDescriptor (TX0 k).2.2.1 = some (tyX0 k) := by decide +kernel
abbrev cX0_init : ByteArray := prog_2_method_1_code
def yX0_init : MethodName := ⟨RX0, "<init>", "(I)V"⟩
abbrev cX0_clear : ByteArray := prog_2_method_2_code
def yX0_clear : MethodName := ⟨RX0, "clear", "()V"⟩
abbrev cX0_copyFrom : ByteArray := prog_2_method_3_code
def yX0_copyFrom : MethodName := ⟨RX0, "copyFrom", "(LBundledLinks$End;)V"⟩
abbrev cX0_looksLike : ByteArray := prog_2_method_4_code
def yX0_looksLike : MethodName := ⟨RX0, "looksLike", "(LBundledLinks$End;)Z"⟩
abbrev cX0_portAt : ByteArray := prog_2_method_5_code
def yX0_portAt : MethodName := ⟨RX0, "portAt", "(I)LBundledLinks$Port;"⟩
abbrev cX0_flowAt : ByteArray := prog_2_method_6_code
def yX0_flowAt : MethodName := ⟨RX0, "flowAt", "(I)LBundledLinks$Flow;"⟩
abbrev cX0_hearFrom : ByteArray := prog_2_method_7_code
def yX0_hearFrom : MethodName := ⟨RX0, "hearFrom", "(LBundledLinks$End;)V"⟩
abbrev cX0_choose : ByteArray := prog_2_method_8_code
def yX0_choose : MethodName := ⟨RX0, "choose", "(I)V"⟩
abbrev cX0_decides : ByteArray := prog_2_method_9_code
def yX0_decides : MethodName := ⟨RX0, "decides", "()Z"⟩
abbrev cX0_bestOpen : ByteArray := prog_2_method_10_code
def yX0_bestOpen : MethodName := ⟨RX0, "bestOpen", "(ZLBundledLinks$Port;)LBundledLinks$Port;"⟩
abbrev cX0_judgeAndSay : ByteArray := prog_2_method_11_code
def yX0_judgeAndSay : MethodName := ⟨RX0, "judgeAndSay", "(I)V"⟩
abbrev cX0_dealFlows : ByteArray := prog_2_method_12_code
def yX0_dealFlows : MethodName := ⟨RX0, "dealFlows", "(I)V"⟩
abbrev cX0_wantedBy : ByteArray := prog_2_method_13_code
def yX0_wantedBy : MethodName := ⟨RX0, "wantedBy", "(II)I"⟩
abbrev cX0_howManySending : ByteArray := prog_2_method_14_code
def yX0_howManySending : MethodName := ⟨RX0, "howManySending", "()I"⟩
abbrev cX0_howManyUp : ByteArray := prog_2_method_15_code
def yX0_howManyUp : MethodName := ⟨RX0, "howManyUp", "()I"⟩
abbrev cX0_howManyMuted : ByteArray := prog_2_method_16_code
def yX0_howManyMuted : MethodName := ⟨RX0, "howManyMuted", "()I"⟩
abbrev cX0_bits : ByteArray := prog_2_method_17_code
def yX0_bits : MethodName := ⟨RX0, "bits", "(I)I"⟩
def RX1 : String := "BundledLinks$Flow"
def TX1 : u_T := fun k => match k with
  | 0 => ("BundledLinks$Flow", "link", "I", false)
  | _ => ("BundledLinks$Flow", "held", "I", false)
def tyX1 : Nat → FieldType := fun k => match k with
  | 0 => .int
  | _ => .int
abbrev wsX10 : List Cond := u_ws RX1 TX1 2
theorem nmX1 : ∀ a, a < 2 → ∀ b, b < 2 → a ≠ b → (TX1 a).2.1 ≠ (TX1 b).2.1 := by decide +kernel
theorem tyX1_ok : ∀ k, k < 2 → parseFieldDescriptor (TX1 k).2.2.1 = some (tyX1 k) := by decide +kernel
abbrev cX1_init : ByteArray := prog_3_method_1_code
def yX1_init : MethodName := ⟨RX1, "<init>", "()V"⟩
abbrev cX1_clear : ByteArray := prog_3_method_2_code
def yX1_clear : MethodName := ⟨RX1, "clear", "()V"⟩
abbrev cX1_copyFrom : ByteArray := prog_3_method_3_code
def yX1_copyFrom : MethodName := ⟨RX1, "copyFrom", "(LBundledLinks$Flow;)V"⟩
abbrev cX1_deal : ByteArray := prog_3_method_4_code
def yX1_deal : MethodName := ⟨RX1, "deal", "(II)V"⟩
def RX2 : String := "BundledLinks$History"
def TX2 : u_T := fun k => match k with
  | 0 => ("BundledLinks$History", "kept", "[LBundledLinks$Net;", true)
  | 1 => ("BundledLinks$History", "next", "I", false)
  | _ => ("BundledLinks$History", "size", "I", false)
def tyX2 : Nat → FieldType := fun k => match k with
  | 0 => .array (.object "BundledLinks$Net")
  | 1 => .int
  | _ => .int
abbrev wsX20 : List Cond := u_ws RX2 TX2 3
theorem nmX2 : ∀ a, a < 3 → ∀ b, b < 3 → a ≠ b → (TX2 a).2.1 ≠ (TX2 b).2.1 := by decide +kernel
theorem tyX2_ok : ∀ k, k < 3 → parseFieldDescriptor (TX2 k).2.2.1 = some (tyX2 k) := by decide +kernel
abbrev cX2_init : ByteArray := prog_4_method_1_code
def yX2_init : MethodName := ⟨RX2, "<init>", "()V"⟩
abbrev cX2_clear : ByteArray := prog_4_method_2_code
def yX2_clear : MethodName := ⟨RX2, "clear", "()V"⟩
abbrev cX2_keep : ByteArray := prog_4_method_3_code
def yX2_keep : MethodName := ⟨RX2, "keep", "(LBundledLinks$Net;)V"⟩
abbrev cX2_takeLatest : ByteArray := prog_4_method_4_code
def yX2_takeLatest : MethodName := ⟨RX2, "takeLatest", "()LBundledLinks$Net;"⟩
def RX3 : String := "BundledLinks$Message"
def TX3 : u_T := fun k => match k with
  | 0 => ("BundledLinks$Message", "there", "Z", false)
  | 1 => ("BundledLinks$Message", "key", "I", false)
  | 2 => ("BundledLinks$Message", "priority", "I", false)
  | 3 => ("BundledLinks$Message", "rank", "I", false)
  | _ => ("BundledLinks$Message", "sync", "Z", false)
def tyX3 : Nat → FieldType := fun k => match k with
  | 0 => .boolean
  | 1 => .int
  | 2 => .int
  | 3 => .int
  | _ => .boolean
abbrev wsX30 : List Cond := u_ws RX3 TX3 5
theorem nmX3 : ∀ a, a < 5 → ∀ b, b < 5 → a ≠ b → (TX3 a).2.1 ≠ (TX3 b).2.1 := by decide +kernel
theorem tyX3_ok : ∀ k, k < 5 → parseFieldDescriptor (TX3 k).2.2.1 = some (tyX3 k) := by decide +kernel
abbrev cX3_init : ByteArray := prog_5_method_1_code
def yX3_init : MethodName := ⟨RX3, "<init>", "()V"⟩
abbrev cX3_clear : ByteArray := prog_5_method_2_code
def yX3_clear : MethodName := ⟨RX3, "clear", "()V"⟩
abbrev cX3_copyFrom : ByteArray := prog_5_method_3_code
def yX3_copyFrom : MethodName := ⟨RX3, "copyFrom", "(LBundledLinks$Message;)V"⟩
def RX4 : String := "BundledLinks$Net"
def TX4 : u_T := fun k => match k with
  | 0 => ("BundledLinks$Net", "zero", "LBundledLinks$End;", true)
  | 1 => ("BundledLinks$Net", "one", "LBundledLinks$End;", true)
  | 2 => ("BundledLinks$Net", "links", "I", false)
  | 3 => ("BundledLinks$Net", "most", "I", false)
  | 4 => ("BundledLinks$Net", "wait", "I", false)
  | 5 => ("BundledLinks$Net", "drain", "I", false)
  | _ => ("BundledLinks$Net", "ticks", "I", false)
def tyX4 : Nat → FieldType := fun k => match k with
  | 0 => .object "BundledLinks$End"
  | 1 => .object "BundledLinks$End"
  | 2 => .int
  | 3 => .int
  | 4 => .int
  | 5 => .int
  | _ => .int
abbrev wsX40 : List Cond := u_ws RX4 TX4 7
theorem nmX4 : ∀ a, a < 7 → ∀ b, b < 7 → a ≠ b → (TX4 a).2.1 ≠ (TX4 b).2.1 := by decide +kernel
theorem tyX4_ok : ∀ k, k < 7 → parseFieldDescriptor (TX4 k).2.2.1 = some (tyX4 k) := by decide +kernel
abbrev cX4_init : ByteArray := prog_6_method_1_code
def yX4_init : MethodName := ⟨RX4, "<init>", "()V"⟩
abbrev cX4_clear : ByteArray := prog_6_method_2_code
def yX4_clear : MethodName := ⟨RX4, "clear", "()V"⟩
abbrev cX4_copyFrom : ByteArray := prog_6_method_3_code
def yX4_copyFrom : MethodName := ⟨RX4, "copyFrom", "(LBundledLinks$Net;)V"⟩
abbrev cX4_looksLike : ByteArray := prog_6_method_4_code
def yX4_looksLike : MethodName := ⟨RX4, "looksLike", "(LBundledLinks$Net;)Z"⟩
abbrev cX4_endOf : ByteArray := prog_6_method_5_code
def yX4_endOf : MethodName := ⟨RX4, "endOf", "(I)LBundledLinks$End;"⟩
abbrev cX4_portOf : ByteArray := prog_6_method_6_code
def yX4_portOf : MethodName := ⟨RX4, "portOf", "(II)LBundledLinks$Port;"⟩
abbrev cX4_flowOf : ByteArray := prog_6_method_7_code
def yX4_flowOf : MethodName := ⟨RX4, "flowOf", "(II)LBundledLinks$Flow;"⟩
abbrev cX4_plugLink : ByteArray := prog_6_method_8_code
def yX4_plugLink : MethodName := ⟨RX4, "plugLink", "(IZ)V"⟩
abbrev cX4_setting : ByteArray := prog_6_method_9_code
def yX4_setting : MethodName := ⟨RX4, "setting", "(I)I"⟩
abbrev cX4_changeSetting : ByteArray := prog_6_method_10_code
def yX4_changeSetting : MethodName := ⟨RX4, "changeSetting", "(II)V"⟩
abbrev cX4_step : ByteArray := prog_6_method_11_code
def yX4_step : MethodName := ⟨RX4, "step", "()V"⟩
abbrev cX4_stepOf : ByteArray := prog_6_method_12_code
def yX4_stepOf : MethodName := ⟨RX4, "stepOf", "(LBundledLinks$End;)V"⟩
abbrev cX4_layOut : ByteArray := prog_6_method_13_code
def yX4_layOut : MethodName := ⟨RX4, "layOut", "(LBundledLinks$Text;)V"⟩
abbrev cX4_layItem : ByteArray := prog_6_method_14_code
def yX4_layItem : MethodName := ⟨RX4, "layItem", "(LBundledLinks$Text;I)V"⟩
abbrev cX4_addLink : ByteArray := prog_6_method_15_code
def yX4_addLink : MethodName := ⟨RX4, "addLink", "(LBundledLinks$Text;I)V"⟩
def RX5 : String := "BundledLinks$Port"
def TX5 : u_T := fun k => match k with
  | 0 => ("BundledLinks$Port", "up", "Z", false)
  | 1 => ("BundledLinks$Port", "muted", "Z", false)
  | 2 => ("BundledLinks$Port", "key", "I", false)
  | 3 => ("BundledLinks$Port", "priority", "I", false)
  | 4 => ("BundledLinks$Port", "heard", "LBundledLinks$Message;", true)
  | 5 => ("BundledLinks$Port", "said", "LBundledLinks$Message;", true)
  | 6 => ("BundledLinks$Port", "age", "I", false)
  | 7 => ("BundledLinks$Port", "how", "I", false)
  | 8 => ("BundledLinks$Port", "chosen", "Z", false)
  | 9 => ("BundledLinks$Port", "chosenFor", "I", false)
  | _ => ("BundledLinks$Port", "begun", "I", false)
def tyX5 : Nat → FieldType := fun k => match k with
  | 0 => .boolean
  | 1 => .boolean
  | 2 => .int
  | 3 => .int
  | 4 => .object "BundledLinks$Message"
  | 5 => .object "BundledLinks$Message"
  | 6 => .int
  | 7 => .int
  | 8 => .boolean
  | 9 => .int
  | _ => .int
abbrev wsX50 : List Cond := u_ws RX5 TX5 11
theorem nmX5 : ∀ a, a < 11 → ∀ b, b < 11 → a ≠ b → (TX5 a).2.1 ≠ (TX5 b).2.1 := by decide +kernel
theorem tyX5_ok : ∀ k, k < 11 → parseFieldDescriptor (TX5 k).2.2.1 = some (tyX5 k) := by decide +kernel
abbrev cX5_init : ByteArray := prog_7_method_1_code
def yX5_init : MethodName := ⟨RX5, "<init>", "()V"⟩
abbrev cX5_clear : ByteArray := prog_7_method_2_code
def yX5_clear : MethodName := ⟨RX5, "clear", "()V"⟩
abbrev cX5_begin : ByteArray := prog_7_method_3_code
def yX5_begin : MethodName := ⟨RX5, "begin", "(II)V"⟩
abbrev cX5_copyFrom : ByteArray := prog_7_method_4_code
def yX5_copyFrom : MethodName := ⟨RX5, "copyFrom", "(LBundledLinks$Port;)V"⟩
abbrev cX5_hear : ByteArray := prog_7_method_5_code
def yX5_hear : MethodName := ⟨RX5, "hear", "(LBundledLinks$Message;)V"⟩
abbrev cX5_priorityBy : ByteArray := prog_7_method_6_code
def yX5_priorityBy : MethodName := ⟨RX5, "priorityBy", "(Z)I"⟩
abbrev cX5_hasPairOf : ByteArray := prog_7_method_7_code
def yX5_hasPairOf : MethodName := ⟨RX5, "hasPairOf", "(LBundledLinks$Port;)Z"⟩
abbrev cX5_judge : ByteArray := prog_7_method_8_code
def yX5_judge : MethodName := ⟨RX5, "judge", "(I)V"⟩
abbrev cX5_howNow : ByteArray := prog_7_method_9_code
def yX5_howNow : MethodName := ⟨RX5, "howNow", "(I)I"⟩
abbrev cX5_say : ByteArray := prog_7_method_10_code
def yX5_say : MethodName := ⟨RX5, "say", "(I)V"⟩
abbrev cX5_look : ByteArray := prog_7_method_11_code
def yX5_look : MethodName := ⟨RX5, "look", "(I)I"⟩
abbrev cX5_known : ByteArray := prog_7_method_12_code
def yX5_known : MethodName := ⟨RX5, "known", "(I)I"⟩
abbrev cX5_isOf : ByteArray := prog_7_method_13_code
def yX5_isOf : MethodName := ⟨RX5, "isOf", "(I)Z"⟩
def RX6 : String := "BundledLinks$Text"
def TX6 : u_T := fun k => match k with
  | 0 => ("BundledLinks$Text", "letters", "[I", true)
  | _ => ("BundledLinks$Text", "size", "I", false)
def tyX6 : Nat → FieldType := fun k => match k with
  | 0 => .array .int
  | _ => .int
abbrev wsX60 : List Cond := u_ws RX6 TX6 2
theorem nmX6 : ∀ a, a < 2 → ∀ b, b < 2 → a ≠ b → (TX6 a).2.1 ≠ (TX6 b).2.1 := by decide +kernel
theorem tyX6_ok : ∀ k, k < 2 → parseFieldDescriptor (TX6 k).2.2.1 = some (tyX6 k) := by decide +kernel
abbrev cX6_init : ByteArray := prog_8_method_1_code
def yX6_init : MethodName := ⟨RX6, "<init>", "()V"⟩
abbrev cX6_add : ByteArray := prog_8_method_2_code
def yX6_add : MethodName := ⟨RX6, "add", "(I)Z"⟩
abbrev cX6_clear : ByteArray := prog_8_method_3_code
def yX6_clear : MethodName := ⟨RX6, "clear", "()V"⟩
abbrev cX6_letterAt : ByteArray := prog_8_method_4_code
def yX6_letterAt : MethodName := ⟨RX6, "letterAt", "(I)I"⟩
abbrev cX6_firstFault : ByteArray := prog_8_method_5_code
def yX6_firstFault : MethodName := ⟨RX6, "firstFault", "()I"⟩
abbrev cX6_tellsLink : ByteArray := prog_8_method_6_code
def yX6_tellsLink : MethodName := ⟨RX6, "tellsLink", "()Z"⟩
abbrev cX6_isItem : ByteArray := prog_8_method_7_code
def yX6_isItem : MethodName := ⟨RX6, "isItem", "(I)Z"⟩
abbrev cX6_numbersOfItem : ByteArray := prog_8_method_8_code
def yX6_numbersOfItem : MethodName := ⟨RX6, "numbersOfItem", "(I)I"⟩
abbrev cX6_lengthOfItem : ByteArray := prog_8_method_9_code
def yX6_lengthOfItem : MethodName := ⟨RX6, "lengthOfItem", "(I)I"⟩
abbrev cX6_number : ByteArray := prog_8_method_10_code
def yX6_number : MethodName := ⟨RX6, "number", "(II)I"⟩
def RX7 : String := "BundledLinks"
def TX7 : u_T := fun k => match k with
  | 0 => ("BundledLinks", "text", "LBundledLinks$Text;", true)
  | 1 => ("BundledLinks", "net", "LBundledLinks$Net;", true)
  | 2 => ("BundledLinks", "history", "LBundledLinks$History;", true)
  | 3 => ("BundledLinks", "went", "[I", true)
  | 4 => ("BundledLinks", "trial", "LBundledLinks$Net;", true)
  | _ => ("BundledLinks", "mark", "LBundledLinks$Net;", true)
def tyX7 : Nat → FieldType := fun k => match k with
  | 0 => .object "BundledLinks$Text"
  | 1 => .object "BundledLinks$Net"
  | 2 => .object "BundledLinks$History"
  | 3 => .array .int
  | 4 => .object "BundledLinks$Net"
  | _ => .object "BundledLinks$Net"
abbrev wsX70 : List Cond := u_ws RX7 TX7 6
theorem nmX7 : ∀ a, a < 6 → ∀ b, b < 6 → a ≠ b → (TX7 a).2.1 ≠ (TX7 b).2.1 := by decide +kernel
theorem tyX7_ok : ∀ k, k < 6 → parseFieldDescriptor (TX7 k).2.2.1 = some (tyX7 k) := by decide +kernel
abbrev cX7_init : ByteArray := prog_1_method_1_code
def yX7_init : MethodName := ⟨RX7, "<init>", "()V"⟩
abbrev cX7_write : ByteArray := prog_1_method_2_code
def yX7_write : MethodName := ⟨RX7, "write", "(I)I"⟩
abbrev cX7_wipe : ByteArray := prog_1_method_3_code
def yX7_wipe : MethodName := ⟨RX7, "wipe", "()I"⟩
abbrev cX7_fault : ByteArray := prog_1_method_4_code
def yX7_fault : MethodName := ⟨RX7, "fault", "()I"⟩
abbrev cX7_lay : ByteArray := prog_1_method_5_code
def yX7_lay : MethodName := ⟨RX7, "lay", "()I"⟩
abbrev cX7_plug : ByteArray := prog_1_method_6_code
def yX7_plug : MethodName := ⟨RX7, "plug", "(II)I"⟩
abbrev cX7_mute : ByteArray := prog_1_method_7_code
def yX7_mute : MethodName := ⟨RX7, "mute", "(III)I"⟩
abbrev cX7_tell : ByteArray := prog_1_method_8_code
def yX7_tell : MethodName := ⟨RX7, "tell", "(IIII)I"⟩
abbrev cX7_set : ByteArray := prog_1_method_9_code
def yX7_set : MethodName := ⟨RX7, "set", "(II)I"⟩
abbrev cX7_tick : ByteArray := prog_1_method_10_code
def yX7_tick : MethodName := ⟨RX7, "tick", "(I)I"⟩
abbrev cX7_undo : ByteArray := prog_1_method_11_code
def yX7_undo : MethodName := ⟨RX7, "undo", "()I"⟩
abbrev cX7_link : ByteArray := prog_1_method_12_code
def yX7_link : MethodName := ⟨RX7, "link", "(III)I"⟩
abbrev cX7_bundle : ByteArray := prog_1_method_13_code
def yX7_bundle : MethodName := ⟨RX7, "bundle", "(II)I"⟩
abbrev cX7_flow : ByteArray := prog_1_method_14_code
def yX7_flow : MethodName := ⟨RX7, "flow", "(III)I"⟩
abbrev cX7_frame : ByteArray := prog_1_method_15_code
def yX7_frame : MethodName := ⟨RX7, "frame", "(II)I"⟩
abbrev cX7_frames : ByteArray := prog_1_method_16_code
def yX7_frames : MethodName := ⟨RX7, "frames", "(II)I"⟩
abbrev cX7_agreed : ByteArray := prog_1_method_17_code
def yX7_agreed : MethodName := ⟨RX7, "agreed", "()I"⟩
abbrev cX7_settled : ByteArray := prog_1_method_18_code
def yX7_settled : MethodName := ⟨RX7, "settled", "()I"⟩
abbrev cX7_count : ByteArray := prog_1_method_19_code
def yX7_count : MethodName := ⟨RX7, "count", "(I)I"⟩
abbrev cX7_placeOfFrames : ByteArray := prog_1_method_20_code
def yX7_placeOfFrames : MethodName := ⟨RX7, "placeOfFrames", "(II)I"⟩
abbrev cX7_isZeroOrOne : ByteArray := prog_1_method_21_code
def yX7_isZeroOrOne : MethodName := ⟨RX7, "isZeroOrOne", "(I)Z"⟩
abbrev cX7_isFigure : ByteArray := prog_1_method_22_code
def yX7_isFigure : MethodName := ⟨RX7, "isFigure", "(I)Z"⟩
abbrev cX7_isMost : ByteArray := prog_1_method_23_code
def yX7_isMost : MethodName := ⟨RX7, "isMost", "(I)Z"⟩
def RX8 : String := "BundledLinksModel"
def TX8 : u_T := fun k => match k with
  | 0 => ("BundledLinksModel", "links", "I", false)
  | 1 => ("BundledLinksModel", "wait", "I", false)
  | 2 => ("BundledLinksModel", "drain", "I", false)
  | 3 => ("BundledLinksModel", "now", "[I", true)
  | 4 => ("BundledLinksModel", "kept", "[I", true)
  | 5 => ("BundledLinksModel", "past", "[I", true)
  | 6 => ("BundledLinksModel", "undos", "I", false)
  | 7 => ("BundledLinksModel", "frames", "[I", true)
  | 8 => ("BundledLinksModel", "text", "[I", true)
  | 9 => ("BundledLinksModel", "letters", "I", false)
  | 10 => ("BundledLinksModel", "newLinks", "I", false)
  | 11 => ("BundledLinksModel", "told", "[I", true)
  | 12 => ("BundledLinksModel", "ranks", "[I", true)
  | 13 => ("BundledLinksModel", "more", "[I", true)
  | 14 => ("BundledLinksModel", "figures", "[I", true)
  | 15 => ("BundledLinksModel", "at", "I", false)
  | 16 => ("BundledLinksModel", "chosen", "[Z", true)
  | _ => ("BundledLinksModel", "seen", "[I", true)
def tyX8 : Nat → FieldType := fun k => match k with
  | 0 => .int
  | 1 => .int
  | 2 => .int
  | 3 => .array .int
  | 4 => .array .int
  | 5 => .array .int
  | 6 => .int
  | 7 => .array .int
  | 8 => .array .int
  | 9 => .int
  | 10 => .int
  | 11 => .array .int
  | 12 => .array .int
  | 13 => .array .int
  | 14 => .array .int
  | 15 => .int
  | 16 => .array .boolean
  | _ => .array .int
abbrev wsX80 : List Cond := u_ws RX8 TX8 18
theorem nmX8 : ∀ a, a < 18 → ∀ b, b < 18 → a ≠ b → (TX8 a).2.1 ≠ (TX8 b).2.1 := by decide +kernel
theorem tyX8_ok : ∀ k, k < 18 → parseFieldDescriptor (TX8 k).2.2.1 = some (tyX8 k) := by decide +kernel
abbrev cX8_init : ByteArray := prog_10_method_1_code
def yX8_init : MethodName := ⟨RX8, "<init>", "()V"⟩
abbrev cX8_within : ByteArray := prog_10_method_3_code
def yX8_within : MethodName := ⟨RX8, "within", "(III)Z"⟩
abbrev cX8_clearsPlan : ByteArray := prog_10_method_4_code
def yX8_clearsPlan : MethodName := ⟨RX8, "clearsPlan", "()V"⟩
abbrev cX8_adds : ByteArray := prog_10_method_5_code
def yX8_adds : MethodName := ⟨RX8, "adds", "(IIII)V"⟩
abbrev cX8_passes : ByteArray := prog_10_method_6_code
def yX8_passes : MethodName := ⟨RX8, "passes", "(I)Z"⟩
abbrev cX8_areFigures : ByteArray := prog_10_method_7_code
def yX8_areFigures : MethodName := ⟨RX8, "areFigures", "(I)Z"⟩
abbrev cX8_isItem : ByteArray := prog_10_method_8_code
def yX8_isItem : MethodName := ⟨RX8, "isItem", "()Z"⟩
abbrev cX8_faultAt : ByteArray := prog_10_method_9_code
def yX8_faultAt : MethodName := ⟨RX8, "faultAt", "()I"⟩
abbrev cX8_write : ByteArray := prog_10_method_10_code
def yX8_write : MethodName := ⟨RX8, "write", "(I)I"⟩
abbrev cX8_wipe : ByteArray := prog_10_method_11_code
def yX8_wipe : MethodName := ⟨RX8, "wipe", "()I"⟩
abbrev cX8_fault : ByteArray := prog_10_method_12_code
def yX8_fault : MethodName := ⟨RX8, "fault", "()I"⟩
abbrev cX8_place : ByteArray := prog_10_method_13_code
def yX8_place : MethodName := ⟨RX8, "place", "(II)I"⟩
abbrev cX8_lays : ByteArray := prog_10_method_14_code
def yX8_lays : MethodName := ⟨RX8, "lays", "()V"⟩
abbrev cX8_lay : ByteArray := prog_10_method_15_code
def yX8_lay : MethodName := ⟨RX8, "lay", "()I"⟩
abbrev cX8_isEnd : ByteArray := prog_10_method_16_code
def yX8_isEnd : MethodName := ⟨RX8, "isEnd", "(I)Z"⟩
abbrev cX8_isLink : ByteArray := prog_10_method_17_code
def yX8_isLink : MethodName := ⟨RX8, "isLink", "(I)Z"⟩
abbrev cX8_keeps : ByteArray := prog_10_method_18_code
def yX8_keeps : MethodName := ⟨RX8, "keeps", "()V"⟩
abbrev cX8_upMany : ByteArray := prog_10_method_19_code
def yX8_upMany : MethodName := ⟨RX8, "upMany", "()I"⟩
abbrev cX8_plug : ByteArray := prog_10_method_20_code
def yX8_plug : MethodName := ⟨RX8, "plug", "(II)I"⟩
abbrev cX8_mute : ByteArray := prog_10_method_21_code
def yX8_mute : MethodName := ⟨RX8, "mute", "(III)I"⟩
abbrev cX8_becomes : ByteArray := prog_10_method_22_code
def yX8_becomes : MethodName := ⟨RX8, "becomes", "(II)I"⟩
abbrev cX8_tell : ByteArray := prog_10_method_23_code
def yX8_tell : MethodName := ⟨RX8, "tell", "(IIII)I"⟩
abbrev cX8_set : ByteArray := prog_10_method_24_code
def yX8_set : MethodName := ⟨RX8, "set", "(II)I"⟩
abbrev cX8_undo : ByteArray := prog_10_method_25_code
def yX8_undo : MethodName := ⟨RX8, "undo", "()I"⟩
abbrev cX8_knowsNothing : ByteArray := prog_10_method_26_code
def yX8_knowsNothing : MethodName := ⟨RX8, "knowsNothing", "(I)V"⟩
abbrev cX8_comes : ByteArray := prog_10_method_27_code
def yX8_comes : MethodName := ⟨RX8, "comes", "(II)V"⟩
abbrev cX8_isOpen : ByteArray := prog_10_method_28_code
def yX8_isOpen : MethodName := ⟨RX8, "isOpen", "(II)Z"⟩
abbrev cX8_doesDecide : ByteArray := prog_10_method_29_code
def yX8_doesDecide : MethodName := ⟨RX8, "doesDecide", "(I)Z"⟩
abbrev cX8_isPair : ByteArray := prog_10_method_30_code
def yX8_isPair : MethodName := ⟨RX8, "isPair", "(III)Z"⟩
abbrev cX8_ahead : ByteArray := prog_10_method_31_code
def yX8_ahead : MethodName := ⟨RX8, "ahead", "(IIIZ)I"⟩
abbrev cX8_chooses : ByteArray := prog_10_method_32_code
def yX8_chooses : MethodName := ⟨RX8, "chooses", "(I)V"⟩
abbrev cX8_howOf : ByteArray := prog_10_method_33_code
def yX8_howOf : MethodName := ⟨RX8, "howOf", "(II)I"⟩
abbrev cX8_becomesHow : ByteArray := prog_10_method_34_code
def yX8_becomesHow : MethodName := ⟨RX8, "becomesHow", "(I)V"⟩
abbrev cX8_sends : ByteArray := prog_10_method_35_code
def yX8_sends : MethodName := ⟨RX8, "sends", "(II)V"⟩
abbrev cX8_isSending : ByteArray := prog_10_method_36_code
def yX8_isSending : MethodName := ⟨RX8, "isSending", "(II)Z"⟩
abbrev cX8_wants : ByteArray := prog_10_method_37_code
def yX8_wants : MethodName := ⟨RX8, "wants", "(II)I"⟩
abbrev cX8_deals : ByteArray := prog_10_method_38_code
def yX8_deals : MethodName := ⟨RX8, "deals", "(II)V"⟩
abbrev cX8_ticks : ByteArray := prog_10_method_39_code
def yX8_ticks : MethodName := ⟨RX8, "ticks", "()V"⟩
abbrev cX8_sendingSet : ByteArray := prog_10_method_40_code
def yX8_sendingSet : MethodName := ⟨RX8, "sendingSet", "(I)I"⟩
abbrev cX8_agreed : ByteArray := prog_10_method_41_code
def yX8_agreed : MethodName := ⟨RX8, "agreed", "()I"⟩
abbrev cX8_tick : ByteArray := prog_10_method_42_code
def yX8_tick : MethodName := ⟨RX8, "tick", "(I)I"⟩
abbrev cX8_tellLink : ByteArray := prog_10_method_43_code
def yX8_tellLink : MethodName := ⟨RX8, "tellLink", "(II)I"⟩
abbrev cX8_link : ByteArray := prog_10_method_44_code
def yX8_link : MethodName := ⟨RX8, "link", "(III)I"⟩
abbrev cX8_bundle : ByteArray := prog_10_method_45_code
def yX8_bundle : MethodName := ⟨RX8, "bundle", "(II)I"⟩
abbrev cX8_isFlow : ByteArray := prog_10_method_46_code
def yX8_isFlow : MethodName := ⟨RX8, "isFlow", "(I)Z"⟩
abbrev cX8_flow : ByteArray := prog_10_method_47_code
def yX8_flow : MethodName := ⟨RX8, "flow", "(III)I"⟩
abbrev cX8_frame : ByteArray := prog_10_method_48_code
def yX8_frame : MethodName := ⟨RX8, "frame", "(II)I"⟩
abbrev cX8_frames : ByteArray := prog_10_method_49_code
def yX8_frames : MethodName := ⟨RX8, "frames", "(II)I"⟩
abbrev cX8_isOther : ByteArray := prog_10_method_50_code
def yX8_isOther : MethodName := ⟨RX8, "isOther", "()Z"⟩
abbrev cX8_fewest : ByteArray := prog_10_method_51_code
def yX8_fewest : MethodName := ⟨RX8, "fewest", "()I"⟩
abbrev cX8_settled : ByteArray := prog_10_method_52_code
def yX8_settled : MethodName := ⟨RX8, "settled", "()I"⟩
abbrev cX8_count : ByteArray := prog_10_method_53_code
def yX8_count : MethodName := ⟨RX8, "count", "(I)I"⟩
def RJ9 : String := "java/lang/Math"
def TJ9 : u_T := fun k => match k with
  | _ => ("", "", "", false)
def tyJ9 : Nat → FieldType := fun k => match k with
  | _ => .int
abbrev wsJ90 : List Cond := u_ws RJ9 TJ9 0
theorem nmJ9 : ∀ a, a < 0 → ∀ b, b < 0 → a ≠ b → (TJ9 a).2.1 ≠ (TJ9 b).2.1 := by decide +kernel
theorem tyJ9_ok : ∀ k, k < 0 → parseFieldDescriptor (TJ9 k).2.2.1 = some (tyJ9 k) := by decide +kernel
abbrev cJ9_min_7cf53 : ByteArray := prog_11_method_69_code
def yJ9_min_7cf53 : MethodName := ⟨RJ9, "min", "(II)I"⟩
def RJ0 : String := "java/lang/String"
def TJ0 : u_T := fun k => match k with
  | _ => ("", "", "", false)
def tyJ0 : Nat → FieldType := fun k => match k with
  | _ => .int
abbrev wsJ00 : List Cond := u_ws RJ0 TJ0 0
theorem nmJ0 : ∀ a, a < 0 → ∀ b, b < 0 → a ≠ b → (TJ0 a).2.1 ≠ (TJ0 b).2.1 := by decide +kernel
theorem tyJ0_ok : ∀ k, k < 0 → parseFieldDescriptor (TJ0 k).2.2.1 = some (tyJ0 k) := by decide +kernel
abbrev cJ0_length_8abf5 : ByteArray := prog_12_method_54_code
def yJ0_length_8abf5 : MethodName := ⟨RJ0, "length", "()I"⟩
abbrev cJ0_charAt_5068e : ByteArray := prog_12_method_56_code
def yJ0_charAt_5068e : MethodName := ⟨RJ0, "charAt", "(I)C"⟩
abbrev cJ0_coder_7d493 : ByteArray := prog_12_method_152_code
def yJ0_coder_7d493 : MethodName := ⟨RJ0, "coder", "()B"⟩
abbrev cJ0_isLatin1_aae02 : ByteArray := prog_12_method_154_code
def yJ0_isLatin1_aae02 : MethodName := ⟨RJ0, "isLatin1", "()Z"⟩
abbrev cJ0_checkIndex_df160 : ByteArray := prog_12_method_155_code
def yJ0_checkIndex_df160 : MethodName := ⟨RJ0, "checkIndex", "(II)V"⟩
def RJ1 : String := "java/lang/StringLatin1"
def TJ1 : u_T := fun k => match k with
  | _ => ("", "", "", false)
def tyJ1 : Nat → FieldType := fun k => match k with
  | _ => .int
abbrev wsJ10 : List Cond := u_ws RJ1 TJ1 0
theorem nmJ1 : ∀ a, a < 0 → ∀ b, b < 0 → a ≠ b → (TJ1 a).2.1 ≠ (TJ1 b).2.1 := by decide +kernel
theorem tyJ1_ok : ∀ k, k < 0 → parseFieldDescriptor (TJ1 k).2.2.1 = some (tyJ1 k) := by decide +kernel
abbrev cJ1_charAt_3b067 : ByteArray := prog_13_method_2_code
def yJ1_charAt_3b067 : MethodName := ⟨RJ1, "charAt", "([BI)C"⟩
def RJ2 : String := "java/lang/StringUTF16"
def TJ2 : u_T := fun k => match k with
  | _ => ("", "", "", false)
def tyJ2 : Nat → FieldType := fun k => match k with
  | _ => .int
abbrev wsJ20 : List Cond := u_ws RJ2 TJ2 0
theorem nmJ2 : ∀ a, a < 0 → ∀ b, b < 0 → a ≠ b → (TJ2 a).2.1 ≠ (TJ2 b).2.1 := by decide +kernel
theorem tyJ2_ok : ∀ k, k < 0 → parseFieldDescriptor (TJ2 k).2.2.1 = some (tyJ2 k) := by decide +kernel
abbrev cJ2_getChar_3b067 : ByteArray := prog_14_method_5_code
def yJ2_getChar_3b067 : MethodName := ⟨RJ2, "getChar", "([BI)C"⟩
abbrev cJ2_length_9d52b : ByteArray := prog_14_method_6_code
def yJ2_length_9d52b : MethodName := ⟨RJ2, "length", "([B)I"⟩
abbrev cJ2_charAt_3b067 : ByteArray := prog_14_method_83_code
def yJ2_charAt_3b067 : MethodName := ⟨RJ2, "charAt", "([BI)C"⟩
abbrev cJ2_checkIndex_2214a : ByteArray := prog_14_method_91_code
def yJ2_checkIndex_2214a : MethodName := ⟨RJ2, "checkIndex", "(I[B)V"⟩
def RJ3 : String := "jdk/internal/util/Preconditions"
def TJ3 : u_T := fun k => match k with
  | _ => ("", "", "", false)
def tyJ3 : Nat → FieldType := fun k => match k with
  | _ => .int
abbrev wsJ30 : List Cond := u_ws RJ3 TJ3 0
theorem nmJ3 : ∀ a, a < 0 → ∀ b, b < 0 → a ≠ b → (TJ3 a).2.1 ≠ (TJ3 b).2.1 := by decide +kernel
theorem tyJ3_ok : ∀ k, k < 0 → parseFieldDescriptor (TJ3 k).2.2.1 = some (tyJ3 k) := by decide +kernel
abbrev cJ3_checkIndex_8e157 : ByteArray := prog_15_method_11_code
def yJ3_checkIndex_8e157 : MethodName := ⟨RJ3, "checkIndex", "(IILjava/util/function/BiFunction;)I"⟩
def RL : String := "BundledLinksLaw"
abbrev cL_law : ByteArray := code
def yL_law : MethodName := ⟨RL, "law", "([I)Z"⟩
def wsX3_init : List Cond := .code yX3_init cX3_init 1 none :: ([.methodLink RX3 1 objectInit, .instanceMethod objectInit, .code objectInit ⟨#[0xb1]⟩ 1 none])
def wsX5_init : List Cond := .code yX5_init cX5_init 1 none :: ([.methodLink RX5 3 objectInit, .instanceMethod objectInit, .code objectInit ⟨#[0xb1]⟩ 1 none, .classLink RX5 9 RX3, .instantiable RX3 5, .initialized RX3, .fieldLink RX5 12 "BundledLinks$Port" "heard" "LBundledLinks$Message;", .fieldLink RX5 18 "BundledLinks$Port" "said" "LBundledLinks$Message;", .instanceMethod yX3_init, .code yX3_init cX3_init 1 none, .methodLink RX3 1 objectInit] ++ wsX30 ++ wsX50)
def wsX1_init : List Cond := .code yX1_init cX1_init 1 none :: ([.methodLink RX1 3 objectInit, .instanceMethod objectInit, .code objectInit ⟨#[0xb1]⟩ 1 none])
def wsX0_init_r1 : List Cond := [Cond.methodLink RX0 3 objectInit, Cond.instanceMethod objectInit, Cond.code objectInit ⟨#[0xb1]⟩ 1 none, Cond.fieldLink RX0 9 "BundledLinks$End" "number" "I", Cond.classLink RX0 15 RX5, Cond.fieldLink RX0 17 "BundledLinks$End" "ports" "[LBundledLinks$Port;", Cond.instantiable RX5 11, Cond.initialized RX5, Cond.classLink RX0 22 RX1, Cond.fieldLink RX0 24 "BundledLinks$End" "flows" "[LBundledLinks$Flow;", Cond.instantiable RX1 2, Cond.initialized RX1, Cond.instanceMethod yX5_init, Cond.code yX5_init cX5_init 1 none, Cond.methodLink RX5 3 objectInit, Cond.classLink RX5 9 RX3, Cond.instantiable RX3 5, Cond.initialized RX3, Cond.fieldLink RX5 12 "BundledLinks$Port" "heard" "LBundledLinks$Message;", Cond.fieldLink RX5 18 "BundledLinks$Port" "said" "LBundledLinks$Message;", Cond.instanceMethod yX3_init, Cond.code yX3_init cX3_init 1 none, Cond.methodLink RX3 1 objectInit, Cond.instanceMethod yX1_init]
def wsX0_init_r2 : List Cond := [Cond.code yX1_init cX1_init 1 none, Cond.methodLink RX1 3 objectInit]
def wsX0_init : List Cond := .code yX0_init cX0_init 3 none :: ((wsX0_init_r1 ++ wsX0_init_r2) ++ wsX00 ++ wsX50 ++ wsX10 ++ wsX30)
def wsX3_clear : List Cond := .code yX3_clear cX3_clear 1 none :: ([.fieldLink RX3 7 "BundledLinks$Message" "there" "Z", .fieldLink RX3 13 "BundledLinks$Message" "key" "I", .fieldLink RX3 17 "BundledLinks$Message" "priority" "I", .fieldLink RX3 20 "BundledLinks$Message" "rank" "I", .fieldLink RX3 23 "BundledLinks$Message" "sync" "Z"] ++ wsX30)
def wsX5_clear : List Cond := .code yX5_clear cX5_clear 1 none :: ([.fieldLink RX5 21 "BundledLinks$Port" "up" "Z", .fieldLink RX5 25 "BundledLinks$Port" "muted" "Z", .fieldLink RX5 28 "BundledLinks$Port" "key" "I", .fieldLink RX5 32 "BundledLinks$Port" "priority" "I", .fieldLink RX5 12 "BundledLinks$Port" "heard" "LBundledLinks$Message;", .fieldLink RX5 18 "BundledLinks$Port" "said" "LBundledLinks$Message;", .fieldLink RX5 38 "BundledLinks$Port" "age" "I", .fieldLink RX5 41 "BundledLinks$Port" "how" "I", .fieldLink RX5 44 "BundledLinks$Port" "chosen" "Z", .fieldLink RX5 47 "BundledLinks$Port" "chosenFor" "I", .fieldLink RX5 50 "BundledLinks$Port" "begun" "I", .methodLink RX5 35 yX3_clear, .instanceMethod yX3_clear, .selects RX3 yX3_clear yX3_clear, .initialized RX3, .code yX3_clear cX3_clear 1 none, .fieldLink RX3 7 "BundledLinks$Message" "there" "Z", .fieldLink RX3 13 "BundledLinks$Message" "key" "I", .fieldLink RX3 17 "BundledLinks$Message" "priority" "I", .fieldLink RX3 20 "BundledLinks$Message" "rank" "I", .fieldLink RX3 23 "BundledLinks$Message" "sync" "Z"] ++ wsX50 ++ wsX30)
def wsX1_clear : List Cond := .code yX1_clear cX1_clear 1 none :: ([.fieldLink RX1 9 "BundledLinks$Flow" "link" "I", .fieldLink RX1 15 "BundledLinks$Flow" "held" "I"] ++ wsX10)
def wsX0_clear_r1 : List Cond := [Cond.fieldLink RX0 29 "BundledLinks$End" "rank" "I", Cond.fieldLink RX0 17 "BundledLinks$End" "ports" "[LBundledLinks$Port;", Cond.fieldLink RX0 24 "BundledLinks$End" "flows" "[LBundledLinks$Flow;", Cond.methodLink RX0 32 yX5_clear, Cond.instanceMethod yX5_clear, Cond.selects RX5 yX5_clear yX5_clear, Cond.initialized RX5, Cond.code yX5_clear cX5_clear 1 none, Cond.fieldLink RX5 21 "BundledLinks$Port" "up" "Z", Cond.fieldLink RX5 25 "BundledLinks$Port" "muted" "Z", Cond.fieldLink RX5 28 "BundledLinks$Port" "key" "I", Cond.fieldLink RX5 32 "BundledLinks$Port" "priority" "I", Cond.fieldLink RX5 12 "BundledLinks$Port" "heard" "LBundledLinks$Message;", Cond.fieldLink RX5 18 "BundledLinks$Port" "said" "LBundledLinks$Message;", Cond.fieldLink RX5 38 "BundledLinks$Port" "age" "I", Cond.fieldLink RX5 41 "BundledLinks$Port" "how" "I", Cond.fieldLink RX5 44 "BundledLinks$Port" "chosen" "Z", Cond.fieldLink RX5 47 "BundledLinks$Port" "chosenFor" "I", Cond.fieldLink RX5 50 "BundledLinks$Port" "begun" "I", Cond.methodLink RX5 35 yX3_clear, Cond.instanceMethod yX3_clear, Cond.selects RX3 yX3_clear yX3_clear, Cond.initialized RX3, Cond.code yX3_clear cX3_clear 1 none]
def wsX0_clear_r2 : List Cond := [Cond.fieldLink RX3 7 "BundledLinks$Message" "there" "Z", Cond.fieldLink RX3 13 "BundledLinks$Message" "key" "I", Cond.fieldLink RX3 17 "BundledLinks$Message" "priority" "I", Cond.fieldLink RX3 20 "BundledLinks$Message" "rank" "I", Cond.fieldLink RX3 23 "BundledLinks$Message" "sync" "Z", Cond.methodLink RX0 35 yX1_clear, Cond.instanceMethod yX1_clear, Cond.selects RX1 yX1_clear yX1_clear, Cond.initialized RX1, Cond.code yX1_clear cX1_clear 1 none, Cond.fieldLink RX1 9 "BundledLinks$Flow" "link" "I", Cond.fieldLink RX1 15 "BundledLinks$Flow" "held" "I"]
def wsX0_clear : List Cond := .code yX0_clear cX0_clear 5 none :: ((wsX0_clear_r1 ++ wsX0_clear_r2) ++ wsX00 ++ wsX50 ++ wsX30 ++ wsX10)
def wsX3_copyFrom : List Cond := .code yX3_copyFrom cX3_copyFrom 2 none :: ([.fieldLink RX3 7 "BundledLinks$Message" "there" "Z", .fieldLink RX3 13 "BundledLinks$Message" "key" "I", .fieldLink RX3 17 "BundledLinks$Message" "priority" "I", .fieldLink RX3 20 "BundledLinks$Message" "rank" "I", .fieldLink RX3 23 "BundledLinks$Message" "sync" "Z"] ++ wsX30)
def wsX5_copyFrom : List Cond := .code yX5_copyFrom cX5_copyFrom 2 none :: ([.fieldLink RX5 21 "BundledLinks$Port" "up" "Z", .fieldLink RX5 25 "BundledLinks$Port" "muted" "Z", .fieldLink RX5 28 "BundledLinks$Port" "key" "I", .fieldLink RX5 32 "BundledLinks$Port" "priority" "I", .fieldLink RX5 12 "BundledLinks$Port" "heard" "LBundledLinks$Message;", .fieldLink RX5 18 "BundledLinks$Port" "said" "LBundledLinks$Message;", .fieldLink RX5 38 "BundledLinks$Port" "age" "I", .fieldLink RX5 41 "BundledLinks$Port" "how" "I", .fieldLink RX5 44 "BundledLinks$Port" "chosen" "Z", .fieldLink RX5 47 "BundledLinks$Port" "chosenFor" "I", .fieldLink RX5 50 "BundledLinks$Port" "begun" "I", .methodLink RX5 53 yX3_copyFrom, .instanceMethod yX3_copyFrom, .selects RX3 yX3_copyFrom yX3_copyFrom, .initialized RX3, .code yX3_copyFrom cX3_copyFrom 2 none, .fieldLink RX3 7 "BundledLinks$Message" "there" "Z", .fieldLink RX3 13 "BundledLinks$Message" "key" "I", .fieldLink RX3 17 "BundledLinks$Message" "priority" "I", .fieldLink RX3 20 "BundledLinks$Message" "rank" "I", .fieldLink RX3 23 "BundledLinks$Message" "sync" "Z"] ++ wsX50 ++ wsX30)
def wsX1_copyFrom : List Cond := .code yX1_copyFrom cX1_copyFrom 2 none :: ([.fieldLink RX1 9 "BundledLinks$Flow" "link" "I", .fieldLink RX1 15 "BundledLinks$Flow" "held" "I"] ++ wsX10)
def wsX0_copyFrom_r1 : List Cond := [Cond.fieldLink RX0 29 "BundledLinks$End" "rank" "I", Cond.fieldLink RX0 17 "BundledLinks$End" "ports" "[LBundledLinks$Port;", Cond.fieldLink RX0 24 "BundledLinks$End" "flows" "[LBundledLinks$Flow;", Cond.methodLink RX0 36 yX5_copyFrom, Cond.instanceMethod yX5_copyFrom, Cond.selects RX5 yX5_copyFrom yX5_copyFrom, Cond.initialized RX5, Cond.code yX5_copyFrom cX5_copyFrom 2 none, Cond.fieldLink RX5 21 "BundledLinks$Port" "up" "Z", Cond.fieldLink RX5 25 "BundledLinks$Port" "muted" "Z", Cond.fieldLink RX5 28 "BundledLinks$Port" "key" "I", Cond.fieldLink RX5 32 "BundledLinks$Port" "priority" "I", Cond.fieldLink RX5 12 "BundledLinks$Port" "heard" "LBundledLinks$Message;", Cond.fieldLink RX5 18 "BundledLinks$Port" "said" "LBundledLinks$Message;", Cond.fieldLink RX5 38 "BundledLinks$Port" "age" "I", Cond.fieldLink RX5 41 "BundledLinks$Port" "how" "I", Cond.fieldLink RX5 44 "BundledLinks$Port" "chosen" "Z", Cond.fieldLink RX5 47 "BundledLinks$Port" "chosenFor" "I", Cond.fieldLink RX5 50 "BundledLinks$Port" "begun" "I", Cond.methodLink RX5 53 yX3_copyFrom, Cond.instanceMethod yX3_copyFrom, Cond.selects RX3 yX3_copyFrom yX3_copyFrom, Cond.initialized RX3, Cond.code yX3_copyFrom cX3_copyFrom 2 none]
def wsX0_copyFrom_r2 : List Cond := [Cond.fieldLink RX3 7 "BundledLinks$Message" "there" "Z", Cond.fieldLink RX3 13 "BundledLinks$Message" "key" "I", Cond.fieldLink RX3 17 "BundledLinks$Message" "priority" "I", Cond.fieldLink RX3 20 "BundledLinks$Message" "rank" "I", Cond.fieldLink RX3 23 "BundledLinks$Message" "sync" "Z", Cond.methodLink RX0 40 yX1_copyFrom, Cond.instanceMethod yX1_copyFrom, Cond.selects RX1 yX1_copyFrom yX1_copyFrom, Cond.initialized RX1, Cond.code yX1_copyFrom cX1_copyFrom 2 none, Cond.fieldLink RX1 9 "BundledLinks$Flow" "link" "I", Cond.fieldLink RX1 15 "BundledLinks$Flow" "held" "I"]
def wsX0_copyFrom : List Cond := .code yX0_copyFrom cX0_copyFrom 3 none :: ((wsX0_copyFrom_r1 ++ wsX0_copyFrom_r2) ++ wsX00 ++ wsX50 ++ wsX30 ++ wsX10)
def wsX0_looksLike : List Cond := .code yX0_looksLike cX0_looksLike 3 (some .boolean) :: ([.fieldLink RX0 17 "BundledLinks$End" "ports" "[LBundledLinks$Port;", .fieldLink RX0 43 "BundledLinks$Port" "how" "I", .fieldLink RX0 24 "BundledLinks$End" "flows" "[LBundledLinks$Flow;", .fieldLink RX0 46 "BundledLinks$Flow" "link" "I"] ++ wsX00 ++ wsX50 ++ wsX10)
def wsX0_portAt : List Cond := .code yX0_portAt cX0_portAt 2 (some (.object "BundledLinks$Port")) :: ([.fieldLink RX0 17 "BundledLinks$End" "ports" "[LBundledLinks$Port;"] ++ wsX00)
def wsX0_flowAt : List Cond := .code yX0_flowAt cX0_flowAt 2 (some (.object "BundledLinks$Flow")) :: ([.fieldLink RX0 24 "BundledLinks$End" "flows" "[LBundledLinks$Flow;"] ++ wsX00)
def wsX5_hear : List Cond := .code yX5_hear cX5_hear 2 none :: ([.fieldLink RX5 21 "BundledLinks$Port" "up" "Z", .fieldLink RX5 12 "BundledLinks$Port" "heard" "LBundledLinks$Message;", .fieldLink RX5 57 "BundledLinks$Message" "there" "Z", .fieldLink RX5 38 "BundledLinks$Port" "age" "I", .methodLink RX5 53 yX3_copyFrom, .instanceMethod yX3_copyFrom, .selects RX3 yX3_copyFrom yX3_copyFrom, .initialized RX3, .code yX3_copyFrom cX3_copyFrom 2 none, .fieldLink RX3 7 "BundledLinks$Message" "there" "Z", .fieldLink RX3 13 "BundledLinks$Message" "key" "I", .fieldLink RX3 17 "BundledLinks$Message" "priority" "I", .fieldLink RX3 20 "BundledLinks$Message" "rank" "I", .fieldLink RX3 23 "BundledLinks$Message" "sync" "Z"] ++ wsX50 ++ wsX30)
def wsX0_hearFrom : List Cond := .code yX0_hearFrom cX0_hearFrom 3 none :: ([.fieldLink RX0 17 "BundledLinks$End" "ports" "[LBundledLinks$Port;", .fieldLink RX0 49 "BundledLinks$Port" "said" "LBundledLinks$Message;", .methodLink RX0 53 yX5_hear, .instanceMethod yX5_hear, .selects RX5 yX5_hear yX5_hear, .initialized RX5, .code yX5_hear cX5_hear 2 none, .fieldLink RX5 21 "BundledLinks$Port" "up" "Z", .fieldLink RX5 12 "BundledLinks$Port" "heard" "LBundledLinks$Message;", .fieldLink RX5 57 "BundledLinks$Message" "there" "Z", .fieldLink RX5 38 "BundledLinks$Port" "age" "I", .methodLink RX5 53 yX3_copyFrom, .instanceMethod yX3_copyFrom, .selects RX3 yX3_copyFrom yX3_copyFrom, .initialized RX3, .code yX3_copyFrom cX3_copyFrom 2 none, .fieldLink RX3 7 "BundledLinks$Message" "there" "Z", .fieldLink RX3 13 "BundledLinks$Message" "key" "I", .fieldLink RX3 17 "BundledLinks$Message" "priority" "I", .fieldLink RX3 20 "BundledLinks$Message" "rank" "I", .fieldLink RX3 23 "BundledLinks$Message" "sync" "Z"] ++ wsX00 ++ wsX50 ++ wsX30)
def wsX0_decides : List Cond := .code yX0_decides cX0_decides 6 (some .boolean) :: ([.fieldLink RX0 17 "BundledLinks$End" "ports" "[LBundledLinks$Port;", .fieldLink RX0 69 "BundledLinks$Port" "heard" "LBundledLinks$Message;", .fieldLink RX0 72 "BundledLinks$Message" "there" "Z", .fieldLink RX0 77 "BundledLinks$Message" "rank" "I", .fieldLink RX0 9 "BundledLinks$End" "number" "I", .fieldLink RX0 29 "BundledLinks$End" "rank" "I"] ++ wsX00 ++ wsX50 ++ wsX30)
def wsX5_hasPairOf : List Cond := .code yX5_hasPairOf cX5_hasPairOf 2 (some .boolean) :: ([.fieldLink RX5 28 "BundledLinks$Port" "key" "I", .fieldLink RX5 12 "BundledLinks$Port" "heard" "LBundledLinks$Message;", .fieldLink RX5 61 "BundledLinks$Message" "key" "I"] ++ wsX50 ++ wsX30)
def wsX5_priorityBy : List Cond := .code yX5_priorityBy cX5_priorityBy 2 (some .int) :: ([.fieldLink RX5 32 "BundledLinks$Port" "priority" "I", .fieldLink RX5 12 "BundledLinks$Port" "heard" "LBundledLinks$Message;", .fieldLink RX5 60 "BundledLinks$Message" "priority" "I"] ++ wsX50 ++ wsX30)
def wsX0_bestOpen : List Cond := .code yX0_bestOpen cX0_bestOpen 9 (some (.object "BundledLinks$Port")) :: ([.fieldLink RX0 17 "BundledLinks$End" "ports" "[LBundledLinks$Port;", .fieldLink RX0 69 "BundledLinks$Port" "heard" "LBundledLinks$Message;", .fieldLink RX0 72 "BundledLinks$Message" "there" "Z", .fieldLink RX0 57 "BundledLinks$Port" "chosen" "Z", .methodLink RX0 78 yX5_hasPairOf, .instanceMethod yX5_hasPairOf, .selects RX5 yX5_hasPairOf yX5_hasPairOf, .initialized RX5, .code yX5_hasPairOf cX5_hasPairOf 2 (some .boolean), .fieldLink RX5 28 "BundledLinks$Port" "key" "I", .fieldLink RX5 12 "BundledLinks$Port" "heard" "LBundledLinks$Message;", .fieldLink RX5 61 "BundledLinks$Message" "key" "I", .methodLink RX0 82 yX5_priorityBy, .instanceMethod yX5_priorityBy, .selects RX5 yX5_priorityBy yX5_priorityBy, .code yX5_priorityBy cX5_priorityBy 2 (some .int), .fieldLink RX5 32 "BundledLinks$Port" "priority" "I", .fieldLink RX5 60 "BundledLinks$Message" "priority" "I"] ++ wsX00 ++ wsX50 ++ wsX30)
def wsX0_choose_r1 : List Cond := [Cond.fieldLink RX0 17 "BundledLinks$End" "ports" "[LBundledLinks$Port;", Cond.fieldLink RX0 57 "BundledLinks$Port" "chosen" "Z", Cond.methodLink RX0 61 yX0_decides, Cond.instanceMethod yX0_decides, Cond.selects RX0 yX0_decides yX0_decides, Cond.initialized RX0, Cond.code yX0_decides cX0_decides 6 (some .boolean), Cond.fieldLink RX0 69 "BundledLinks$Port" "heard" "LBundledLinks$Message;", Cond.fieldLink RX0 72 "BundledLinks$Message" "there" "Z", Cond.fieldLink RX0 77 "BundledLinks$Message" "rank" "I", Cond.fieldLink RX0 9 "BundledLinks$End" "number" "I", Cond.fieldLink RX0 29 "BundledLinks$End" "rank" "I", Cond.methodLink RX0 65 yX0_bestOpen, Cond.instanceMethod yX0_bestOpen, Cond.selects RX0 yX0_bestOpen yX0_bestOpen, Cond.code yX0_bestOpen cX0_bestOpen 9 (some (.object "BundledLinks$Port")), Cond.methodLink RX0 78 yX5_hasPairOf, Cond.instanceMethod yX5_hasPairOf, Cond.selects RX5 yX5_hasPairOf yX5_hasPairOf, Cond.initialized RX5, Cond.code yX5_hasPairOf cX5_hasPairOf 2 (some .boolean), Cond.fieldLink RX5 28 "BundledLinks$Port" "key" "I", Cond.fieldLink RX5 12 "BundledLinks$Port" "heard" "LBundledLinks$Message;", Cond.fieldLink RX5 61 "BundledLinks$Message" "key" "I"]
def wsX0_choose_r2 : List Cond := [Cond.methodLink RX0 82 yX5_priorityBy, Cond.instanceMethod yX5_priorityBy, Cond.selects RX5 yX5_priorityBy yX5_priorityBy, Cond.code yX5_priorityBy cX5_priorityBy 2 (some .int), Cond.fieldLink RX5 32 "BundledLinks$Port" "priority" "I", Cond.fieldLink RX5 60 "BundledLinks$Message" "priority" "I"]
def wsX0_choose : List Cond := .code yX0_choose cX0_choose 6 none :: ((wsX0_choose_r1 ++ wsX0_choose_r2) ++ wsX00 ++ wsX50 ++ wsX30)
def wsX5_howNow : List Cond := .code yX5_howNow cX5_howNow 2 (some .int) :: ([.fieldLink RX5 21 "BundledLinks$Port" "up" "Z", .fieldLink RX5 12 "BundledLinks$Port" "heard" "LBundledLinks$Message;", .fieldLink RX5 57 "BundledLinks$Message" "there" "Z", .fieldLink RX5 44 "BundledLinks$Port" "chosen" "Z", .fieldLink RX5 47 "BundledLinks$Port" "chosenFor" "I", .fieldLink RX5 66 "BundledLinks$Message" "sync" "Z"] ++ wsX50 ++ wsX30)
def wsX5_judge : List Cond := .code yX5_judge cX5_judge 3 none :: ([.fieldLink RX5 44 "BundledLinks$Port" "chosen" "Z", .fieldLink RX5 47 "BundledLinks$Port" "chosenFor" "I", .fieldLink RX5 41 "BundledLinks$Port" "how" "I", .fieldLink RX5 50 "BundledLinks$Port" "begun" "I", .methodLink RX5 62 yX5_howNow, .instanceMethod yX5_howNow, .selects RX5 yX5_howNow yX5_howNow, .initialized RX5, .code yX5_howNow cX5_howNow 2 (some .int), .fieldLink RX5 21 "BundledLinks$Port" "up" "Z", .fieldLink RX5 12 "BundledLinks$Port" "heard" "LBundledLinks$Message;", .fieldLink RX5 57 "BundledLinks$Message" "there" "Z", .fieldLink RX5 66 "BundledLinks$Message" "sync" "Z"] ++ wsX50 ++ wsX30)
def wsX5_say : List Cond := .code yX5_say cX5_say 2 none :: ([.fieldLink RX5 18 "BundledLinks$Port" "said" "LBundledLinks$Message;", .fieldLink RX5 21 "BundledLinks$Port" "up" "Z", .fieldLink RX5 25 "BundledLinks$Port" "muted" "Z", .fieldLink RX5 57 "BundledLinks$Message" "there" "Z", .fieldLink RX5 28 "BundledLinks$Port" "key" "I", .fieldLink RX5 61 "BundledLinks$Message" "key" "I", .fieldLink RX5 32 "BundledLinks$Port" "priority" "I", .fieldLink RX5 60 "BundledLinks$Message" "priority" "I", .fieldLink RX5 69 "BundledLinks$Message" "rank" "I", .fieldLink RX5 41 "BundledLinks$Port" "how" "I", .fieldLink RX5 66 "BundledLinks$Message" "sync" "Z"] ++ wsX50 ++ wsX30)
def wsX0_judgeAndSay_r1 : List Cond := [Cond.fieldLink RX0 17 "BundledLinks$End" "ports" "[LBundledLinks$Port;", Cond.fieldLink RX0 29 "BundledLinks$End" "rank" "I", Cond.methodLink RX0 86 yX5_judge, Cond.instanceMethod yX5_judge, Cond.selects RX5 yX5_judge yX5_judge, Cond.initialized RX5, Cond.code yX5_judge cX5_judge 3 none, Cond.fieldLink RX5 44 "BundledLinks$Port" "chosen" "Z", Cond.fieldLink RX5 47 "BundledLinks$Port" "chosenFor" "I", Cond.fieldLink RX5 41 "BundledLinks$Port" "how" "I", Cond.fieldLink RX5 50 "BundledLinks$Port" "begun" "I", Cond.methodLink RX5 62 yX5_howNow, Cond.instanceMethod yX5_howNow, Cond.selects RX5 yX5_howNow yX5_howNow, Cond.code yX5_howNow cX5_howNow 2 (some .int), Cond.fieldLink RX5 21 "BundledLinks$Port" "up" "Z", Cond.fieldLink RX5 12 "BundledLinks$Port" "heard" "LBundledLinks$Message;", Cond.fieldLink RX5 57 "BundledLinks$Message" "there" "Z", Cond.fieldLink RX5 66 "BundledLinks$Message" "sync" "Z", Cond.methodLink RX0 90 yX5_say, Cond.instanceMethod yX5_say, Cond.selects RX5 yX5_say yX5_say, Cond.code yX5_say cX5_say 2 none, Cond.fieldLink RX5 18 "BundledLinks$Port" "said" "LBundledLinks$Message;"]
def wsX0_judgeAndSay_r2 : List Cond := [Cond.fieldLink RX5 25 "BundledLinks$Port" "muted" "Z", Cond.fieldLink RX5 28 "BundledLinks$Port" "key" "I", Cond.fieldLink RX5 61 "BundledLinks$Message" "key" "I", Cond.fieldLink RX5 32 "BundledLinks$Port" "priority" "I", Cond.fieldLink RX5 60 "BundledLinks$Message" "priority" "I", Cond.fieldLink RX5 69 "BundledLinks$Message" "rank" "I"]
def wsX0_judgeAndSay : List Cond := .code yX0_judgeAndSay cX0_judgeAndSay 6 none :: ((wsX0_judgeAndSay_r1 ++ wsX0_judgeAndSay_r2) ++ wsX00 ++ wsX50 ++ wsX30)
def wsX0_howManySending : List Cond := .code yX0_howManySending cX0_howManySending 6 (some .int) :: ([.fieldLink RX0 17 "BundledLinks$End" "ports" "[LBundledLinks$Port;", .fieldLink RX0 43 "BundledLinks$Port" "how" "I"] ++ wsX00 ++ wsX50)
def wsX0_wantedBy : List Cond := .code yX0_wantedBy cX0_wantedBy 5 (some .int) :: ([.fieldLink RX0 17 "BundledLinks$End" "ports" "[LBundledLinks$Port;", .fieldLink RX0 43 "BundledLinks$Port" "how" "I"] ++ wsX00 ++ wsX50)
def wsX1_deal : List Cond := .code yX1_deal cX1_deal 3 none :: ([.fieldLink RX1 15 "BundledLinks$Flow" "held" "I", .fieldLink RX1 9 "BundledLinks$Flow" "link" "I"] ++ wsX10)
def wsX0_dealFlows : List Cond := .code yX0_dealFlows cX0_dealFlows 4 none :: ([.fieldLink RX0 24 "BundledLinks$End" "flows" "[LBundledLinks$Flow;", .methodLink RX0 93 yX0_howManySending, .instanceMethod yX0_howManySending, .selects RX0 yX0_howManySending yX0_howManySending, .initialized RX0, .code yX0_howManySending cX0_howManySending 6 (some .int), .fieldLink RX0 17 "BundledLinks$End" "ports" "[LBundledLinks$Port;", .fieldLink RX0 43 "BundledLinks$Port" "how" "I", .methodLink RX0 97 yX0_wantedBy, .instanceMethod yX0_wantedBy, .selects RX0 yX0_wantedBy yX0_wantedBy, .code yX0_wantedBy cX0_wantedBy 5 (some .int), .methodLink RX0 101 yX1_deal, .instanceMethod yX1_deal, .selects RX1 yX1_deal yX1_deal, .initialized RX1, .code yX1_deal cX1_deal 3 none, .fieldLink RX1 15 "BundledLinks$Flow" "held" "I", .fieldLink RX1 9 "BundledLinks$Flow" "link" "I"] ++ wsX00 ++ wsX50 ++ wsX10)
def wsX0_howManyUp : List Cond := .code yX0_howManyUp cX0_howManyUp 6 (some .int) :: ([.fieldLink RX0 17 "BundledLinks$End" "ports" "[LBundledLinks$Port;", .fieldLink RX0 105 "BundledLinks$Port" "up" "Z"] ++ wsX00 ++ wsX50)
def wsX0_howManyMuted : List Cond := .code yX0_howManyMuted cX0_howManyMuted 6 (some .int) :: ([.fieldLink RX0 17 "BundledLinks$End" "ports" "[LBundledLinks$Port;", .fieldLink RX0 108 "BundledLinks$Port" "muted" "Z"] ++ wsX00 ++ wsX50)
def wsX5_isOf : List Cond := .code yX5_isOf cX5_isOf 2 (some .boolean) :: ([.fieldLink RX5 12 "BundledLinks$Port" "heard" "LBundledLinks$Message;", .fieldLink RX5 57 "BundledLinks$Message" "there" "Z", .fieldLink RX5 44 "BundledLinks$Port" "chosen" "Z", .fieldLink RX5 41 "BundledLinks$Port" "how" "I"] ++ wsX50 ++ wsX30)
def wsX0_bits : List Cond := .code yX0_bits cX0_bits 4 (some .int) :: ([.fieldLink RX0 17 "BundledLinks$End" "ports" "[LBundledLinks$Port;", .methodLink RX0 111 yX5_isOf, .instanceMethod yX5_isOf, .selects RX5 yX5_isOf yX5_isOf, .initialized RX5, .code yX5_isOf cX5_isOf 2 (some .boolean), .fieldLink RX5 12 "BundledLinks$Port" "heard" "LBundledLinks$Message;", .fieldLink RX5 57 "BundledLinks$Message" "there" "Z", .fieldLink RX5 44 "BundledLinks$Port" "chosen" "Z", .fieldLink RX5 41 "BundledLinks$Port" "how" "I"] ++ wsX00 ++ wsX50 ++ wsX30)
def wsX4_init_r1 : List Cond := [Cond.methodLink RX4 3 objectInit, Cond.instanceMethod objectInit, Cond.code objectInit ⟨#[0xb1]⟩ 1 none, Cond.classLink RX4 9 RX0, Cond.instantiable RX0 4, Cond.initialized RX0, Cond.fieldLink RX4 14 "BundledLinks$Net" "zero" "LBundledLinks$End;", Cond.fieldLink RX4 20 "BundledLinks$Net" "one" "LBundledLinks$End;", Cond.methodLink RX4 11 yX0_init, Cond.instanceMethod yX0_init, Cond.code yX0_init cX0_init 3 none, Cond.methodLink RX0 3 objectInit, Cond.fieldLink RX0 9 "BundledLinks$End" "number" "I", Cond.classLink RX0 15 RX5, Cond.fieldLink RX0 17 "BundledLinks$End" "ports" "[LBundledLinks$Port;", Cond.instantiable RX5 11, Cond.initialized RX5, Cond.classLink RX0 22 RX1, Cond.fieldLink RX0 24 "BundledLinks$End" "flows" "[LBundledLinks$Flow;", Cond.instantiable RX1 2, Cond.initialized RX1, Cond.instanceMethod yX5_init, Cond.code yX5_init cX5_init 1 none, Cond.methodLink RX5 3 objectInit]
def wsX4_init_r2 : List Cond := [Cond.classLink RX5 9 RX3, Cond.instantiable RX3 5, Cond.initialized RX3, Cond.fieldLink RX5 12 "BundledLinks$Port" "heard" "LBundledLinks$Message;", Cond.fieldLink RX5 18 "BundledLinks$Port" "said" "LBundledLinks$Message;", Cond.instanceMethod yX3_init, Cond.code yX3_init cX3_init 1 none, Cond.methodLink RX3 1 objectInit, Cond.instanceMethod yX1_init, Cond.code yX1_init cX1_init 1 none, Cond.methodLink RX1 3 objectInit]
def wsX4_init : List Cond := .code yX4_init cX4_init 1 none :: ((wsX4_init_r1 ++ wsX4_init_r2) ++ wsX00 ++ wsX40 ++ wsX50 ++ wsX10 ++ wsX30)
def wsX2_init_r1 : List Cond := [Cond.methodLink RX2 3 objectInit, Cond.instanceMethod objectInit, Cond.code objectInit ⟨#[0xb1]⟩ 1 none, Cond.classLink RX2 9 RX4, Cond.fieldLink RX2 11 "BundledLinks$History" "kept" "[LBundledLinks$Net;", Cond.instantiable RX4 7, Cond.initialized RX4, Cond.instanceMethod yX4_init, Cond.code yX4_init cX4_init 1 none, Cond.methodLink RX4 3 objectInit, Cond.classLink RX4 9 RX0, Cond.instantiable RX0 4, Cond.initialized RX0, Cond.fieldLink RX4 14 "BundledLinks$Net" "zero" "LBundledLinks$End;", Cond.fieldLink RX4 20 "BundledLinks$Net" "one" "LBundledLinks$End;", Cond.methodLink RX4 11 yX0_init, Cond.instanceMethod yX0_init, Cond.code yX0_init cX0_init 3 none, Cond.methodLink RX0 3 objectInit, Cond.fieldLink RX0 9 "BundledLinks$End" "number" "I", Cond.classLink RX0 15 RX5, Cond.fieldLink RX0 17 "BundledLinks$End" "ports" "[LBundledLinks$Port;", Cond.instantiable RX5 11, Cond.initialized RX5]
def wsX2_init_r2 : List Cond := [Cond.classLink RX0 22 RX1, Cond.fieldLink RX0 24 "BundledLinks$End" "flows" "[LBundledLinks$Flow;", Cond.instantiable RX1 2, Cond.initialized RX1, Cond.instanceMethod yX5_init, Cond.code yX5_init cX5_init 1 none, Cond.methodLink RX5 3 objectInit, Cond.classLink RX5 9 RX3, Cond.instantiable RX3 5, Cond.initialized RX3, Cond.fieldLink RX5 12 "BundledLinks$Port" "heard" "LBundledLinks$Message;", Cond.fieldLink RX5 18 "BundledLinks$Port" "said" "LBundledLinks$Message;", Cond.instanceMethod yX3_init, Cond.code yX3_init cX3_init 1 none, Cond.methodLink RX3 1 objectInit, Cond.instanceMethod yX1_init, Cond.code yX1_init cX1_init 1 none, Cond.methodLink RX1 3 objectInit]
def wsX2_init : List Cond := .code yX2_init cX2_init 2 none :: ((wsX2_init_r1 ++ wsX2_init_r2) ++ wsX20 ++ wsX40 ++ wsX00 ++ wsX50 ++ wsX10 ++ wsX30)
def wsX2_clear : List Cond := .code yX2_clear cX2_clear 1 none :: ([.fieldLink RX2 18 "BundledLinks$History" "next" "I", .fieldLink RX2 22 "BundledLinks$History" "size" "I"] ++ wsX20)
def wsX4_copyFrom_r1 : List Cond := [Cond.fieldLink RX4 14 "BundledLinks$Net" "zero" "LBundledLinks$End;", Cond.fieldLink RX4 20 "BundledLinks$Net" "one" "LBundledLinks$End;", Cond.fieldLink RX4 26 "BundledLinks$Net" "links" "I", Cond.fieldLink RX4 30 "BundledLinks$Net" "most" "I", Cond.fieldLink RX4 33 "BundledLinks$Net" "wait" "I", Cond.fieldLink RX4 36 "BundledLinks$Net" "drain" "I", Cond.fieldLink RX4 39 "BundledLinks$Net" "ticks" "I", Cond.methodLink RX4 42 yX0_copyFrom, Cond.instanceMethod yX0_copyFrom, Cond.selects RX0 yX0_copyFrom yX0_copyFrom, Cond.initialized RX0, Cond.code yX0_copyFrom cX0_copyFrom 3 none, Cond.fieldLink RX0 29 "BundledLinks$End" "rank" "I", Cond.fieldLink RX0 17 "BundledLinks$End" "ports" "[LBundledLinks$Port;", Cond.fieldLink RX0 24 "BundledLinks$End" "flows" "[LBundledLinks$Flow;", Cond.methodLink RX0 36 yX5_copyFrom, Cond.instanceMethod yX5_copyFrom, Cond.selects RX5 yX5_copyFrom yX5_copyFrom, Cond.initialized RX5, Cond.code yX5_copyFrom cX5_copyFrom 2 none, Cond.fieldLink RX5 21 "BundledLinks$Port" "up" "Z", Cond.fieldLink RX5 25 "BundledLinks$Port" "muted" "Z", Cond.fieldLink RX5 28 "BundledLinks$Port" "key" "I", Cond.fieldLink RX5 32 "BundledLinks$Port" "priority" "I"]
def wsX4_copyFrom_r2 : List Cond := [Cond.fieldLink RX5 12 "BundledLinks$Port" "heard" "LBundledLinks$Message;", Cond.fieldLink RX5 18 "BundledLinks$Port" "said" "LBundledLinks$Message;", Cond.fieldLink RX5 38 "BundledLinks$Port" "age" "I", Cond.fieldLink RX5 41 "BundledLinks$Port" "how" "I", Cond.fieldLink RX5 44 "BundledLinks$Port" "chosen" "Z", Cond.fieldLink RX5 47 "BundledLinks$Port" "chosenFor" "I", Cond.fieldLink RX5 50 "BundledLinks$Port" "begun" "I", Cond.methodLink RX5 53 yX3_copyFrom, Cond.instanceMethod yX3_copyFrom, Cond.selects RX3 yX3_copyFrom yX3_copyFrom, Cond.initialized RX3, Cond.code yX3_copyFrom cX3_copyFrom 2 none, Cond.fieldLink RX3 7 "BundledLinks$Message" "there" "Z", Cond.fieldLink RX3 13 "BundledLinks$Message" "key" "I", Cond.fieldLink RX3 17 "BundledLinks$Message" "priority" "I", Cond.fieldLink RX3 20 "BundledLinks$Message" "rank" "I", Cond.fieldLink RX3 23 "BundledLinks$Message" "sync" "Z", Cond.methodLink RX0 40 yX1_copyFrom, Cond.instanceMethod yX1_copyFrom, Cond.selects RX1 yX1_copyFrom yX1_copyFrom, Cond.initialized RX1, Cond.code yX1_copyFrom cX1_copyFrom 2 none, Cond.fieldLink RX1 9 "BundledLinks$Flow" "link" "I", Cond.fieldLink RX1 15 "BundledLinks$Flow" "held" "I"]
def wsX4_copyFrom : List Cond := .code yX4_copyFrom cX4_copyFrom 2 none :: ((wsX4_copyFrom_r1 ++ wsX4_copyFrom_r2) ++ wsX40 ++ wsX00 ++ wsX50 ++ wsX30 ++ wsX10)
def wsX2_keep_r1 : List Cond := [Cond.fieldLink RX2 18 "BundledLinks$History" "next" "I", Cond.fieldLink RX2 11 "BundledLinks$History" "kept" "[LBundledLinks$Net;", Cond.fieldLink RX2 22 "BundledLinks$History" "size" "I", Cond.methodLink RX2 29 Lib.Math.min.name, Cond.static Lib.Math.min.name, Cond.initialized "java/lang/Math", Cond.code Lib.Math.min.name Lib.Math.min.code 2 (some .int), Cond.methodLink RX2 25 yX4_copyFrom, Cond.instanceMethod yX4_copyFrom, Cond.selects RX4 yX4_copyFrom yX4_copyFrom, Cond.initialized RX4, Cond.code yX4_copyFrom cX4_copyFrom 2 none, Cond.fieldLink RX4 14 "BundledLinks$Net" "zero" "LBundledLinks$End;", Cond.fieldLink RX4 20 "BundledLinks$Net" "one" "LBundledLinks$End;", Cond.fieldLink RX4 26 "BundledLinks$Net" "links" "I", Cond.fieldLink RX4 30 "BundledLinks$Net" "most" "I", Cond.fieldLink RX4 33 "BundledLinks$Net" "wait" "I", Cond.fieldLink RX4 36 "BundledLinks$Net" "drain" "I", Cond.fieldLink RX4 39 "BundledLinks$Net" "ticks" "I", Cond.methodLink RX4 42 yX0_copyFrom, Cond.instanceMethod yX0_copyFrom, Cond.selects RX0 yX0_copyFrom yX0_copyFrom, Cond.initialized RX0, Cond.code yX0_copyFrom cX0_copyFrom 3 none]
def wsX2_keep_r2 : List Cond := [Cond.fieldLink RX0 29 "BundledLinks$End" "rank" "I", Cond.fieldLink RX0 17 "BundledLinks$End" "ports" "[LBundledLinks$Port;", Cond.fieldLink RX0 24 "BundledLinks$End" "flows" "[LBundledLinks$Flow;", Cond.methodLink RX0 36 yX5_copyFrom, Cond.instanceMethod yX5_copyFrom, Cond.selects RX5 yX5_copyFrom yX5_copyFrom, Cond.initialized RX5, Cond.code yX5_copyFrom cX5_copyFrom 2 none, Cond.fieldLink RX5 21 "BundledLinks$Port" "up" "Z", Cond.fieldLink RX5 25 "BundledLinks$Port" "muted" "Z", Cond.fieldLink RX5 28 "BundledLinks$Port" "key" "I", Cond.fieldLink RX5 32 "BundledLinks$Port" "priority" "I", Cond.fieldLink RX5 12 "BundledLinks$Port" "heard" "LBundledLinks$Message;", Cond.fieldLink RX5 18 "BundledLinks$Port" "said" "LBundledLinks$Message;", Cond.fieldLink RX5 38 "BundledLinks$Port" "age" "I", Cond.fieldLink RX5 41 "BundledLinks$Port" "how" "I", Cond.fieldLink RX5 44 "BundledLinks$Port" "chosen" "Z", Cond.fieldLink RX5 47 "BundledLinks$Port" "chosenFor" "I", Cond.fieldLink RX5 50 "BundledLinks$Port" "begun" "I", Cond.methodLink RX5 53 yX3_copyFrom, Cond.instanceMethod yX3_copyFrom, Cond.selects RX3 yX3_copyFrom yX3_copyFrom, Cond.initialized RX3, Cond.code yX3_copyFrom cX3_copyFrom 2 none]
def wsX2_keep_r3 : List Cond := [Cond.fieldLink RX3 7 "BundledLinks$Message" "there" "Z", Cond.fieldLink RX3 13 "BundledLinks$Message" "key" "I", Cond.fieldLink RX3 17 "BundledLinks$Message" "priority" "I", Cond.fieldLink RX3 20 "BundledLinks$Message" "rank" "I", Cond.fieldLink RX3 23 "BundledLinks$Message" "sync" "Z", Cond.methodLink RX0 40 yX1_copyFrom, Cond.instanceMethod yX1_copyFrom, Cond.selects RX1 yX1_copyFrom yX1_copyFrom, Cond.initialized RX1, Cond.code yX1_copyFrom cX1_copyFrom 2 none, Cond.fieldLink RX1 9 "BundledLinks$Flow" "link" "I", Cond.fieldLink RX1 15 "BundledLinks$Flow" "held" "I"]
def wsX2_keep : List Cond := .code yX2_keep cX2_keep 2 none :: ((wsX2_keep_r1 ++ (wsX2_keep_r2 ++ wsX2_keep_r3)) ++ wsX20 ++ wsX40 ++ wsX00 ++ wsX50 ++ wsX30 ++ wsX10)
def wsX2_takeLatest : List Cond := .code yX2_takeLatest cX2_takeLatest 2 (some (.object "BundledLinks$Net")) :: ([.fieldLink RX2 18 "BundledLinks$History" "next" "I", .fieldLink RX2 11 "BundledLinks$History" "kept" "[LBundledLinks$Net;", .fieldLink RX2 22 "BundledLinks$History" "size" "I"] ++ wsX20)
def wsX4_clear_r1 : List Cond := [Cond.fieldLink RX4 14 "BundledLinks$Net" "zero" "LBundledLinks$End;", Cond.fieldLink RX4 20 "BundledLinks$Net" "one" "LBundledLinks$End;", Cond.fieldLink RX4 26 "BundledLinks$Net" "links" "I", Cond.fieldLink RX4 30 "BundledLinks$Net" "most" "I", Cond.fieldLink RX4 33 "BundledLinks$Net" "wait" "I", Cond.fieldLink RX4 36 "BundledLinks$Net" "drain" "I", Cond.fieldLink RX4 39 "BundledLinks$Net" "ticks" "I", Cond.methodLink RX4 23 yX0_clear, Cond.instanceMethod yX0_clear, Cond.selects RX0 yX0_clear yX0_clear, Cond.initialized RX0, Cond.code yX0_clear cX0_clear 5 none, Cond.fieldLink RX0 29 "BundledLinks$End" "rank" "I", Cond.fieldLink RX0 17 "BundledLinks$End" "ports" "[LBundledLinks$Port;", Cond.fieldLink RX0 24 "BundledLinks$End" "flows" "[LBundledLinks$Flow;", Cond.methodLink RX0 32 yX5_clear, Cond.instanceMethod yX5_clear, Cond.selects RX5 yX5_clear yX5_clear, Cond.initialized RX5, Cond.code yX5_clear cX5_clear 1 none, Cond.fieldLink RX5 21 "BundledLinks$Port" "up" "Z", Cond.fieldLink RX5 25 "BundledLinks$Port" "muted" "Z", Cond.fieldLink RX5 28 "BundledLinks$Port" "key" "I", Cond.fieldLink RX5 32 "BundledLinks$Port" "priority" "I"]
def wsX4_clear_r2 : List Cond := [Cond.fieldLink RX5 12 "BundledLinks$Port" "heard" "LBundledLinks$Message;", Cond.fieldLink RX5 18 "BundledLinks$Port" "said" "LBundledLinks$Message;", Cond.fieldLink RX5 38 "BundledLinks$Port" "age" "I", Cond.fieldLink RX5 41 "BundledLinks$Port" "how" "I", Cond.fieldLink RX5 44 "BundledLinks$Port" "chosen" "Z", Cond.fieldLink RX5 47 "BundledLinks$Port" "chosenFor" "I", Cond.fieldLink RX5 50 "BundledLinks$Port" "begun" "I", Cond.methodLink RX5 35 yX3_clear, Cond.instanceMethod yX3_clear, Cond.selects RX3 yX3_clear yX3_clear, Cond.initialized RX3, Cond.code yX3_clear cX3_clear 1 none, Cond.fieldLink RX3 7 "BundledLinks$Message" "there" "Z", Cond.fieldLink RX3 13 "BundledLinks$Message" "key" "I", Cond.fieldLink RX3 17 "BundledLinks$Message" "priority" "I", Cond.fieldLink RX3 20 "BundledLinks$Message" "rank" "I", Cond.fieldLink RX3 23 "BundledLinks$Message" "sync" "Z", Cond.methodLink RX0 35 yX1_clear, Cond.instanceMethod yX1_clear, Cond.selects RX1 yX1_clear yX1_clear, Cond.initialized RX1, Cond.code yX1_clear cX1_clear 1 none, Cond.fieldLink RX1 9 "BundledLinks$Flow" "link" "I", Cond.fieldLink RX1 15 "BundledLinks$Flow" "held" "I"]
def wsX4_clear : List Cond := .code yX4_clear cX4_clear 1 none :: ((wsX4_clear_r1 ++ wsX4_clear_r2) ++ wsX40 ++ wsX00 ++ wsX50 ++ wsX30 ++ wsX10)
def wsX4_looksLike : List Cond := .code yX4_looksLike cX4_looksLike 2 (some .boolean) :: ([.fieldLink RX4 14 "BundledLinks$Net" "zero" "LBundledLinks$End;", .fieldLink RX4 20 "BundledLinks$Net" "one" "LBundledLinks$End;", .methodLink RX4 46 yX0_looksLike, .instanceMethod yX0_looksLike, .selects RX0 yX0_looksLike yX0_looksLike, .initialized RX0, .code yX0_looksLike cX0_looksLike 3 (some .boolean), .fieldLink RX0 17 "BundledLinks$End" "ports" "[LBundledLinks$Port;", .fieldLink RX0 43 "BundledLinks$Port" "how" "I", .fieldLink RX0 24 "BundledLinks$End" "flows" "[LBundledLinks$Flow;", .fieldLink RX0 46 "BundledLinks$Flow" "link" "I"] ++ wsX40 ++ wsX00 ++ wsX50 ++ wsX10)
def wsX4_endOf : List Cond := .code yX4_endOf cX4_endOf 2 (some (.object "BundledLinks$End")) :: ([.fieldLink RX4 14 "BundledLinks$Net" "zero" "LBundledLinks$End;", .fieldLink RX4 20 "BundledLinks$Net" "one" "LBundledLinks$End;"] ++ wsX40)
def wsX4_portOf : List Cond := .code yX4_portOf cX4_portOf 4 (some (.object "BundledLinks$Port")) :: ([.fieldLink RX4 26 "BundledLinks$Net" "links" "I", .methodLink RX4 50 yX4_endOf, .instanceMethod yX4_endOf, .selects RX4 yX4_endOf yX4_endOf, .initialized RX4, .code yX4_endOf cX4_endOf 2 (some (.object "BundledLinks$End")), .fieldLink RX4 14 "BundledLinks$Net" "zero" "LBundledLinks$End;", .fieldLink RX4 20 "BundledLinks$Net" "one" "LBundledLinks$End;", .methodLink RX4 54 yX0_portAt, .instanceMethod yX0_portAt, .selects RX0 yX0_portAt yX0_portAt, .initialized RX0, .code yX0_portAt cX0_portAt 2 (some (.object "BundledLinks$Port")), .fieldLink RX0 17 "BundledLinks$End" "ports" "[LBundledLinks$Port;"] ++ wsX40 ++ wsX00)
def wsX4_flowOf : List Cond := .code yX4_flowOf cX4_flowOf 4 (some (.object "BundledLinks$Flow")) :: ([.methodLink RX4 50 yX4_endOf, .instanceMethod yX4_endOf, .selects RX4 yX4_endOf yX4_endOf, .initialized RX4, .code yX4_endOf cX4_endOf 2 (some (.object "BundledLinks$End")), .fieldLink RX4 14 "BundledLinks$Net" "zero" "LBundledLinks$End;", .fieldLink RX4 20 "BundledLinks$Net" "one" "LBundledLinks$End;", .methodLink RX4 58 yX0_flowAt, .instanceMethod yX0_flowAt, .selects RX0 yX0_flowAt yX0_flowAt, .initialized RX0, .code yX0_flowAt cX0_flowAt 2 (some (.object "BundledLinks$Flow")), .fieldLink RX0 24 "BundledLinks$End" "flows" "[LBundledLinks$Flow;"] ++ wsX40 ++ wsX00)
def wsX4_plugLink : List Cond := .code yX4_plugLink cX4_plugLink 5 none :: ([.fieldLink RX4 66 "BundledLinks$Port" "up" "Z", .methodLink RX4 62 yX4_portOf, .instanceMethod yX4_portOf, .selects RX4 yX4_portOf yX4_portOf, .initialized RX4, .code yX4_portOf cX4_portOf 4 (some (.object "BundledLinks$Port")), .fieldLink RX4 26 "BundledLinks$Net" "links" "I", .methodLink RX4 50 yX4_endOf, .instanceMethod yX4_endOf, .selects RX4 yX4_endOf yX4_endOf, .code yX4_endOf cX4_endOf 2 (some (.object "BundledLinks$End")), .fieldLink RX4 14 "BundledLinks$Net" "zero" "LBundledLinks$End;", .fieldLink RX4 20 "BundledLinks$Net" "one" "LBundledLinks$End;", .methodLink RX4 54 yX0_portAt, .instanceMethod yX0_portAt, .selects RX0 yX0_portAt yX0_portAt, .initialized RX0, .code yX0_portAt cX0_portAt 2 (some (.object "BundledLinks$Port")), .fieldLink RX0 17 "BundledLinks$End" "ports" "[LBundledLinks$Port;"] ++ wsX50 ++ wsX40 ++ wsX00)
def wsX4_setting : List Cond := .code yX4_setting cX4_setting 2 (some .int) :: ([.fieldLink RX4 14 "BundledLinks$Net" "zero" "LBundledLinks$End;", .fieldLink RX4 72 "BundledLinks$End" "rank" "I", .fieldLink RX4 20 "BundledLinks$Net" "one" "LBundledLinks$End;", .fieldLink RX4 30 "BundledLinks$Net" "most" "I"] ++ wsX40 ++ wsX00)
def wsX4_changeSetting : List Cond := .code yX4_changeSetting cX4_changeSetting 3 none :: ([.fieldLink RX4 14 "BundledLinks$Net" "zero" "LBundledLinks$End;", .fieldLink RX4 72 "BundledLinks$End" "rank" "I", .fieldLink RX4 20 "BundledLinks$Net" "one" "LBundledLinks$End;", .fieldLink RX4 30 "BundledLinks$Net" "most" "I"] ++ wsX40 ++ wsX00)
def wsX4_stepOf_r1 : List Cond := [Cond.fieldLink RX4 30 "BundledLinks$Net" "most" "I", Cond.fieldLink RX4 33 "BundledLinks$Net" "wait" "I", Cond.fieldLink RX4 36 "BundledLinks$Net" "drain" "I", Cond.methodLink RX4 81 yX0_choose, Cond.instanceMethod yX0_choose, Cond.selects RX0 yX0_choose yX0_choose, Cond.initialized RX0, Cond.code yX0_choose cX0_choose 6 none, Cond.fieldLink RX0 17 "BundledLinks$End" "ports" "[LBundledLinks$Port;", Cond.fieldLink RX0 57 "BundledLinks$Port" "chosen" "Z", Cond.methodLink RX0 61 yX0_decides, Cond.instanceMethod yX0_decides, Cond.selects RX0 yX0_decides yX0_decides, Cond.code yX0_decides cX0_decides 6 (some .boolean), Cond.fieldLink RX0 69 "BundledLinks$Port" "heard" "LBundledLinks$Message;", Cond.fieldLink RX0 72 "BundledLinks$Message" "there" "Z", Cond.fieldLink RX0 77 "BundledLinks$Message" "rank" "I", Cond.fieldLink RX0 9 "BundledLinks$End" "number" "I", Cond.fieldLink RX0 29 "BundledLinks$End" "rank" "I", Cond.methodLink RX0 65 yX0_bestOpen, Cond.instanceMethod yX0_bestOpen, Cond.selects RX0 yX0_bestOpen yX0_bestOpen, Cond.code yX0_bestOpen cX0_bestOpen 9 (some (.object "BundledLinks$Port")), Cond.methodLink RX0 78 yX5_hasPairOf]
def wsX4_stepOf_r2 : List Cond := [Cond.instanceMethod yX5_hasPairOf, Cond.selects RX5 yX5_hasPairOf yX5_hasPairOf, Cond.initialized RX5, Cond.code yX5_hasPairOf cX5_hasPairOf 2 (some .boolean), Cond.fieldLink RX5 28 "BundledLinks$Port" "key" "I", Cond.fieldLink RX5 12 "BundledLinks$Port" "heard" "LBundledLinks$Message;", Cond.fieldLink RX5 61 "BundledLinks$Message" "key" "I", Cond.methodLink RX0 82 yX5_priorityBy, Cond.instanceMethod yX5_priorityBy, Cond.selects RX5 yX5_priorityBy yX5_priorityBy, Cond.code yX5_priorityBy cX5_priorityBy 2 (some .int), Cond.fieldLink RX5 32 "BundledLinks$Port" "priority" "I", Cond.fieldLink RX5 60 "BundledLinks$Message" "priority" "I", Cond.methodLink RX4 84 yX0_judgeAndSay, Cond.instanceMethod yX0_judgeAndSay, Cond.selects RX0 yX0_judgeAndSay yX0_judgeAndSay, Cond.code yX0_judgeAndSay cX0_judgeAndSay 6 none, Cond.methodLink RX0 86 yX5_judge, Cond.instanceMethod yX5_judge, Cond.selects RX5 yX5_judge yX5_judge, Cond.code yX5_judge cX5_judge 3 none, Cond.fieldLink RX5 44 "BundledLinks$Port" "chosen" "Z", Cond.fieldLink RX5 47 "BundledLinks$Port" "chosenFor" "I", Cond.fieldLink RX5 41 "BundledLinks$Port" "how" "I"]
def wsX4_stepOf_r3 : List Cond := [Cond.fieldLink RX5 50 "BundledLinks$Port" "begun" "I", Cond.methodLink RX5 62 yX5_howNow, Cond.instanceMethod yX5_howNow, Cond.selects RX5 yX5_howNow yX5_howNow, Cond.code yX5_howNow cX5_howNow 2 (some .int), Cond.fieldLink RX5 21 "BundledLinks$Port" "up" "Z", Cond.fieldLink RX5 57 "BundledLinks$Message" "there" "Z", Cond.fieldLink RX5 66 "BundledLinks$Message" "sync" "Z", Cond.methodLink RX0 90 yX5_say, Cond.instanceMethod yX5_say, Cond.selects RX5 yX5_say yX5_say, Cond.code yX5_say cX5_say 2 none, Cond.fieldLink RX5 18 "BundledLinks$Port" "said" "LBundledLinks$Message;", Cond.fieldLink RX5 25 "BundledLinks$Port" "muted" "Z", Cond.fieldLink RX5 69 "BundledLinks$Message" "rank" "I", Cond.methodLink RX4 87 yX0_dealFlows, Cond.instanceMethod yX0_dealFlows, Cond.selects RX0 yX0_dealFlows yX0_dealFlows, Cond.code yX0_dealFlows cX0_dealFlows 4 none, Cond.fieldLink RX0 24 "BundledLinks$End" "flows" "[LBundledLinks$Flow;", Cond.methodLink RX0 93 yX0_howManySending, Cond.instanceMethod yX0_howManySending, Cond.selects RX0 yX0_howManySending yX0_howManySending, Cond.code yX0_howManySending cX0_howManySending 6 (some .int)]
def wsX4_stepOf_r4 : List Cond := [Cond.fieldLink RX0 43 "BundledLinks$Port" "how" "I", Cond.methodLink RX0 97 yX0_wantedBy, Cond.instanceMethod yX0_wantedBy, Cond.selects RX0 yX0_wantedBy yX0_wantedBy, Cond.code yX0_wantedBy cX0_wantedBy 5 (some .int), Cond.methodLink RX0 101 yX1_deal, Cond.instanceMethod yX1_deal, Cond.selects RX1 yX1_deal yX1_deal, Cond.initialized RX1, Cond.code yX1_deal cX1_deal 3 none, Cond.fieldLink RX1 15 "BundledLinks$Flow" "held" "I", Cond.fieldLink RX1 9 "BundledLinks$Flow" "link" "I"]
def wsX4_stepOf : List Cond := .code yX4_stepOf cX4_stepOf 2 none :: ((wsX4_stepOf_r1 ++ (wsX4_stepOf_r2 ++ (wsX4_stepOf_r3 ++ wsX4_stepOf_r4))) ++ wsX40 ++ wsX00 ++ wsX50 ++ wsX30 ++ wsX10)
def wsX4_step_r1 : List Cond := [Cond.fieldLink RX4 14 "BundledLinks$Net" "zero" "LBundledLinks$End;", Cond.fieldLink RX4 20 "BundledLinks$Net" "one" "LBundledLinks$End;", Cond.fieldLink RX4 39 "BundledLinks$Net" "ticks" "I", Cond.methodLink RX4 75 yX0_hearFrom, Cond.instanceMethod yX0_hearFrom, Cond.selects RX0 yX0_hearFrom yX0_hearFrom, Cond.initialized RX0, Cond.code yX0_hearFrom cX0_hearFrom 3 none, Cond.fieldLink RX0 17 "BundledLinks$End" "ports" "[LBundledLinks$Port;", Cond.fieldLink RX0 49 "BundledLinks$Port" "said" "LBundledLinks$Message;", Cond.methodLink RX0 53 yX5_hear, Cond.instanceMethod yX5_hear, Cond.selects RX5 yX5_hear yX5_hear, Cond.initialized RX5, Cond.code yX5_hear cX5_hear 2 none, Cond.fieldLink RX5 21 "BundledLinks$Port" "up" "Z", Cond.fieldLink RX5 12 "BundledLinks$Port" "heard" "LBundledLinks$Message;", Cond.fieldLink RX5 57 "BundledLinks$Message" "there" "Z", Cond.fieldLink RX5 38 "BundledLinks$Port" "age" "I", Cond.methodLink RX5 53 yX3_copyFrom, Cond.instanceMethod yX3_copyFrom, Cond.selects RX3 yX3_copyFrom yX3_copyFrom, Cond.initialized RX3, Cond.code yX3_copyFrom cX3_copyFrom 2 none]
def wsX4_step_r2 : List Cond := [Cond.fieldLink RX3 7 "BundledLinks$Message" "there" "Z", Cond.fieldLink RX3 13 "BundledLinks$Message" "key" "I", Cond.fieldLink RX3 17 "BundledLinks$Message" "priority" "I", Cond.fieldLink RX3 20 "BundledLinks$Message" "rank" "I", Cond.fieldLink RX3 23 "BundledLinks$Message" "sync" "Z", Cond.methodLink RX4 78 yX4_stepOf, Cond.instanceMethod yX4_stepOf, Cond.selects RX4 yX4_stepOf yX4_stepOf, Cond.initialized RX4, Cond.code yX4_stepOf cX4_stepOf 2 none, Cond.fieldLink RX4 30 "BundledLinks$Net" "most" "I", Cond.fieldLink RX4 33 "BundledLinks$Net" "wait" "I", Cond.fieldLink RX4 36 "BundledLinks$Net" "drain" "I", Cond.methodLink RX4 81 yX0_choose, Cond.instanceMethod yX0_choose, Cond.selects RX0 yX0_choose yX0_choose, Cond.code yX0_choose cX0_choose 6 none, Cond.fieldLink RX0 57 "BundledLinks$Port" "chosen" "Z", Cond.methodLink RX0 61 yX0_decides, Cond.instanceMethod yX0_decides, Cond.selects RX0 yX0_decides yX0_decides, Cond.code yX0_decides cX0_decides 6 (some .boolean), Cond.fieldLink RX0 69 "BundledLinks$Port" "heard" "LBundledLinks$Message;", Cond.fieldLink RX0 72 "BundledLinks$Message" "there" "Z"]
def wsX4_step_r3 : List Cond := [Cond.fieldLink RX0 77 "BundledLinks$Message" "rank" "I", Cond.fieldLink RX0 9 "BundledLinks$End" "number" "I", Cond.fieldLink RX0 29 "BundledLinks$End" "rank" "I", Cond.methodLink RX0 65 yX0_bestOpen, Cond.instanceMethod yX0_bestOpen, Cond.selects RX0 yX0_bestOpen yX0_bestOpen, Cond.code yX0_bestOpen cX0_bestOpen 9 (some (.object "BundledLinks$Port")), Cond.methodLink RX0 78 yX5_hasPairOf, Cond.instanceMethod yX5_hasPairOf, Cond.selects RX5 yX5_hasPairOf yX5_hasPairOf, Cond.code yX5_hasPairOf cX5_hasPairOf 2 (some .boolean), Cond.fieldLink RX5 28 "BundledLinks$Port" "key" "I", Cond.fieldLink RX5 61 "BundledLinks$Message" "key" "I", Cond.methodLink RX0 82 yX5_priorityBy, Cond.instanceMethod yX5_priorityBy, Cond.selects RX5 yX5_priorityBy yX5_priorityBy, Cond.code yX5_priorityBy cX5_priorityBy 2 (some .int), Cond.fieldLink RX5 32 "BundledLinks$Port" "priority" "I", Cond.fieldLink RX5 60 "BundledLinks$Message" "priority" "I", Cond.methodLink RX4 84 yX0_judgeAndSay, Cond.instanceMethod yX0_judgeAndSay, Cond.selects RX0 yX0_judgeAndSay yX0_judgeAndSay, Cond.code yX0_judgeAndSay cX0_judgeAndSay 6 none, Cond.methodLink RX0 86 yX5_judge]
def wsX4_step_r4 : List Cond := [Cond.instanceMethod yX5_judge, Cond.selects RX5 yX5_judge yX5_judge, Cond.code yX5_judge cX5_judge 3 none, Cond.fieldLink RX5 44 "BundledLinks$Port" "chosen" "Z", Cond.fieldLink RX5 47 "BundledLinks$Port" "chosenFor" "I", Cond.fieldLink RX5 41 "BundledLinks$Port" "how" "I", Cond.fieldLink RX5 50 "BundledLinks$Port" "begun" "I", Cond.methodLink RX5 62 yX5_howNow, Cond.instanceMethod yX5_howNow, Cond.selects RX5 yX5_howNow yX5_howNow, Cond.code yX5_howNow cX5_howNow 2 (some .int), Cond.fieldLink RX5 66 "BundledLinks$Message" "sync" "Z", Cond.methodLink RX0 90 yX5_say, Cond.instanceMethod yX5_say, Cond.selects RX5 yX5_say yX5_say, Cond.code yX5_say cX5_say 2 none, Cond.fieldLink RX5 18 "BundledLinks$Port" "said" "LBundledLinks$Message;", Cond.fieldLink RX5 25 "BundledLinks$Port" "muted" "Z", Cond.fieldLink RX5 69 "BundledLinks$Message" "rank" "I", Cond.methodLink RX4 87 yX0_dealFlows, Cond.instanceMethod yX0_dealFlows, Cond.selects RX0 yX0_dealFlows yX0_dealFlows, Cond.code yX0_dealFlows cX0_dealFlows 4 none, Cond.fieldLink RX0 24 "BundledLinks$End" "flows" "[LBundledLinks$Flow;"]
def wsX4_step_r5 : List Cond := [Cond.methodLink RX0 93 yX0_howManySending, Cond.instanceMethod yX0_howManySending, Cond.selects RX0 yX0_howManySending yX0_howManySending, Cond.code yX0_howManySending cX0_howManySending 6 (some .int), Cond.fieldLink RX0 43 "BundledLinks$Port" "how" "I", Cond.methodLink RX0 97 yX0_wantedBy, Cond.instanceMethod yX0_wantedBy, Cond.selects RX0 yX0_wantedBy yX0_wantedBy, Cond.code yX0_wantedBy cX0_wantedBy 5 (some .int), Cond.methodLink RX0 101 yX1_deal, Cond.instanceMethod yX1_deal, Cond.selects RX1 yX1_deal yX1_deal, Cond.initialized RX1, Cond.code yX1_deal cX1_deal 3 none, Cond.fieldLink RX1 15 "BundledLinks$Flow" "held" "I", Cond.fieldLink RX1 9 "BundledLinks$Flow" "link" "I"]
def wsX4_step : List Cond := .code yX4_step cX4_step 1 none :: ((wsX4_step_r1 ++ (wsX4_step_r2 ++ (wsX4_step_r3 ++ (wsX4_step_r4 ++ wsX4_step_r5)))) ++ wsX40 ++ wsX00 ++ wsX50 ++ wsX30 ++ wsX10)
def wsX6_letterAt : List Cond := .code yX6_letterAt cX6_letterAt 2 (some .int) :: ([.fieldLink RX6 15 "BundledLinks$Text" "size" "I", .fieldLink RX6 9 "BundledLinks$Text" "letters" "[I"] ++ wsX60)
def wsX6_number : List Cond := .code yX6_number cX6_number 3 (some .int) :: ([.methodLink RX6 19 yX6_letterAt, .instanceMethod yX6_letterAt, .selects RX6 yX6_letterAt yX6_letterAt, .initialized RX6, .code yX6_letterAt cX6_letterAt 2 (some .int), .fieldLink RX6 15 "BundledLinks$Text" "size" "I", .fieldLink RX6 9 "BundledLinks$Text" "letters" "[I"] ++ wsX60)
def wsX5_begin : List Cond := .code yX5_begin cX5_begin 3 none :: ([.fieldLink RX5 21 "BundledLinks$Port" "up" "Z", .fieldLink RX5 41 "BundledLinks$Port" "how" "I", .fieldLink RX5 28 "BundledLinks$Port" "key" "I", .fieldLink RX5 32 "BundledLinks$Port" "priority" "I"] ++ wsX50)
def wsX4_addLink_r1 : List Cond := [Cond.fieldLink RX4 14 "BundledLinks$Net" "zero" "LBundledLinks$End;", Cond.fieldLink RX4 26 "BundledLinks$Net" "links" "I", Cond.fieldLink RX4 20 "BundledLinks$Net" "one" "LBundledLinks$End;", Cond.methodLink RX4 54 yX0_portAt, Cond.instanceMethod yX0_portAt, Cond.selects RX0 yX0_portAt yX0_portAt, Cond.initialized RX0, Cond.code yX0_portAt cX0_portAt 2 (some (.object "BundledLinks$Port")), Cond.fieldLink RX0 17 "BundledLinks$End" "ports" "[LBundledLinks$Port;", Cond.methodLink RX4 110 yX6_number, Cond.instanceMethod yX6_number, Cond.selects RX6 yX6_number yX6_number, Cond.initialized RX6, Cond.code yX6_number cX6_number 3 (some .int), Cond.methodLink RX6 19 yX6_letterAt, Cond.instanceMethod yX6_letterAt, Cond.selects RX6 yX6_letterAt yX6_letterAt, Cond.code yX6_letterAt cX6_letterAt 2 (some .int), Cond.fieldLink RX6 15 "BundledLinks$Text" "size" "I", Cond.fieldLink RX6 9 "BundledLinks$Text" "letters" "[I", Cond.methodLink RX4 114 yX5_begin, Cond.instanceMethod yX5_begin, Cond.selects RX5 yX5_begin yX5_begin, Cond.initialized RX5]
def wsX4_addLink_r2 : List Cond := [Cond.code yX5_begin cX5_begin 3 none, Cond.fieldLink RX5 21 "BundledLinks$Port" "up" "Z", Cond.fieldLink RX5 41 "BundledLinks$Port" "how" "I", Cond.fieldLink RX5 28 "BundledLinks$Port" "key" "I", Cond.fieldLink RX5 32 "BundledLinks$Port" "priority" "I"]
def wsX4_addLink : List Cond := .code yX4_addLink cX4_addLink 5 none :: ((wsX4_addLink_r1 ++ wsX4_addLink_r2) ++ wsX40 ++ wsX00 ++ wsX60 ++ wsX50)
def wsX4_layItem_r1 : List Cond := [Cond.fieldLink RX4 14 "BundledLinks$Net" "zero" "LBundledLinks$End;", Cond.fieldLink RX4 72 "BundledLinks$End" "rank" "I", Cond.fieldLink RX4 20 "BundledLinks$Net" "one" "LBundledLinks$End;", Cond.fieldLink RX4 30 "BundledLinks$Net" "most" "I", Cond.fieldLink RX4 33 "BundledLinks$Net" "wait" "I", Cond.fieldLink RX4 36 "BundledLinks$Net" "drain" "I", Cond.methodLink RX4 104 yX6_letterAt, Cond.instanceMethod yX6_letterAt, Cond.selects RX6 yX6_letterAt yX6_letterAt, Cond.initialized RX6, Cond.code yX6_letterAt cX6_letterAt 2 (some .int), Cond.fieldLink RX6 15 "BundledLinks$Text" "size" "I", Cond.fieldLink RX6 9 "BundledLinks$Text" "letters" "[I", Cond.methodLink RX4 107 yX4_addLink, Cond.instanceMethod yX4_addLink, Cond.selects RX4 yX4_addLink yX4_addLink, Cond.initialized RX4, Cond.code yX4_addLink cX4_addLink 5 none, Cond.fieldLink RX4 26 "BundledLinks$Net" "links" "I", Cond.methodLink RX4 54 yX0_portAt, Cond.instanceMethod yX0_portAt, Cond.selects RX0 yX0_portAt yX0_portAt, Cond.initialized RX0, Cond.code yX0_portAt cX0_portAt 2 (some (.object "BundledLinks$Port"))]
def wsX4_layItem_r2 : List Cond := [Cond.fieldLink RX0 17 "BundledLinks$End" "ports" "[LBundledLinks$Port;", Cond.methodLink RX4 110 yX6_number, Cond.instanceMethod yX6_number, Cond.selects RX6 yX6_number yX6_number, Cond.code yX6_number cX6_number 3 (some .int), Cond.methodLink RX6 19 yX6_letterAt, Cond.methodLink RX4 114 yX5_begin, Cond.instanceMethod yX5_begin, Cond.selects RX5 yX5_begin yX5_begin, Cond.initialized RX5, Cond.code yX5_begin cX5_begin 3 none, Cond.fieldLink RX5 21 "BundledLinks$Port" "up" "Z", Cond.fieldLink RX5 41 "BundledLinks$Port" "how" "I", Cond.fieldLink RX5 28 "BundledLinks$Port" "key" "I", Cond.fieldLink RX5 32 "BundledLinks$Port" "priority" "I"]
def wsX4_layItem : List Cond := .code yX4_layItem cX4_layItem 3 none :: ((wsX4_layItem_r1 ++ wsX4_layItem_r2) ++ wsX40 ++ wsX00 ++ wsX60 ++ wsX50)
def wsX6_numbersOfItem : List Cond := .code yX6_numbersOfItem cX6_numbersOfItem 2 (some .int) :: ([.methodLink RX6 19 yX6_letterAt, .instanceMethod yX6_letterAt, .selects RX6 yX6_letterAt yX6_letterAt, .initialized RX6, .code yX6_letterAt cX6_letterAt 2 (some .int), .fieldLink RX6 15 "BundledLinks$Text" "size" "I", .fieldLink RX6 9 "BundledLinks$Text" "letters" "[I"] ++ wsX60)
def wsX6_lengthOfItem : List Cond := .code yX6_lengthOfItem cX6_lengthOfItem 2 (some .int) :: ([.methodLink RX6 30 yX6_numbersOfItem, .instanceMethod yX6_numbersOfItem, .selects RX6 yX6_numbersOfItem yX6_numbersOfItem, .initialized RX6, .code yX6_numbersOfItem cX6_numbersOfItem 2 (some .int), .methodLink RX6 19 yX6_letterAt, .instanceMethod yX6_letterAt, .selects RX6 yX6_letterAt yX6_letterAt, .code yX6_letterAt cX6_letterAt 2 (some .int), .fieldLink RX6 15 "BundledLinks$Text" "size" "I", .fieldLink RX6 9 "BundledLinks$Text" "letters" "[I"] ++ wsX60)
def wsX4_layOut_r1 : List Cond := [Cond.fieldLink RX4 91 "BundledLinks$Text" "size" "I", Cond.methodLink RX4 90 yX4_clear, Cond.instanceMethod yX4_clear, Cond.selects RX4 yX4_clear yX4_clear, Cond.initialized RX4, Cond.code yX4_clear cX4_clear 1 none, Cond.fieldLink RX4 14 "BundledLinks$Net" "zero" "LBundledLinks$End;", Cond.fieldLink RX4 20 "BundledLinks$Net" "one" "LBundledLinks$End;", Cond.fieldLink RX4 26 "BundledLinks$Net" "links" "I", Cond.fieldLink RX4 30 "BundledLinks$Net" "most" "I", Cond.fieldLink RX4 33 "BundledLinks$Net" "wait" "I", Cond.fieldLink RX4 36 "BundledLinks$Net" "drain" "I", Cond.fieldLink RX4 39 "BundledLinks$Net" "ticks" "I", Cond.methodLink RX4 23 yX0_clear, Cond.instanceMethod yX0_clear, Cond.selects RX0 yX0_clear yX0_clear, Cond.initialized RX0, Cond.code yX0_clear cX0_clear 5 none, Cond.fieldLink RX0 29 "BundledLinks$End" "rank" "I", Cond.fieldLink RX0 17 "BundledLinks$End" "ports" "[LBundledLinks$Port;", Cond.fieldLink RX0 24 "BundledLinks$End" "flows" "[LBundledLinks$Flow;", Cond.methodLink RX0 32 yX5_clear, Cond.instanceMethod yX5_clear, Cond.selects RX5 yX5_clear yX5_clear]
def wsX4_layOut_r2 : List Cond := [Cond.initialized RX5, Cond.code yX5_clear cX5_clear 1 none, Cond.fieldLink RX5 21 "BundledLinks$Port" "up" "Z", Cond.fieldLink RX5 25 "BundledLinks$Port" "muted" "Z", Cond.fieldLink RX5 28 "BundledLinks$Port" "key" "I", Cond.fieldLink RX5 32 "BundledLinks$Port" "priority" "I", Cond.fieldLink RX5 12 "BundledLinks$Port" "heard" "LBundledLinks$Message;", Cond.fieldLink RX5 18 "BundledLinks$Port" "said" "LBundledLinks$Message;", Cond.fieldLink RX5 38 "BundledLinks$Port" "age" "I", Cond.fieldLink RX5 41 "BundledLinks$Port" "how" "I", Cond.fieldLink RX5 44 "BundledLinks$Port" "chosen" "Z", Cond.fieldLink RX5 47 "BundledLinks$Port" "chosenFor" "I", Cond.fieldLink RX5 50 "BundledLinks$Port" "begun" "I", Cond.methodLink RX5 35 yX3_clear, Cond.instanceMethod yX3_clear, Cond.selects RX3 yX3_clear yX3_clear, Cond.initialized RX3, Cond.code yX3_clear cX3_clear 1 none, Cond.fieldLink RX3 7 "BundledLinks$Message" "there" "Z", Cond.fieldLink RX3 13 "BundledLinks$Message" "key" "I", Cond.fieldLink RX3 17 "BundledLinks$Message" "priority" "I", Cond.fieldLink RX3 20 "BundledLinks$Message" "rank" "I", Cond.fieldLink RX3 23 "BundledLinks$Message" "sync" "Z", Cond.methodLink RX0 35 yX1_clear]
def wsX4_layOut_r3 : List Cond := [Cond.instanceMethod yX1_clear, Cond.selects RX1 yX1_clear yX1_clear, Cond.initialized RX1, Cond.code yX1_clear cX1_clear 1 none, Cond.fieldLink RX1 9 "BundledLinks$Flow" "link" "I", Cond.fieldLink RX1 15 "BundledLinks$Flow" "held" "I", Cond.methodLink RX4 96 yX4_layItem, Cond.instanceMethod yX4_layItem, Cond.selects RX4 yX4_layItem yX4_layItem, Cond.code yX4_layItem cX4_layItem 3 none, Cond.fieldLink RX4 72 "BundledLinks$End" "rank" "I", Cond.methodLink RX4 104 yX6_letterAt, Cond.instanceMethod yX6_letterAt, Cond.selects RX6 yX6_letterAt yX6_letterAt, Cond.initialized RX6, Cond.code yX6_letterAt cX6_letterAt 2 (some .int), Cond.fieldLink RX6 15 "BundledLinks$Text" "size" "I", Cond.fieldLink RX6 9 "BundledLinks$Text" "letters" "[I", Cond.methodLink RX4 107 yX4_addLink, Cond.instanceMethod yX4_addLink, Cond.selects RX4 yX4_addLink yX4_addLink, Cond.code yX4_addLink cX4_addLink 5 none, Cond.methodLink RX4 54 yX0_portAt, Cond.instanceMethod yX0_portAt]
def wsX4_layOut_r4 : List Cond := [Cond.selects RX0 yX0_portAt yX0_portAt, Cond.code yX0_portAt cX0_portAt 2 (some (.object "BundledLinks$Port")), Cond.methodLink RX4 110 yX6_number, Cond.instanceMethod yX6_number, Cond.selects RX6 yX6_number yX6_number, Cond.code yX6_number cX6_number 3 (some .int), Cond.methodLink RX6 19 yX6_letterAt, Cond.methodLink RX4 114 yX5_begin, Cond.instanceMethod yX5_begin, Cond.selects RX5 yX5_begin yX5_begin, Cond.code yX5_begin cX5_begin 3 none, Cond.methodLink RX4 100 yX6_lengthOfItem, Cond.instanceMethod yX6_lengthOfItem, Cond.selects RX6 yX6_lengthOfItem yX6_lengthOfItem, Cond.code yX6_lengthOfItem cX6_lengthOfItem 2 (some .int), Cond.methodLink RX6 30 yX6_numbersOfItem, Cond.instanceMethod yX6_numbersOfItem, Cond.selects RX6 yX6_numbersOfItem yX6_numbersOfItem, Cond.code yX6_numbersOfItem cX6_numbersOfItem 2 (some .int)]
def wsX4_layOut : List Cond := .code yX4_layOut cX4_layOut 4 none :: ((wsX4_layOut_r1 ++ (wsX4_layOut_r2 ++ (wsX4_layOut_r3 ++ wsX4_layOut_r4))) ++ wsX60 ++ wsX40 ++ wsX00 ++ wsX50 ++ wsX30 ++ wsX10)
def wsX5_known : List Cond := .code yX5_known cX5_known 2 (some .int) :: ([.fieldLink RX5 12 "BundledLinks$Port" "heard" "LBundledLinks$Message;", .fieldLink RX5 57 "BundledLinks$Message" "there" "Z"] ++ wsX50 ++ wsX30)
def wsX5_look : List Cond := .code yX5_look cX5_look 2 (some .int) :: ([.fieldLink RX5 28 "BundledLinks$Port" "key" "I", .fieldLink RX5 32 "BundledLinks$Port" "priority" "I", .fieldLink RX5 41 "BundledLinks$Port" "how" "I", .fieldLink RX5 38 "BundledLinks$Port" "age" "I", .fieldLink RX5 12 "BundledLinks$Port" "heard" "LBundledLinks$Message;", .fieldLink RX5 61 "BundledLinks$Message" "key" "I", .fieldLink RX5 60 "BundledLinks$Message" "priority" "I", .fieldLink RX5 69 "BundledLinks$Message" "rank" "I", .fieldLink RX5 66 "BundledLinks$Message" "sync" "Z", .fieldLink RX5 44 "BundledLinks$Port" "chosen" "Z", .fieldLink RX5 47 "BundledLinks$Port" "chosenFor" "I", .fieldLink RX5 50 "BundledLinks$Port" "begun" "I", .fieldLink RX5 25 "BundledLinks$Port" "muted" "Z", .methodLink RX5 72 yX5_known, .instanceMethod yX5_known, .selects RX5 yX5_known yX5_known, .initialized RX5, .code yX5_known cX5_known 2 (some .int), .fieldLink RX5 57 "BundledLinks$Message" "there" "Z"] ++ wsX50 ++ wsX30)
def wsX6_init : List Cond := .code yX6_init cX6_init 1 none :: ([.methodLink RX6 3 objectInit, .instanceMethod objectInit, .code objectInit ⟨#[0xb1]⟩ 1 none, .arrayClass .int, .fieldLink RX6 9 "BundledLinks$Text" "letters" "[I"] ++ wsX60)
def wsX6_add : List Cond := .code yX6_add cX6_add 2 (some .boolean) :: ([.fieldLink RX6 15 "BundledLinks$Text" "size" "I", .fieldLink RX6 9 "BundledLinks$Text" "letters" "[I"] ++ wsX60)
def wsX6_clear : List Cond := .code yX6_clear cX6_clear 1 none :: ([.fieldLink RX6 15 "BundledLinks$Text" "size" "I"] ++ wsX60)
def wsX7_isFigure : List Cond := .code yX7_isFigure cX7_isFigure 1 (some .boolean) :: ([])
def wsX7_isMost : List Cond := .code yX7_isMost cX7_isMost 1 (some .boolean) :: ([])
def wsX6_isItem : List Cond := .code yX6_isItem cX6_isItem 5 (some .boolean) :: ([.methodLink RX6 30 yX6_numbersOfItem, .instanceMethod yX6_numbersOfItem, .selects RX6 yX6_numbersOfItem yX6_numbersOfItem, .initialized RX6, .code yX6_numbersOfItem cX6_numbersOfItem 2 (some .int), .methodLink RX6 19 yX6_letterAt, .instanceMethod yX6_letterAt, .selects RX6 yX6_letterAt yX6_letterAt, .code yX6_letterAt cX6_letterAt 2 (some .int), .fieldLink RX6 15 "BundledLinks$Text" "size" "I", .fieldLink RX6 9 "BundledLinks$Text" "letters" "[I", .methodLink RX6 33 yX6_number, .instanceMethod yX6_number, .selects RX6 yX6_number yX6_number, .code yX6_number cX6_number 3 (some .int), .static yX7_isFigure, .initialized RX7, .code yX7_isFigure cX7_isFigure 1 (some .boolean), .static yX7_isMost, .code yX7_isMost cX7_isMost 1 (some .boolean)] ++ wsX60)
def wsX6_firstFault_r1 : List Cond := [Cond.fieldLink RX6 15 "BundledLinks$Text" "size" "I", Cond.methodLink RX6 19 yX6_letterAt, Cond.instanceMethod yX6_letterAt, Cond.selects RX6 yX6_letterAt yX6_letterAt, Cond.initialized RX6, Cond.code yX6_letterAt cX6_letterAt 2 (some .int), Cond.fieldLink RX6 9 "BundledLinks$Text" "letters" "[I", Cond.methodLink RX6 23 yX6_isItem, Cond.instanceMethod yX6_isItem, Cond.selects RX6 yX6_isItem yX6_isItem, Cond.code yX6_isItem cX6_isItem 5 (some .boolean), Cond.methodLink RX6 30 yX6_numbersOfItem, Cond.instanceMethod yX6_numbersOfItem, Cond.selects RX6 yX6_numbersOfItem yX6_numbersOfItem, Cond.code yX6_numbersOfItem cX6_numbersOfItem 2 (some .int), Cond.methodLink RX6 33 yX6_number, Cond.instanceMethod yX6_number, Cond.selects RX6 yX6_number yX6_number, Cond.code yX6_number cX6_number 3 (some .int), Cond.static yX7_isFigure, Cond.initialized RX7, Cond.code yX7_isFigure cX7_isFigure 1 (some .boolean), Cond.static yX7_isMost, Cond.code yX7_isMost cX7_isMost 1 (some .boolean)]
def wsX6_firstFault_r2 : List Cond := [Cond.methodLink RX6 27 yX6_lengthOfItem, Cond.instanceMethod yX6_lengthOfItem, Cond.selects RX6 yX6_lengthOfItem yX6_lengthOfItem, Cond.code yX6_lengthOfItem cX6_lengthOfItem 2 (some .int)]
def wsX6_firstFault : List Cond := .code yX6_firstFault cX6_firstFault 4 (some .int) :: ((wsX6_firstFault_r1 ++ wsX6_firstFault_r2) ++ wsX60)
def wsX6_tellsLink : List Cond := .code yX6_tellsLink cX6_tellsLink 2 (some .boolean) :: ([.fieldLink RX6 15 "BundledLinks$Text" "size" "I", .methodLink RX6 19 yX6_letterAt, .instanceMethod yX6_letterAt, .selects RX6 yX6_letterAt yX6_letterAt, .initialized RX6, .code yX6_letterAt cX6_letterAt 2 (some .int), .fieldLink RX6 9 "BundledLinks$Text" "letters" "[I"] ++ wsX60)
def wsJ0_coder_7d493 : List Cond := .code yJ0_coder_7d493 cJ0_coder_7d493 1 (some .byte) :: ([.fieldLink RJ0 38 "java/lang/String" "COMPACT_STRINGS" "Z", .fieldLink RJ0 15 "java/lang/String" "coder" "B"])
def wsJ0_length_8abf5 : List Cond := .code yJ0_length_8abf5 cJ0_length_8abf5 1 (some .int) :: ([.fieldLink RJ0 9 "java/lang/String" "value" "[B", .methodLink RJ0 335 yJ0_coder_7d493, .instanceMethod yJ0_coder_7d493, .selects RJ0 yJ0_coder_7d493 yJ0_coder_7d493, .initialized RJ0, .code yJ0_coder_7d493 cJ0_coder_7d493 1 (some .byte), .fieldLink RJ0 38 "java/lang/String" "COMPACT_STRINGS" "Z", .fieldLink RJ0 15 "java/lang/String" "coder" "B"])
def wsJ0_isLatin1_aae02 : List Cond := .code yJ0_isLatin1_aae02 cJ0_isLatin1_aae02 1 (some .boolean) :: ([.fieldLink RJ0 38 "java/lang/String" "COMPACT_STRINGS" "Z", .fieldLink RJ0 15 "java/lang/String" "coder" "B"])
def wsJ3_checkIndex_8e157 : List Cond := .code yJ3_checkIndex_8e157 cJ3_checkIndex_8e157 3 (some .int) :: ([])
def wsJ0_checkIndex_df160 : List Cond := .code yJ0_checkIndex_df160 cJ0_checkIndex_df160 2 none :: ([.fieldLink RJ0 1053 "jdk/internal/util/Preconditions" "SIOOBE_FORMATTER" "Ljava/util/function/BiFunction;", .methodLink RJ0 1059 yJ3_checkIndex_8e157, .static yJ3_checkIndex_8e157, .initialized RJ3, .code yJ3_checkIndex_8e157 cJ3_checkIndex_8e157 3 (some .int)])
def wsJ1_charAt_3b067 : List Cond := .code yJ1_charAt_3b067 cJ1_charAt_3b067 2 (some .char) :: ([.methodLink RJ1 9 yJ0_checkIndex_df160, .static yJ0_checkIndex_df160, .initialized RJ0, .code yJ0_checkIndex_df160 cJ0_checkIndex_df160 2 none, .fieldLink RJ0 1053 "jdk/internal/util/Preconditions" "SIOOBE_FORMATTER" "Ljava/util/function/BiFunction;", .methodLink RJ0 1059 yJ3_checkIndex_8e157, .static yJ3_checkIndex_8e157, .initialized RJ3, .code yJ3_checkIndex_8e157 cJ3_checkIndex_8e157 3 (some .int)])
def wsJ2_length_9d52b : List Cond := .code yJ2_length_9d52b cJ2_length_9d52b 1 (some .int) :: ([])
def wsJ2_checkIndex_2214a : List Cond := .code yJ2_checkIndex_2214a cJ2_checkIndex_2214a 2 none :: ([.methodLink RJ2 48 yJ2_length_9d52b, .static yJ2_length_9d52b, .initialized RJ2, .code yJ2_length_9d52b cJ2_length_9d52b 1 (some .int), .methodLink RJ2 414 yJ0_checkIndex_df160, .static yJ0_checkIndex_df160, .initialized RJ0, .code yJ0_checkIndex_df160 cJ0_checkIndex_df160 2 none, .fieldLink RJ0 1053 "jdk/internal/util/Preconditions" "SIOOBE_FORMATTER" "Ljava/util/function/BiFunction;", .methodLink RJ0 1059 yJ3_checkIndex_8e157, .static yJ3_checkIndex_8e157, .initialized RJ3, .code yJ3_checkIndex_8e157 cJ3_checkIndex_8e157 3 (some .int)])
def wsJ2_getChar_3b067 : List Cond := .code yJ2_getChar_3b067 cJ2_getChar_3b067 2 (some .char) :: ([.fieldLink RJ2 44 "java/lang/StringUTF16" "$assertionsDisabled" "Z", .fieldLink RJ2 59 "java/lang/StringUTF16" "HI_BYTE_SHIFT" "I", .fieldLink RJ2 63 "java/lang/StringUTF16" "LO_BYTE_SHIFT" "I", .methodLink RJ2 48 yJ2_length_9d52b, .static yJ2_length_9d52b, .initialized RJ2, .code yJ2_length_9d52b cJ2_length_9d52b 1 (some .int)])
def wsJ2_charAt_3b067 : List Cond := .code yJ2_charAt_3b067 cJ2_charAt_3b067 2 (some .char) :: ([.methodLink RJ2 67 yJ2_checkIndex_2214a, .static yJ2_checkIndex_2214a, .initialized RJ2, .code yJ2_checkIndex_2214a cJ2_checkIndex_2214a 2 none, .methodLink RJ2 48 yJ2_length_9d52b, .static yJ2_length_9d52b, .code yJ2_length_9d52b cJ2_length_9d52b 1 (some .int), .methodLink RJ2 414 yJ0_checkIndex_df160, .static yJ0_checkIndex_df160, .initialized RJ0, .code yJ0_checkIndex_df160 cJ0_checkIndex_df160 2 none, .fieldLink RJ0 1053 "jdk/internal/util/Preconditions" "SIOOBE_FORMATTER" "Ljava/util/function/BiFunction;", .methodLink RJ0 1059 yJ3_checkIndex_8e157, .static yJ3_checkIndex_8e157, .initialized RJ3, .code yJ3_checkIndex_8e157 cJ3_checkIndex_8e157 3 (some .int), .methodLink RJ2 71 yJ2_getChar_3b067, .static yJ2_getChar_3b067, .code yJ2_getChar_3b067 cJ2_getChar_3b067 2 (some .char), .fieldLink RJ2 44 "java/lang/StringUTF16" "$assertionsDisabled" "Z", .fieldLink RJ2 59 "java/lang/StringUTF16" "HI_BYTE_SHIFT" "I", .fieldLink RJ2 63 "java/lang/StringUTF16" "LO_BYTE_SHIFT" "I"])
def wsJ0_charAt_5068e_r1 : List Cond := [Cond.fieldLink RJ0 9 "java/lang/String" "value" "[B", Cond.methodLink RJ0 492 yJ0_isLatin1_aae02, Cond.instanceMethod yJ0_isLatin1_aae02, Cond.selects RJ0 yJ0_isLatin1_aae02 yJ0_isLatin1_aae02, Cond.initialized RJ0, Cond.code yJ0_isLatin1_aae02 cJ0_isLatin1_aae02 1 (some .boolean), Cond.fieldLink RJ0 38 "java/lang/String" "COMPACT_STRINGS" "Z", Cond.fieldLink RJ0 15 "java/lang/String" "coder" "B", Cond.methodLink RJ0 495 yJ1_charAt_3b067, Cond.static yJ1_charAt_3b067, Cond.initialized RJ1, Cond.code yJ1_charAt_3b067 cJ1_charAt_3b067 2 (some .char), Cond.methodLink RJ1 9 yJ0_checkIndex_df160, Cond.static yJ0_checkIndex_df160, Cond.code yJ0_checkIndex_df160 cJ0_checkIndex_df160 2 none, Cond.fieldLink RJ0 1053 "jdk/internal/util/Preconditions" "SIOOBE_FORMATTER" "Ljava/util/function/BiFunction;", Cond.methodLink RJ0 1059 yJ3_checkIndex_8e157, Cond.static yJ3_checkIndex_8e157, Cond.initialized RJ3, Cond.code yJ3_checkIndex_8e157 cJ3_checkIndex_8e157 3 (some .int), Cond.methodLink RJ0 498 yJ2_charAt_3b067, Cond.static yJ2_charAt_3b067, Cond.initialized RJ2, Cond.code yJ2_charAt_3b067 cJ2_charAt_3b067 2 (some .char)]
def wsJ0_charAt_5068e_r2 : List Cond := [Cond.methodLink RJ2 67 yJ2_checkIndex_2214a, Cond.static yJ2_checkIndex_2214a, Cond.code yJ2_checkIndex_2214a cJ2_checkIndex_2214a 2 none, Cond.methodLink RJ2 48 yJ2_length_9d52b, Cond.static yJ2_length_9d52b, Cond.code yJ2_length_9d52b cJ2_length_9d52b 1 (some .int), Cond.methodLink RJ2 414 yJ0_checkIndex_df160, Cond.methodLink RJ2 71 yJ2_getChar_3b067, Cond.static yJ2_getChar_3b067, Cond.code yJ2_getChar_3b067 cJ2_getChar_3b067 2 (some .char), Cond.fieldLink RJ2 44 "java/lang/StringUTF16" "$assertionsDisabled" "Z", Cond.fieldLink RJ2 59 "java/lang/StringUTF16" "HI_BYTE_SHIFT" "I", Cond.fieldLink RJ2 63 "java/lang/StringUTF16" "LO_BYTE_SHIFT" "I"]
def wsJ0_charAt_5068e : List Cond := .code yJ0_charAt_5068e cJ0_charAt_5068e 2 (some .char) :: ((wsJ0_charAt_5068e_r1 ++ wsJ0_charAt_5068e_r2))
def wsX7_init_r1 : List Cond := [Cond.methodLink RX7 1 objectInit, Cond.instanceMethod objectInit, Cond.code objectInit ⟨#[0xb1]⟩ 1 none, Cond.classLink RX7 7 RX6, Cond.instantiable RX6 2, Cond.initialized RX6, Cond.fieldLink RX7 10 "BundledLinks" "text" "LBundledLinks$Text;", Cond.classLink RX7 16 RX4, Cond.instantiable RX4 7, Cond.initialized RX4, Cond.fieldLink RX7 19 "BundledLinks" "net" "LBundledLinks$Net;", Cond.classLink RX7 23 RX2, Cond.instantiable RX2 3, Cond.initialized RX2, Cond.fieldLink RX7 26 "BundledLinks" "history" "LBundledLinks$History;", Cond.arrayClass .int, Cond.fieldLink RX7 30 "BundledLinks" "went" "[I", Cond.fieldLink RX7 34 "BundledLinks" "trial" "LBundledLinks$Net;", Cond.fieldLink RX7 37 "BundledLinks" "mark" "LBundledLinks$Net;", Cond.instanceMethod yX6_init, Cond.code yX6_init cX6_init 1 none, Cond.methodLink RX6 3 objectInit, Cond.fieldLink RX6 9 "BundledLinks$Text" "letters" "[I", Cond.instanceMethod yX4_init]
def wsX7_init_r2 : List Cond := [Cond.code yX4_init cX4_init 1 none, Cond.methodLink RX4 3 objectInit, Cond.classLink RX4 9 RX0, Cond.instantiable RX0 4, Cond.initialized RX0, Cond.fieldLink RX4 14 "BundledLinks$Net" "zero" "LBundledLinks$End;", Cond.fieldLink RX4 20 "BundledLinks$Net" "one" "LBundledLinks$End;", Cond.methodLink RX4 11 yX0_init, Cond.instanceMethod yX0_init, Cond.code yX0_init cX0_init 3 none, Cond.methodLink RX0 3 objectInit, Cond.fieldLink RX0 9 "BundledLinks$End" "number" "I", Cond.classLink RX0 15 RX5, Cond.fieldLink RX0 17 "BundledLinks$End" "ports" "[LBundledLinks$Port;", Cond.instantiable RX5 11, Cond.initialized RX5, Cond.classLink RX0 22 RX1, Cond.fieldLink RX0 24 "BundledLinks$End" "flows" "[LBundledLinks$Flow;", Cond.instantiable RX1 2, Cond.initialized RX1, Cond.instanceMethod yX5_init, Cond.code yX5_init cX5_init 1 none, Cond.methodLink RX5 3 objectInit, Cond.classLink RX5 9 RX3]
def wsX7_init_r3 : List Cond := [Cond.instantiable RX3 5, Cond.initialized RX3, Cond.fieldLink RX5 12 "BundledLinks$Port" "heard" "LBundledLinks$Message;", Cond.fieldLink RX5 18 "BundledLinks$Port" "said" "LBundledLinks$Message;", Cond.instanceMethod yX3_init, Cond.code yX3_init cX3_init 1 none, Cond.methodLink RX3 1 objectInit, Cond.instanceMethod yX1_init, Cond.code yX1_init cX1_init 1 none, Cond.methodLink RX1 3 objectInit, Cond.methodLink RX7 25 yX2_init, Cond.instanceMethod yX2_init, Cond.code yX2_init cX2_init 2 none, Cond.methodLink RX2 3 objectInit, Cond.classLink RX2 9 RX4, Cond.fieldLink RX2 11 "BundledLinks$History" "kept" "[LBundledLinks$Net;", Cond.methodLink RX7 42 yJ0_length_8abf5, Cond.instanceMethod yJ0_length_8abf5, Cond.selects RJ0 yJ0_length_8abf5 yJ0_length_8abf5, Cond.initialized RJ0, Cond.code yJ0_length_8abf5 cJ0_length_8abf5 1 (some .int), Cond.fieldLink RJ0 9 "java/lang/String" "value" "[B", Cond.methodLink RJ0 335 yJ0_coder_7d493, Cond.instanceMethod yJ0_coder_7d493]
def wsX7_init_r4 : List Cond := [Cond.selects RJ0 yJ0_coder_7d493 yJ0_coder_7d493, Cond.code yJ0_coder_7d493 cJ0_coder_7d493 1 (some .byte), Cond.fieldLink RJ0 38 "java/lang/String" "COMPACT_STRINGS" "Z", Cond.fieldLink RJ0 15 "java/lang/String" "coder" "B", Cond.methodLink RX7 48 yJ0_charAt_5068e, Cond.instanceMethod yJ0_charAt_5068e, Cond.selects RJ0 yJ0_charAt_5068e yJ0_charAt_5068e, Cond.code yJ0_charAt_5068e cJ0_charAt_5068e 2 (some .char), Cond.methodLink RJ0 492 yJ0_isLatin1_aae02, Cond.instanceMethod yJ0_isLatin1_aae02, Cond.selects RJ0 yJ0_isLatin1_aae02 yJ0_isLatin1_aae02, Cond.code yJ0_isLatin1_aae02 cJ0_isLatin1_aae02 1 (some .boolean), Cond.methodLink RJ0 495 yJ1_charAt_3b067, Cond.static yJ1_charAt_3b067, Cond.initialized RJ1, Cond.code yJ1_charAt_3b067 cJ1_charAt_3b067 2 (some .char), Cond.methodLink RJ1 9 yJ0_checkIndex_df160, Cond.static yJ0_checkIndex_df160, Cond.code yJ0_checkIndex_df160 cJ0_checkIndex_df160 2 none, Cond.fieldLink RJ0 1053 "jdk/internal/util/Preconditions" "SIOOBE_FORMATTER" "Ljava/util/function/BiFunction;", Cond.methodLink RJ0 1059 yJ3_checkIndex_8e157, Cond.static yJ3_checkIndex_8e157, Cond.initialized RJ3, Cond.code yJ3_checkIndex_8e157 cJ3_checkIndex_8e157 3 (some .int)]
def wsX7_init_r5 : List Cond := [Cond.methodLink RJ0 498 yJ2_charAt_3b067, Cond.static yJ2_charAt_3b067, Cond.initialized RJ2, Cond.code yJ2_charAt_3b067 cJ2_charAt_3b067 2 (some .char), Cond.methodLink RJ2 67 yJ2_checkIndex_2214a, Cond.static yJ2_checkIndex_2214a, Cond.code yJ2_checkIndex_2214a cJ2_checkIndex_2214a 2 none, Cond.methodLink RJ2 48 yJ2_length_9d52b, Cond.static yJ2_length_9d52b, Cond.code yJ2_length_9d52b cJ2_length_9d52b 1 (some .int), Cond.methodLink RJ2 414 yJ0_checkIndex_df160, Cond.methodLink RJ2 71 yJ2_getChar_3b067, Cond.static yJ2_getChar_3b067, Cond.code yJ2_getChar_3b067 cJ2_getChar_3b067 2 (some .char), Cond.fieldLink RJ2 44 "java/lang/StringUTF16" "$assertionsDisabled" "Z", Cond.fieldLink RJ2 59 "java/lang/StringUTF16" "HI_BYTE_SHIFT" "I", Cond.fieldLink RJ2 63 "java/lang/StringUTF16" "LO_BYTE_SHIFT" "I", Cond.methodLink RX7 52 yX6_add, Cond.instanceMethod yX6_add, Cond.selects RX6 yX6_add yX6_add, Cond.code yX6_add cX6_add 2 (some .boolean), Cond.fieldLink RX6 15 "BundledLinks$Text" "size" "I", Cond.methodLink RX7 56 yX4_layOut, Cond.instanceMethod yX4_layOut]
def wsX7_init_r6 : List Cond := [Cond.selects RX4 yX4_layOut yX4_layOut, Cond.code yX4_layOut cX4_layOut 4 none, Cond.fieldLink RX4 91 "BundledLinks$Text" "size" "I", Cond.methodLink RX4 90 yX4_clear, Cond.instanceMethod yX4_clear, Cond.selects RX4 yX4_clear yX4_clear, Cond.code yX4_clear cX4_clear 1 none, Cond.fieldLink RX4 26 "BundledLinks$Net" "links" "I", Cond.fieldLink RX4 30 "BundledLinks$Net" "most" "I", Cond.fieldLink RX4 33 "BundledLinks$Net" "wait" "I", Cond.fieldLink RX4 36 "BundledLinks$Net" "drain" "I", Cond.fieldLink RX4 39 "BundledLinks$Net" "ticks" "I", Cond.methodLink RX4 23 yX0_clear, Cond.instanceMethod yX0_clear, Cond.selects RX0 yX0_clear yX0_clear, Cond.code yX0_clear cX0_clear 5 none, Cond.fieldLink RX0 29 "BundledLinks$End" "rank" "I", Cond.methodLink RX0 32 yX5_clear, Cond.instanceMethod yX5_clear, Cond.selects RX5 yX5_clear yX5_clear, Cond.code yX5_clear cX5_clear 1 none, Cond.fieldLink RX5 21 "BundledLinks$Port" "up" "Z", Cond.fieldLink RX5 25 "BundledLinks$Port" "muted" "Z", Cond.fieldLink RX5 28 "BundledLinks$Port" "key" "I"]
def wsX7_init_r7 : List Cond := [Cond.fieldLink RX5 32 "BundledLinks$Port" "priority" "I", Cond.fieldLink RX5 38 "BundledLinks$Port" "age" "I", Cond.fieldLink RX5 41 "BundledLinks$Port" "how" "I", Cond.fieldLink RX5 44 "BundledLinks$Port" "chosen" "Z", Cond.fieldLink RX5 47 "BundledLinks$Port" "chosenFor" "I", Cond.fieldLink RX5 50 "BundledLinks$Port" "begun" "I", Cond.methodLink RX5 35 yX3_clear, Cond.instanceMethod yX3_clear, Cond.selects RX3 yX3_clear yX3_clear, Cond.code yX3_clear cX3_clear 1 none, Cond.fieldLink RX3 7 "BundledLinks$Message" "there" "Z", Cond.fieldLink RX3 13 "BundledLinks$Message" "key" "I", Cond.fieldLink RX3 17 "BundledLinks$Message" "priority" "I", Cond.fieldLink RX3 20 "BundledLinks$Message" "rank" "I", Cond.fieldLink RX3 23 "BundledLinks$Message" "sync" "Z", Cond.methodLink RX0 35 yX1_clear, Cond.instanceMethod yX1_clear, Cond.selects RX1 yX1_clear yX1_clear, Cond.code yX1_clear cX1_clear 1 none, Cond.fieldLink RX1 9 "BundledLinks$Flow" "link" "I", Cond.fieldLink RX1 15 "BundledLinks$Flow" "held" "I", Cond.methodLink RX4 96 yX4_layItem, Cond.instanceMethod yX4_layItem, Cond.selects RX4 yX4_layItem yX4_layItem]
def wsX7_init_r8 : List Cond := [Cond.code yX4_layItem cX4_layItem 3 none, Cond.fieldLink RX4 72 "BundledLinks$End" "rank" "I", Cond.methodLink RX4 104 yX6_letterAt, Cond.instanceMethod yX6_letterAt, Cond.selects RX6 yX6_letterAt yX6_letterAt, Cond.code yX6_letterAt cX6_letterAt 2 (some .int), Cond.methodLink RX4 107 yX4_addLink, Cond.instanceMethod yX4_addLink, Cond.selects RX4 yX4_addLink yX4_addLink, Cond.code yX4_addLink cX4_addLink 5 none, Cond.methodLink RX4 54 yX0_portAt, Cond.instanceMethod yX0_portAt, Cond.selects RX0 yX0_portAt yX0_portAt, Cond.code yX0_portAt cX0_portAt 2 (some (.object "BundledLinks$Port")), Cond.methodLink RX4 110 yX6_number, Cond.instanceMethod yX6_number, Cond.selects RX6 yX6_number yX6_number, Cond.code yX6_number cX6_number 3 (some .int), Cond.methodLink RX6 19 yX6_letterAt, Cond.methodLink RX4 114 yX5_begin, Cond.instanceMethod yX5_begin, Cond.selects RX5 yX5_begin yX5_begin, Cond.code yX5_begin cX5_begin 3 none, Cond.methodLink RX4 100 yX6_lengthOfItem]
def wsX7_init_r9 : List Cond := [Cond.instanceMethod yX6_lengthOfItem, Cond.selects RX6 yX6_lengthOfItem yX6_lengthOfItem, Cond.code yX6_lengthOfItem cX6_lengthOfItem 2 (some .int), Cond.methodLink RX6 30 yX6_numbersOfItem, Cond.instanceMethod yX6_numbersOfItem, Cond.selects RX6 yX6_numbersOfItem yX6_numbersOfItem, Cond.code yX6_numbersOfItem cX6_numbersOfItem 2 (some .int), Cond.methodLink RX7 60 yX6_clear, Cond.instanceMethod yX6_clear, Cond.selects RX6 yX6_clear yX6_clear, Cond.code yX6_clear cX6_clear 1 none]
def wsX7_init : List Cond := .code yX7_init cX7_init 2 none :: ((wsX7_init_r1 ++ (wsX7_init_r2 ++ (wsX7_init_r3 ++ (wsX7_init_r4 ++ (wsX7_init_r5 ++ (wsX7_init_r6 ++ (wsX7_init_r7 ++ (wsX7_init_r8 ++ wsX7_init_r9)))))))) ++ wsX60 ++ wsX70 ++ wsX40 ++ wsX20 ++ wsX00 ++ wsX50 ++ wsX10 ++ wsX30)
def wsX7_write : List Cond := .code yX7_write cX7_write 2 (some .int) :: ([.fieldLink RX7 10 "BundledLinks" "text" "LBundledLinks$Text;", .fieldLink RX7 63 "BundledLinks$Text" "size" "I", .methodLink RX7 52 yX6_add, .instanceMethod yX6_add, .selects RX6 yX6_add yX6_add, .initialized RX6, .code yX6_add cX6_add 2 (some .boolean), .fieldLink RX6 15 "BundledLinks$Text" "size" "I", .fieldLink RX6 9 "BundledLinks$Text" "letters" "[I"] ++ wsX70 ++ wsX60)
def wsX7_wipe : List Cond := .code yX7_wipe cX7_wipe 2 (some .int) :: ([.fieldLink RX7 10 "BundledLinks" "text" "LBundledLinks$Text;", .fieldLink RX7 63 "BundledLinks$Text" "size" "I", .methodLink RX7 60 yX6_clear, .instanceMethod yX6_clear, .selects RX6 yX6_clear yX6_clear, .initialized RX6, .code yX6_clear cX6_clear 1 none, .fieldLink RX6 15 "BundledLinks$Text" "size" "I"] ++ wsX70 ++ wsX60)
def wsX7_fault_r1 : List Cond := [Cond.fieldLink RX7 10 "BundledLinks" "text" "LBundledLinks$Text;", Cond.methodLink RX7 67 yX6_firstFault, Cond.instanceMethod yX6_firstFault, Cond.selects RX6 yX6_firstFault yX6_firstFault, Cond.initialized RX6, Cond.code yX6_firstFault cX6_firstFault 4 (some .int), Cond.fieldLink RX6 15 "BundledLinks$Text" "size" "I", Cond.methodLink RX6 19 yX6_letterAt, Cond.instanceMethod yX6_letterAt, Cond.selects RX6 yX6_letterAt yX6_letterAt, Cond.code yX6_letterAt cX6_letterAt 2 (some .int), Cond.fieldLink RX6 9 "BundledLinks$Text" "letters" "[I", Cond.methodLink RX6 23 yX6_isItem, Cond.instanceMethod yX6_isItem, Cond.selects RX6 yX6_isItem yX6_isItem, Cond.code yX6_isItem cX6_isItem 5 (some .boolean), Cond.methodLink RX6 30 yX6_numbersOfItem, Cond.instanceMethod yX6_numbersOfItem, Cond.selects RX6 yX6_numbersOfItem yX6_numbersOfItem, Cond.code yX6_numbersOfItem cX6_numbersOfItem 2 (some .int), Cond.methodLink RX6 33 yX6_number, Cond.instanceMethod yX6_number, Cond.selects RX6 yX6_number yX6_number, Cond.code yX6_number cX6_number 3 (some .int)]
def wsX7_fault_r2 : List Cond := [Cond.static yX7_isFigure, Cond.initialized RX7, Cond.code yX7_isFigure cX7_isFigure 1 (some .boolean), Cond.static yX7_isMost, Cond.code yX7_isMost cX7_isMost 1 (some .boolean), Cond.methodLink RX6 27 yX6_lengthOfItem, Cond.instanceMethod yX6_lengthOfItem, Cond.selects RX6 yX6_lengthOfItem yX6_lengthOfItem, Cond.code yX6_lengthOfItem cX6_lengthOfItem 2 (some .int)]
def wsX7_fault : List Cond := .code yX7_fault cX7_fault 1 (some .int) :: ((wsX7_fault_r1 ++ wsX7_fault_r2) ++ wsX70 ++ wsX60)
def wsX7_lay_r1 : List Cond := [Cond.fieldLink RX7 10 "BundledLinks" "text" "LBundledLinks$Text;", Cond.fieldLink RX7 19 "BundledLinks" "net" "LBundledLinks$Net;", Cond.fieldLink RX7 26 "BundledLinks" "history" "LBundledLinks$History;", Cond.fieldLink RX7 30 "BundledLinks" "went" "[I", Cond.fieldLink RX7 75 "BundledLinks$Net" "links" "I", Cond.methodLink RX7 67 yX6_firstFault, Cond.instanceMethod yX6_firstFault, Cond.selects RX6 yX6_firstFault yX6_firstFault, Cond.initialized RX6, Cond.code yX6_firstFault cX6_firstFault 4 (some .int), Cond.fieldLink RX6 15 "BundledLinks$Text" "size" "I", Cond.methodLink RX6 19 yX6_letterAt, Cond.instanceMethod yX6_letterAt, Cond.selects RX6 yX6_letterAt yX6_letterAt, Cond.code yX6_letterAt cX6_letterAt 2 (some .int), Cond.fieldLink RX6 9 "BundledLinks$Text" "letters" "[I", Cond.methodLink RX6 23 yX6_isItem, Cond.instanceMethod yX6_isItem, Cond.selects RX6 yX6_isItem yX6_isItem, Cond.code yX6_isItem cX6_isItem 5 (some .boolean), Cond.methodLink RX6 30 yX6_numbersOfItem, Cond.instanceMethod yX6_numbersOfItem, Cond.selects RX6 yX6_numbersOfItem yX6_numbersOfItem, Cond.code yX6_numbersOfItem cX6_numbersOfItem 2 (some .int)]
def wsX7_lay_r2 : List Cond := [Cond.methodLink RX6 33 yX6_number, Cond.instanceMethod yX6_number, Cond.selects RX6 yX6_number yX6_number, Cond.code yX6_number cX6_number 3 (some .int), Cond.static yX7_isFigure, Cond.initialized RX7, Cond.code yX7_isFigure cX7_isFigure 1 (some .boolean), Cond.static yX7_isMost, Cond.code yX7_isMost cX7_isMost 1 (some .boolean), Cond.methodLink RX6 27 yX6_lengthOfItem, Cond.instanceMethod yX6_lengthOfItem, Cond.selects RX6 yX6_lengthOfItem yX6_lengthOfItem, Cond.code yX6_lengthOfItem cX6_lengthOfItem 2 (some .int), Cond.methodLink RX7 70 yX6_tellsLink, Cond.instanceMethod yX6_tellsLink, Cond.selects RX6 yX6_tellsLink yX6_tellsLink, Cond.code yX6_tellsLink cX6_tellsLink 2 (some .boolean), Cond.methodLink RX7 56 yX4_layOut, Cond.instanceMethod yX4_layOut, Cond.selects RX4 yX4_layOut yX4_layOut, Cond.initialized RX4, Cond.code yX4_layOut cX4_layOut 4 none, Cond.fieldLink RX4 91 "BundledLinks$Text" "size" "I", Cond.methodLink RX4 90 yX4_clear]
def wsX7_lay_r3 : List Cond := [Cond.instanceMethod yX4_clear, Cond.selects RX4 yX4_clear yX4_clear, Cond.code yX4_clear cX4_clear 1 none, Cond.fieldLink RX4 14 "BundledLinks$Net" "zero" "LBundledLinks$End;", Cond.fieldLink RX4 20 "BundledLinks$Net" "one" "LBundledLinks$End;", Cond.fieldLink RX4 26 "BundledLinks$Net" "links" "I", Cond.fieldLink RX4 30 "BundledLinks$Net" "most" "I", Cond.fieldLink RX4 33 "BundledLinks$Net" "wait" "I", Cond.fieldLink RX4 36 "BundledLinks$Net" "drain" "I", Cond.fieldLink RX4 39 "BundledLinks$Net" "ticks" "I", Cond.methodLink RX4 23 yX0_clear, Cond.instanceMethod yX0_clear, Cond.selects RX0 yX0_clear yX0_clear, Cond.initialized RX0, Cond.code yX0_clear cX0_clear 5 none, Cond.fieldLink RX0 29 "BundledLinks$End" "rank" "I", Cond.fieldLink RX0 17 "BundledLinks$End" "ports" "[LBundledLinks$Port;", Cond.fieldLink RX0 24 "BundledLinks$End" "flows" "[LBundledLinks$Flow;", Cond.methodLink RX0 32 yX5_clear, Cond.instanceMethod yX5_clear, Cond.selects RX5 yX5_clear yX5_clear, Cond.initialized RX5, Cond.code yX5_clear cX5_clear 1 none, Cond.fieldLink RX5 21 "BundledLinks$Port" "up" "Z"]
def wsX7_lay_r4 : List Cond := [Cond.fieldLink RX5 25 "BundledLinks$Port" "muted" "Z", Cond.fieldLink RX5 28 "BundledLinks$Port" "key" "I", Cond.fieldLink RX5 32 "BundledLinks$Port" "priority" "I", Cond.fieldLink RX5 12 "BundledLinks$Port" "heard" "LBundledLinks$Message;", Cond.fieldLink RX5 18 "BundledLinks$Port" "said" "LBundledLinks$Message;", Cond.fieldLink RX5 38 "BundledLinks$Port" "age" "I", Cond.fieldLink RX5 41 "BundledLinks$Port" "how" "I", Cond.fieldLink RX5 44 "BundledLinks$Port" "chosen" "Z", Cond.fieldLink RX5 47 "BundledLinks$Port" "chosenFor" "I", Cond.fieldLink RX5 50 "BundledLinks$Port" "begun" "I", Cond.methodLink RX5 35 yX3_clear, Cond.instanceMethod yX3_clear, Cond.selects RX3 yX3_clear yX3_clear, Cond.initialized RX3, Cond.code yX3_clear cX3_clear 1 none, Cond.fieldLink RX3 7 "BundledLinks$Message" "there" "Z", Cond.fieldLink RX3 13 "BundledLinks$Message" "key" "I", Cond.fieldLink RX3 17 "BundledLinks$Message" "priority" "I", Cond.fieldLink RX3 20 "BundledLinks$Message" "rank" "I", Cond.fieldLink RX3 23 "BundledLinks$Message" "sync" "Z", Cond.methodLink RX0 35 yX1_clear, Cond.instanceMethod yX1_clear, Cond.selects RX1 yX1_clear yX1_clear, Cond.initialized RX1]
def wsX7_lay_r5 : List Cond := [Cond.code yX1_clear cX1_clear 1 none, Cond.fieldLink RX1 9 "BundledLinks$Flow" "link" "I", Cond.fieldLink RX1 15 "BundledLinks$Flow" "held" "I", Cond.methodLink RX4 96 yX4_layItem, Cond.instanceMethod yX4_layItem, Cond.selects RX4 yX4_layItem yX4_layItem, Cond.code yX4_layItem cX4_layItem 3 none, Cond.fieldLink RX4 72 "BundledLinks$End" "rank" "I", Cond.methodLink RX4 104 yX6_letterAt, Cond.methodLink RX4 107 yX4_addLink, Cond.instanceMethod yX4_addLink, Cond.selects RX4 yX4_addLink yX4_addLink, Cond.code yX4_addLink cX4_addLink 5 none, Cond.methodLink RX4 54 yX0_portAt, Cond.instanceMethod yX0_portAt, Cond.selects RX0 yX0_portAt yX0_portAt, Cond.code yX0_portAt cX0_portAt 2 (some (.object "BundledLinks$Port")), Cond.methodLink RX4 110 yX6_number, Cond.methodLink RX4 114 yX5_begin, Cond.instanceMethod yX5_begin, Cond.selects RX5 yX5_begin yX5_begin, Cond.code yX5_begin cX5_begin 3 none, Cond.methodLink RX4 100 yX6_lengthOfItem, Cond.methodLink RX7 74 yX2_clear]
def wsX7_lay_r6 : List Cond := [Cond.instanceMethod yX2_clear, Cond.selects RX2 yX2_clear yX2_clear, Cond.initialized RX2, Cond.code yX2_clear cX2_clear 1 none, Cond.fieldLink RX2 18 "BundledLinks$History" "next" "I", Cond.fieldLink RX2 22 "BundledLinks$History" "size" "I"]
def wsX7_lay : List Cond := .code yX7_lay cX7_lay 2 (some .int) :: ((wsX7_lay_r1 ++ (wsX7_lay_r2 ++ (wsX7_lay_r3 ++ (wsX7_lay_r4 ++ (wsX7_lay_r5 ++ wsX7_lay_r6))))) ++ wsX70 ++ wsX40 ++ wsX60 ++ wsX00 ++ wsX50 ++ wsX30 ++ wsX10 ++ wsX20)
def wsX7_isZeroOrOne : List Cond := .code yX7_isZeroOrOne cX7_isZeroOrOne 1 (some .boolean) :: ([])
def wsX7_plug_r1 : List Cond := [Cond.fieldLink RX7 19 "BundledLinks" "net" "LBundledLinks$Net;", Cond.fieldLink RX7 85 "BundledLinks$Port" "up" "Z", Cond.fieldLink RX7 26 "BundledLinks" "history" "LBundledLinks$History;", Cond.fieldLink RX7 99 "BundledLinks$Net" "zero" "LBundledLinks$End;", Cond.methodLink RX7 78 yX4_portOf, Cond.instanceMethod yX4_portOf, Cond.selects RX4 yX4_portOf yX4_portOf, Cond.initialized RX4, Cond.code yX4_portOf cX4_portOf 4 (some (.object "BundledLinks$Port")), Cond.fieldLink RX4 26 "BundledLinks$Net" "links" "I", Cond.methodLink RX4 50 yX4_endOf, Cond.instanceMethod yX4_endOf, Cond.selects RX4 yX4_endOf yX4_endOf, Cond.code yX4_endOf cX4_endOf 2 (some (.object "BundledLinks$End")), Cond.fieldLink RX4 14 "BundledLinks$Net" "zero" "LBundledLinks$End;", Cond.fieldLink RX4 20 "BundledLinks$Net" "one" "LBundledLinks$End;", Cond.methodLink RX4 54 yX0_portAt, Cond.instanceMethod yX0_portAt, Cond.selects RX0 yX0_portAt yX0_portAt, Cond.initialized RX0, Cond.code yX0_portAt cX0_portAt 2 (some (.object "BundledLinks$Port")), Cond.fieldLink RX0 17 "BundledLinks$End" "ports" "[LBundledLinks$Port;", Cond.methodLink RX7 82 yX7_isZeroOrOne, Cond.static yX7_isZeroOrOne]
def wsX7_plug_r2 : List Cond := [Cond.initialized RX7, Cond.code yX7_isZeroOrOne cX7_isZeroOrOne 1 (some .boolean), Cond.methodLink RX7 91 yX2_keep, Cond.instanceMethod yX2_keep, Cond.selects RX2 yX2_keep yX2_keep, Cond.initialized RX2, Cond.code yX2_keep cX2_keep 2 none, Cond.fieldLink RX2 18 "BundledLinks$History" "next" "I", Cond.fieldLink RX2 11 "BundledLinks$History" "kept" "[LBundledLinks$Net;", Cond.fieldLink RX2 22 "BundledLinks$History" "size" "I", Cond.methodLink RX2 29 Lib.Math.min.name, Cond.static Lib.Math.min.name, Cond.initialized "java/lang/Math", Cond.code Lib.Math.min.name Lib.Math.min.code 2 (some .int), Cond.methodLink RX2 25 yX4_copyFrom, Cond.instanceMethod yX4_copyFrom, Cond.selects RX4 yX4_copyFrom yX4_copyFrom, Cond.code yX4_copyFrom cX4_copyFrom 2 none, Cond.fieldLink RX4 30 "BundledLinks$Net" "most" "I", Cond.fieldLink RX4 33 "BundledLinks$Net" "wait" "I", Cond.fieldLink RX4 36 "BundledLinks$Net" "drain" "I", Cond.fieldLink RX4 39 "BundledLinks$Net" "ticks" "I", Cond.methodLink RX4 42 yX0_copyFrom, Cond.instanceMethod yX0_copyFrom]
def wsX7_plug_r3 : List Cond := [Cond.selects RX0 yX0_copyFrom yX0_copyFrom, Cond.code yX0_copyFrom cX0_copyFrom 3 none, Cond.fieldLink RX0 29 "BundledLinks$End" "rank" "I", Cond.fieldLink RX0 24 "BundledLinks$End" "flows" "[LBundledLinks$Flow;", Cond.methodLink RX0 36 yX5_copyFrom, Cond.instanceMethod yX5_copyFrom, Cond.selects RX5 yX5_copyFrom yX5_copyFrom, Cond.initialized RX5, Cond.code yX5_copyFrom cX5_copyFrom 2 none, Cond.fieldLink RX5 21 "BundledLinks$Port" "up" "Z", Cond.fieldLink RX5 25 "BundledLinks$Port" "muted" "Z", Cond.fieldLink RX5 28 "BundledLinks$Port" "key" "I", Cond.fieldLink RX5 32 "BundledLinks$Port" "priority" "I", Cond.fieldLink RX5 12 "BundledLinks$Port" "heard" "LBundledLinks$Message;", Cond.fieldLink RX5 18 "BundledLinks$Port" "said" "LBundledLinks$Message;", Cond.fieldLink RX5 38 "BundledLinks$Port" "age" "I", Cond.fieldLink RX5 41 "BundledLinks$Port" "how" "I", Cond.fieldLink RX5 44 "BundledLinks$Port" "chosen" "Z", Cond.fieldLink RX5 47 "BundledLinks$Port" "chosenFor" "I", Cond.fieldLink RX5 50 "BundledLinks$Port" "begun" "I", Cond.methodLink RX5 53 yX3_copyFrom, Cond.instanceMethod yX3_copyFrom, Cond.selects RX3 yX3_copyFrom yX3_copyFrom, Cond.initialized RX3]
def wsX7_plug_r4 : List Cond := [Cond.code yX3_copyFrom cX3_copyFrom 2 none, Cond.fieldLink RX3 7 "BundledLinks$Message" "there" "Z", Cond.fieldLink RX3 13 "BundledLinks$Message" "key" "I", Cond.fieldLink RX3 17 "BundledLinks$Message" "priority" "I", Cond.fieldLink RX3 20 "BundledLinks$Message" "rank" "I", Cond.fieldLink RX3 23 "BundledLinks$Message" "sync" "Z", Cond.methodLink RX0 40 yX1_copyFrom, Cond.instanceMethod yX1_copyFrom, Cond.selects RX1 yX1_copyFrom yX1_copyFrom, Cond.initialized RX1, Cond.code yX1_copyFrom cX1_copyFrom 2 none, Cond.fieldLink RX1 9 "BundledLinks$Flow" "link" "I", Cond.fieldLink RX1 15 "BundledLinks$Flow" "held" "I", Cond.methodLink RX7 95 yX4_plugLink, Cond.instanceMethod yX4_plugLink, Cond.selects RX4 yX4_plugLink yX4_plugLink, Cond.code yX4_plugLink cX4_plugLink 5 none, Cond.fieldLink RX4 66 "BundledLinks$Port" "up" "Z", Cond.methodLink RX4 62 yX4_portOf, Cond.methodLink RX7 103 yX0_howManyUp, Cond.instanceMethod yX0_howManyUp, Cond.selects RX0 yX0_howManyUp yX0_howManyUp, Cond.code yX0_howManyUp cX0_howManyUp 6 (some .int), Cond.fieldLink RX0 105 "BundledLinks$Port" "up" "Z"]
def wsX7_plug : List Cond := .code yX7_plug cX7_plug 5 (some .int) :: ((wsX7_plug_r1 ++ (wsX7_plug_r2 ++ (wsX7_plug_r3 ++ wsX7_plug_r4))) ++ wsX70 ++ wsX50 ++ wsX40 ++ wsX00 ++ wsX20 ++ wsX30 ++ wsX10)
def wsX7_mute_r1 : List Cond := [Cond.fieldLink RX7 19 "BundledLinks" "net" "LBundledLinks$Net;", Cond.fieldLink RX7 112 "BundledLinks$Port" "muted" "Z", Cond.fieldLink RX7 26 "BundledLinks" "history" "LBundledLinks$History;", Cond.methodLink RX7 108 yX4_endOf, Cond.instanceMethod yX4_endOf, Cond.selects RX4 yX4_endOf yX4_endOf, Cond.initialized RX4, Cond.code yX4_endOf cX4_endOf 2 (some (.object "BundledLinks$End")), Cond.fieldLink RX4 14 "BundledLinks$Net" "zero" "LBundledLinks$End;", Cond.fieldLink RX4 20 "BundledLinks$Net" "one" "LBundledLinks$End;", Cond.methodLink RX7 78 yX4_portOf, Cond.instanceMethod yX4_portOf, Cond.selects RX4 yX4_portOf yX4_portOf, Cond.code yX4_portOf cX4_portOf 4 (some (.object "BundledLinks$Port")), Cond.fieldLink RX4 26 "BundledLinks$Net" "links" "I", Cond.methodLink RX4 50 yX4_endOf, Cond.methodLink RX4 54 yX0_portAt, Cond.instanceMethod yX0_portAt, Cond.selects RX0 yX0_portAt yX0_portAt, Cond.initialized RX0, Cond.code yX0_portAt cX0_portAt 2 (some (.object "BundledLinks$Port")), Cond.fieldLink RX0 17 "BundledLinks$End" "ports" "[LBundledLinks$Port;", Cond.methodLink RX7 82 yX7_isZeroOrOne, Cond.static yX7_isZeroOrOne]
def wsX7_mute_r2 : List Cond := [Cond.initialized RX7, Cond.code yX7_isZeroOrOne cX7_isZeroOrOne 1 (some .boolean), Cond.methodLink RX7 91 yX2_keep, Cond.instanceMethod yX2_keep, Cond.selects RX2 yX2_keep yX2_keep, Cond.initialized RX2, Cond.code yX2_keep cX2_keep 2 none, Cond.fieldLink RX2 18 "BundledLinks$History" "next" "I", Cond.fieldLink RX2 11 "BundledLinks$History" "kept" "[LBundledLinks$Net;", Cond.fieldLink RX2 22 "BundledLinks$History" "size" "I", Cond.methodLink RX2 29 Lib.Math.min.name, Cond.static Lib.Math.min.name, Cond.initialized "java/lang/Math", Cond.code Lib.Math.min.name Lib.Math.min.code 2 (some .int), Cond.methodLink RX2 25 yX4_copyFrom, Cond.instanceMethod yX4_copyFrom, Cond.selects RX4 yX4_copyFrom yX4_copyFrom, Cond.code yX4_copyFrom cX4_copyFrom 2 none, Cond.fieldLink RX4 30 "BundledLinks$Net" "most" "I", Cond.fieldLink RX4 33 "BundledLinks$Net" "wait" "I", Cond.fieldLink RX4 36 "BundledLinks$Net" "drain" "I", Cond.fieldLink RX4 39 "BundledLinks$Net" "ticks" "I", Cond.methodLink RX4 42 yX0_copyFrom, Cond.instanceMethod yX0_copyFrom]
def wsX7_mute_r3 : List Cond := [Cond.selects RX0 yX0_copyFrom yX0_copyFrom, Cond.code yX0_copyFrom cX0_copyFrom 3 none, Cond.fieldLink RX0 29 "BundledLinks$End" "rank" "I", Cond.fieldLink RX0 24 "BundledLinks$End" "flows" "[LBundledLinks$Flow;", Cond.methodLink RX0 36 yX5_copyFrom, Cond.instanceMethod yX5_copyFrom, Cond.selects RX5 yX5_copyFrom yX5_copyFrom, Cond.initialized RX5, Cond.code yX5_copyFrom cX5_copyFrom 2 none, Cond.fieldLink RX5 21 "BundledLinks$Port" "up" "Z", Cond.fieldLink RX5 25 "BundledLinks$Port" "muted" "Z", Cond.fieldLink RX5 28 "BundledLinks$Port" "key" "I", Cond.fieldLink RX5 32 "BundledLinks$Port" "priority" "I", Cond.fieldLink RX5 12 "BundledLinks$Port" "heard" "LBundledLinks$Message;", Cond.fieldLink RX5 18 "BundledLinks$Port" "said" "LBundledLinks$Message;", Cond.fieldLink RX5 38 "BundledLinks$Port" "age" "I", Cond.fieldLink RX5 41 "BundledLinks$Port" "how" "I", Cond.fieldLink RX5 44 "BundledLinks$Port" "chosen" "Z", Cond.fieldLink RX5 47 "BundledLinks$Port" "chosenFor" "I", Cond.fieldLink RX5 50 "BundledLinks$Port" "begun" "I", Cond.methodLink RX5 53 yX3_copyFrom, Cond.instanceMethod yX3_copyFrom, Cond.selects RX3 yX3_copyFrom yX3_copyFrom, Cond.initialized RX3]
def wsX7_mute_r4 : List Cond := [Cond.code yX3_copyFrom cX3_copyFrom 2 none, Cond.fieldLink RX3 7 "BundledLinks$Message" "there" "Z", Cond.fieldLink RX3 13 "BundledLinks$Message" "key" "I", Cond.fieldLink RX3 17 "BundledLinks$Message" "priority" "I", Cond.fieldLink RX3 20 "BundledLinks$Message" "rank" "I", Cond.fieldLink RX3 23 "BundledLinks$Message" "sync" "Z", Cond.methodLink RX0 40 yX1_copyFrom, Cond.instanceMethod yX1_copyFrom, Cond.selects RX1 yX1_copyFrom yX1_copyFrom, Cond.initialized RX1, Cond.code yX1_copyFrom cX1_copyFrom 2 none, Cond.fieldLink RX1 9 "BundledLinks$Flow" "link" "I", Cond.fieldLink RX1 15 "BundledLinks$Flow" "held" "I", Cond.methodLink RX7 115 yX0_howManyMuted, Cond.instanceMethod yX0_howManyMuted, Cond.selects RX0 yX0_howManyMuted yX0_howManyMuted, Cond.code yX0_howManyMuted cX0_howManyMuted 6 (some .int), Cond.fieldLink RX0 108 "BundledLinks$Port" "muted" "Z"]
def wsX7_mute : List Cond := .code yX7_mute cX7_mute 7 (some .int) :: ((wsX7_mute_r1 ++ (wsX7_mute_r2 ++ (wsX7_mute_r3 ++ wsX7_mute_r4))) ++ wsX70 ++ wsX50 ++ wsX40 ++ wsX00 ++ wsX20 ++ wsX30 ++ wsX10)
def wsX7_tell_r1 : List Cond := [Cond.fieldLink RX7 19 "BundledLinks" "net" "LBundledLinks$Net;", Cond.fieldLink RX7 121 "BundledLinks$Port" "key" "I", Cond.fieldLink RX7 124 "BundledLinks$Port" "priority" "I", Cond.fieldLink RX7 26 "BundledLinks" "history" "LBundledLinks$History;", Cond.methodLink RX7 78 yX4_portOf, Cond.instanceMethod yX4_portOf, Cond.selects RX4 yX4_portOf yX4_portOf, Cond.initialized RX4, Cond.code yX4_portOf cX4_portOf 4 (some (.object "BundledLinks$Port")), Cond.fieldLink RX4 26 "BundledLinks$Net" "links" "I", Cond.methodLink RX4 50 yX4_endOf, Cond.instanceMethod yX4_endOf, Cond.selects RX4 yX4_endOf yX4_endOf, Cond.code yX4_endOf cX4_endOf 2 (some (.object "BundledLinks$End")), Cond.fieldLink RX4 14 "BundledLinks$Net" "zero" "LBundledLinks$End;", Cond.fieldLink RX4 20 "BundledLinks$Net" "one" "LBundledLinks$End;", Cond.methodLink RX4 54 yX0_portAt, Cond.instanceMethod yX0_portAt, Cond.selects RX0 yX0_portAt yX0_portAt, Cond.initialized RX0, Cond.code yX0_portAt cX0_portAt 2 (some (.object "BundledLinks$Port")), Cond.fieldLink RX0 17 "BundledLinks$End" "ports" "[LBundledLinks$Port;", Cond.methodLink RX7 82 yX7_isZeroOrOne, Cond.static yX7_isZeroOrOne]
def wsX7_tell_r2 : List Cond := [Cond.initialized RX7, Cond.code yX7_isZeroOrOne cX7_isZeroOrOne 1 (some .boolean), Cond.methodLink RX7 118 yX7_isFigure, Cond.static yX7_isFigure, Cond.code yX7_isFigure cX7_isFigure 1 (some .boolean), Cond.methodLink RX7 91 yX2_keep, Cond.instanceMethod yX2_keep, Cond.selects RX2 yX2_keep yX2_keep, Cond.initialized RX2, Cond.code yX2_keep cX2_keep 2 none, Cond.fieldLink RX2 18 "BundledLinks$History" "next" "I", Cond.fieldLink RX2 11 "BundledLinks$History" "kept" "[LBundledLinks$Net;", Cond.fieldLink RX2 22 "BundledLinks$History" "size" "I", Cond.methodLink RX2 29 Lib.Math.min.name, Cond.static Lib.Math.min.name, Cond.initialized "java/lang/Math", Cond.code Lib.Math.min.name Lib.Math.min.code 2 (some .int), Cond.methodLink RX2 25 yX4_copyFrom, Cond.instanceMethod yX4_copyFrom, Cond.selects RX4 yX4_copyFrom yX4_copyFrom, Cond.code yX4_copyFrom cX4_copyFrom 2 none, Cond.fieldLink RX4 30 "BundledLinks$Net" "most" "I", Cond.fieldLink RX4 33 "BundledLinks$Net" "wait" "I", Cond.fieldLink RX4 36 "BundledLinks$Net" "drain" "I"]
def wsX7_tell_r3 : List Cond := [Cond.fieldLink RX4 39 "BundledLinks$Net" "ticks" "I", Cond.methodLink RX4 42 yX0_copyFrom, Cond.instanceMethod yX0_copyFrom, Cond.selects RX0 yX0_copyFrom yX0_copyFrom, Cond.code yX0_copyFrom cX0_copyFrom 3 none, Cond.fieldLink RX0 29 "BundledLinks$End" "rank" "I", Cond.fieldLink RX0 24 "BundledLinks$End" "flows" "[LBundledLinks$Flow;", Cond.methodLink RX0 36 yX5_copyFrom, Cond.instanceMethod yX5_copyFrom, Cond.selects RX5 yX5_copyFrom yX5_copyFrom, Cond.initialized RX5, Cond.code yX5_copyFrom cX5_copyFrom 2 none, Cond.fieldLink RX5 21 "BundledLinks$Port" "up" "Z", Cond.fieldLink RX5 25 "BundledLinks$Port" "muted" "Z", Cond.fieldLink RX5 28 "BundledLinks$Port" "key" "I", Cond.fieldLink RX5 32 "BundledLinks$Port" "priority" "I", Cond.fieldLink RX5 12 "BundledLinks$Port" "heard" "LBundledLinks$Message;", Cond.fieldLink RX5 18 "BundledLinks$Port" "said" "LBundledLinks$Message;", Cond.fieldLink RX5 38 "BundledLinks$Port" "age" "I", Cond.fieldLink RX5 41 "BundledLinks$Port" "how" "I", Cond.fieldLink RX5 44 "BundledLinks$Port" "chosen" "Z", Cond.fieldLink RX5 47 "BundledLinks$Port" "chosenFor" "I", Cond.fieldLink RX5 50 "BundledLinks$Port" "begun" "I", Cond.methodLink RX5 53 yX3_copyFrom]
def wsX7_tell_r4 : List Cond := [Cond.instanceMethod yX3_copyFrom, Cond.selects RX3 yX3_copyFrom yX3_copyFrom, Cond.initialized RX3, Cond.code yX3_copyFrom cX3_copyFrom 2 none, Cond.fieldLink RX3 7 "BundledLinks$Message" "there" "Z", Cond.fieldLink RX3 13 "BundledLinks$Message" "key" "I", Cond.fieldLink RX3 17 "BundledLinks$Message" "priority" "I", Cond.fieldLink RX3 20 "BundledLinks$Message" "rank" "I", Cond.fieldLink RX3 23 "BundledLinks$Message" "sync" "Z", Cond.methodLink RX0 40 yX1_copyFrom, Cond.instanceMethod yX1_copyFrom, Cond.selects RX1 yX1_copyFrom yX1_copyFrom, Cond.initialized RX1, Cond.code yX1_copyFrom cX1_copyFrom 2 none, Cond.fieldLink RX1 9 "BundledLinks$Flow" "link" "I", Cond.fieldLink RX1 15 "BundledLinks$Flow" "held" "I"]
def wsX7_tell : List Cond := .code yX7_tell cX7_tell 7 (some .int) :: ((wsX7_tell_r1 ++ (wsX7_tell_r2 ++ (wsX7_tell_r3 ++ wsX7_tell_r4))) ++ wsX70 ++ wsX50 ++ wsX40 ++ wsX00 ++ wsX20 ++ wsX30 ++ wsX10)
def wsX7_set_r1 : List Cond := [Cond.fieldLink RX7 19 "BundledLinks" "net" "LBundledLinks$Net;", Cond.fieldLink RX7 26 "BundledLinks" "history" "LBundledLinks$History;", Cond.methodLink RX7 127 yX7_isMost, Cond.static yX7_isMost, Cond.initialized RX7, Cond.code yX7_isMost cX7_isMost 1 (some .boolean), Cond.methodLink RX7 118 yX7_isFigure, Cond.static yX7_isFigure, Cond.code yX7_isFigure cX7_isFigure 1 (some .boolean), Cond.methodLink RX7 130 yX4_setting, Cond.instanceMethod yX4_setting, Cond.selects RX4 yX4_setting yX4_setting, Cond.initialized RX4, Cond.code yX4_setting cX4_setting 2 (some .int), Cond.fieldLink RX4 14 "BundledLinks$Net" "zero" "LBundledLinks$End;", Cond.fieldLink RX4 72 "BundledLinks$End" "rank" "I", Cond.fieldLink RX4 20 "BundledLinks$Net" "one" "LBundledLinks$End;", Cond.fieldLink RX4 30 "BundledLinks$Net" "most" "I", Cond.methodLink RX7 91 yX2_keep, Cond.instanceMethod yX2_keep, Cond.selects RX2 yX2_keep yX2_keep, Cond.initialized RX2, Cond.code yX2_keep cX2_keep 2 none, Cond.fieldLink RX2 18 "BundledLinks$History" "next" "I"]
def wsX7_set_r2 : List Cond := [Cond.fieldLink RX2 11 "BundledLinks$History" "kept" "[LBundledLinks$Net;", Cond.fieldLink RX2 22 "BundledLinks$History" "size" "I", Cond.methodLink RX2 29 Lib.Math.min.name, Cond.static Lib.Math.min.name, Cond.initialized "java/lang/Math", Cond.code Lib.Math.min.name Lib.Math.min.code 2 (some .int), Cond.methodLink RX2 25 yX4_copyFrom, Cond.instanceMethod yX4_copyFrom, Cond.selects RX4 yX4_copyFrom yX4_copyFrom, Cond.code yX4_copyFrom cX4_copyFrom 2 none, Cond.fieldLink RX4 26 "BundledLinks$Net" "links" "I", Cond.fieldLink RX4 33 "BundledLinks$Net" "wait" "I", Cond.fieldLink RX4 36 "BundledLinks$Net" "drain" "I", Cond.fieldLink RX4 39 "BundledLinks$Net" "ticks" "I", Cond.methodLink RX4 42 yX0_copyFrom, Cond.instanceMethod yX0_copyFrom, Cond.selects RX0 yX0_copyFrom yX0_copyFrom, Cond.initialized RX0, Cond.code yX0_copyFrom cX0_copyFrom 3 none, Cond.fieldLink RX0 29 "BundledLinks$End" "rank" "I", Cond.fieldLink RX0 17 "BundledLinks$End" "ports" "[LBundledLinks$Port;", Cond.fieldLink RX0 24 "BundledLinks$End" "flows" "[LBundledLinks$Flow;", Cond.methodLink RX0 36 yX5_copyFrom, Cond.instanceMethod yX5_copyFrom]
def wsX7_set_r3 : List Cond := [Cond.selects RX5 yX5_copyFrom yX5_copyFrom, Cond.initialized RX5, Cond.code yX5_copyFrom cX5_copyFrom 2 none, Cond.fieldLink RX5 21 "BundledLinks$Port" "up" "Z", Cond.fieldLink RX5 25 "BundledLinks$Port" "muted" "Z", Cond.fieldLink RX5 28 "BundledLinks$Port" "key" "I", Cond.fieldLink RX5 32 "BundledLinks$Port" "priority" "I", Cond.fieldLink RX5 12 "BundledLinks$Port" "heard" "LBundledLinks$Message;", Cond.fieldLink RX5 18 "BundledLinks$Port" "said" "LBundledLinks$Message;", Cond.fieldLink RX5 38 "BundledLinks$Port" "age" "I", Cond.fieldLink RX5 41 "BundledLinks$Port" "how" "I", Cond.fieldLink RX5 44 "BundledLinks$Port" "chosen" "Z", Cond.fieldLink RX5 47 "BundledLinks$Port" "chosenFor" "I", Cond.fieldLink RX5 50 "BundledLinks$Port" "begun" "I", Cond.methodLink RX5 53 yX3_copyFrom, Cond.instanceMethod yX3_copyFrom, Cond.selects RX3 yX3_copyFrom yX3_copyFrom, Cond.initialized RX3, Cond.code yX3_copyFrom cX3_copyFrom 2 none, Cond.fieldLink RX3 7 "BundledLinks$Message" "there" "Z", Cond.fieldLink RX3 13 "BundledLinks$Message" "key" "I", Cond.fieldLink RX3 17 "BundledLinks$Message" "priority" "I", Cond.fieldLink RX3 20 "BundledLinks$Message" "rank" "I", Cond.fieldLink RX3 23 "BundledLinks$Message" "sync" "Z"]
def wsX7_set_r4 : List Cond := [Cond.methodLink RX0 40 yX1_copyFrom, Cond.instanceMethod yX1_copyFrom, Cond.selects RX1 yX1_copyFrom yX1_copyFrom, Cond.initialized RX1, Cond.code yX1_copyFrom cX1_copyFrom 2 none, Cond.fieldLink RX1 9 "BundledLinks$Flow" "link" "I", Cond.fieldLink RX1 15 "BundledLinks$Flow" "held" "I", Cond.methodLink RX7 134 yX4_changeSetting, Cond.instanceMethod yX4_changeSetting, Cond.selects RX4 yX4_changeSetting yX4_changeSetting, Cond.code yX4_changeSetting cX4_changeSetting 3 none]
def wsX7_set : List Cond := .code yX7_set cX7_set 4 (some .int) :: ((wsX7_set_r1 ++ (wsX7_set_r2 ++ (wsX7_set_r3 ++ wsX7_set_r4))) ++ wsX70 ++ wsX40 ++ wsX00 ++ wsX20 ++ wsX50 ++ wsX30 ++ wsX10)
def wsX7_agreed : List Cond := .code yX7_agreed cX7_agreed 2 (some .int) :: ([.fieldLink RX7 19 "BundledLinks" "net" "LBundledLinks$Net;", .fieldLink RX7 99 "BundledLinks$Net" "zero" "LBundledLinks$End;", .fieldLink RX7 186 "BundledLinks$Net" "one" "LBundledLinks$End;", .methodLink RX7 158 yX0_bits, .instanceMethod yX0_bits, .selects RX0 yX0_bits yX0_bits, .initialized RX0, .code yX0_bits cX0_bits 4 (some .int), .fieldLink RX0 17 "BundledLinks$End" "ports" "[LBundledLinks$Port;", .methodLink RX0 111 yX5_isOf, .instanceMethod yX5_isOf, .selects RX5 yX5_isOf yX5_isOf, .initialized RX5, .code yX5_isOf cX5_isOf 2 (some .boolean), .fieldLink RX5 12 "BundledLinks$Port" "heard" "LBundledLinks$Message;", .fieldLink RX5 57 "BundledLinks$Message" "there" "Z", .fieldLink RX5 44 "BundledLinks$Port" "chosen" "Z", .fieldLink RX5 41 "BundledLinks$Port" "how" "I"] ++ wsX70 ++ wsX40 ++ wsX00 ++ wsX50 ++ wsX30)
def wsX7_tick_r1 : List Cond := [Cond.fieldLink RX7 19 "BundledLinks" "net" "LBundledLinks$Net;", Cond.fieldLink RX7 138 "BundledLinks$Net" "ticks" "I", Cond.fieldLink RX7 26 "BundledLinks" "history" "LBundledLinks$History;", Cond.methodLink RX7 91 yX2_keep, Cond.instanceMethod yX2_keep, Cond.selects RX2 yX2_keep yX2_keep, Cond.initialized RX2, Cond.code yX2_keep cX2_keep 2 none, Cond.fieldLink RX2 18 "BundledLinks$History" "next" "I", Cond.fieldLink RX2 11 "BundledLinks$History" "kept" "[LBundledLinks$Net;", Cond.fieldLink RX2 22 "BundledLinks$History" "size" "I", Cond.methodLink RX2 29 Lib.Math.min.name, Cond.static Lib.Math.min.name, Cond.initialized "java/lang/Math", Cond.code Lib.Math.min.name Lib.Math.min.code 2 (some .int), Cond.methodLink RX2 25 yX4_copyFrom, Cond.instanceMethod yX4_copyFrom, Cond.selects RX4 yX4_copyFrom yX4_copyFrom, Cond.initialized RX4, Cond.code yX4_copyFrom cX4_copyFrom 2 none, Cond.fieldLink RX4 14 "BundledLinks$Net" "zero" "LBundledLinks$End;", Cond.fieldLink RX4 20 "BundledLinks$Net" "one" "LBundledLinks$End;", Cond.fieldLink RX4 26 "BundledLinks$Net" "links" "I", Cond.fieldLink RX4 30 "BundledLinks$Net" "most" "I"]
def wsX7_tick_r2 : List Cond := [Cond.fieldLink RX4 33 "BundledLinks$Net" "wait" "I", Cond.fieldLink RX4 36 "BundledLinks$Net" "drain" "I", Cond.fieldLink RX4 39 "BundledLinks$Net" "ticks" "I", Cond.methodLink RX4 42 yX0_copyFrom, Cond.instanceMethod yX0_copyFrom, Cond.selects RX0 yX0_copyFrom yX0_copyFrom, Cond.initialized RX0, Cond.code yX0_copyFrom cX0_copyFrom 3 none, Cond.fieldLink RX0 29 "BundledLinks$End" "rank" "I", Cond.fieldLink RX0 17 "BundledLinks$End" "ports" "[LBundledLinks$Port;", Cond.fieldLink RX0 24 "BundledLinks$End" "flows" "[LBundledLinks$Flow;", Cond.methodLink RX0 36 yX5_copyFrom, Cond.instanceMethod yX5_copyFrom, Cond.selects RX5 yX5_copyFrom yX5_copyFrom, Cond.initialized RX5, Cond.code yX5_copyFrom cX5_copyFrom 2 none, Cond.fieldLink RX5 21 "BundledLinks$Port" "up" "Z", Cond.fieldLink RX5 25 "BundledLinks$Port" "muted" "Z", Cond.fieldLink RX5 28 "BundledLinks$Port" "key" "I", Cond.fieldLink RX5 32 "BundledLinks$Port" "priority" "I", Cond.fieldLink RX5 12 "BundledLinks$Port" "heard" "LBundledLinks$Message;", Cond.fieldLink RX5 18 "BundledLinks$Port" "said" "LBundledLinks$Message;", Cond.fieldLink RX5 38 "BundledLinks$Port" "age" "I", Cond.fieldLink RX5 41 "BundledLinks$Port" "how" "I"]
def wsX7_tick_r3 : List Cond := [Cond.fieldLink RX5 44 "BundledLinks$Port" "chosen" "Z", Cond.fieldLink RX5 47 "BundledLinks$Port" "chosenFor" "I", Cond.fieldLink RX5 50 "BundledLinks$Port" "begun" "I", Cond.methodLink RX5 53 yX3_copyFrom, Cond.instanceMethod yX3_copyFrom, Cond.selects RX3 yX3_copyFrom yX3_copyFrom, Cond.initialized RX3, Cond.code yX3_copyFrom cX3_copyFrom 2 none, Cond.fieldLink RX3 7 "BundledLinks$Message" "there" "Z", Cond.fieldLink RX3 13 "BundledLinks$Message" "key" "I", Cond.fieldLink RX3 17 "BundledLinks$Message" "priority" "I", Cond.fieldLink RX3 20 "BundledLinks$Message" "rank" "I", Cond.fieldLink RX3 23 "BundledLinks$Message" "sync" "Z", Cond.methodLink RX0 40 yX1_copyFrom, Cond.instanceMethod yX1_copyFrom, Cond.selects RX1 yX1_copyFrom yX1_copyFrom, Cond.initialized RX1, Cond.code yX1_copyFrom cX1_copyFrom 2 none, Cond.fieldLink RX1 9 "BundledLinks$Flow" "link" "I", Cond.fieldLink RX1 15 "BundledLinks$Flow" "held" "I", Cond.methodLink RX7 141 yX4_step, Cond.instanceMethod yX4_step, Cond.selects RX4 yX4_step yX4_step, Cond.code yX4_step cX4_step 1 none]
def wsX7_tick_r4 : List Cond := [Cond.methodLink RX4 75 yX0_hearFrom, Cond.instanceMethod yX0_hearFrom, Cond.selects RX0 yX0_hearFrom yX0_hearFrom, Cond.code yX0_hearFrom cX0_hearFrom 3 none, Cond.fieldLink RX0 49 "BundledLinks$Port" "said" "LBundledLinks$Message;", Cond.methodLink RX0 53 yX5_hear, Cond.instanceMethod yX5_hear, Cond.selects RX5 yX5_hear yX5_hear, Cond.code yX5_hear cX5_hear 2 none, Cond.fieldLink RX5 57 "BundledLinks$Message" "there" "Z", Cond.methodLink RX4 78 yX4_stepOf, Cond.instanceMethod yX4_stepOf, Cond.selects RX4 yX4_stepOf yX4_stepOf, Cond.code yX4_stepOf cX4_stepOf 2 none, Cond.methodLink RX4 81 yX0_choose, Cond.instanceMethod yX0_choose, Cond.selects RX0 yX0_choose yX0_choose, Cond.code yX0_choose cX0_choose 6 none, Cond.fieldLink RX0 57 "BundledLinks$Port" "chosen" "Z", Cond.methodLink RX0 61 yX0_decides, Cond.instanceMethod yX0_decides, Cond.selects RX0 yX0_decides yX0_decides, Cond.code yX0_decides cX0_decides 6 (some .boolean), Cond.fieldLink RX0 69 "BundledLinks$Port" "heard" "LBundledLinks$Message;"]
def wsX7_tick_r5 : List Cond := [Cond.fieldLink RX0 72 "BundledLinks$Message" "there" "Z", Cond.fieldLink RX0 77 "BundledLinks$Message" "rank" "I", Cond.fieldLink RX0 9 "BundledLinks$End" "number" "I", Cond.methodLink RX0 65 yX0_bestOpen, Cond.instanceMethod yX0_bestOpen, Cond.selects RX0 yX0_bestOpen yX0_bestOpen, Cond.code yX0_bestOpen cX0_bestOpen 9 (some (.object "BundledLinks$Port")), Cond.methodLink RX0 78 yX5_hasPairOf, Cond.instanceMethod yX5_hasPairOf, Cond.selects RX5 yX5_hasPairOf yX5_hasPairOf, Cond.code yX5_hasPairOf cX5_hasPairOf 2 (some .boolean), Cond.fieldLink RX5 61 "BundledLinks$Message" "key" "I", Cond.methodLink RX0 82 yX5_priorityBy, Cond.instanceMethod yX5_priorityBy, Cond.selects RX5 yX5_priorityBy yX5_priorityBy, Cond.code yX5_priorityBy cX5_priorityBy 2 (some .int), Cond.fieldLink RX5 60 "BundledLinks$Message" "priority" "I", Cond.methodLink RX4 84 yX0_judgeAndSay, Cond.instanceMethod yX0_judgeAndSay, Cond.selects RX0 yX0_judgeAndSay yX0_judgeAndSay, Cond.code yX0_judgeAndSay cX0_judgeAndSay 6 none, Cond.methodLink RX0 86 yX5_judge, Cond.instanceMethod yX5_judge, Cond.selects RX5 yX5_judge yX5_judge]
def wsX7_tick_r6 : List Cond := [Cond.code yX5_judge cX5_judge 3 none, Cond.methodLink RX5 62 yX5_howNow, Cond.instanceMethod yX5_howNow, Cond.selects RX5 yX5_howNow yX5_howNow, Cond.code yX5_howNow cX5_howNow 2 (some .int), Cond.fieldLink RX5 66 "BundledLinks$Message" "sync" "Z", Cond.methodLink RX0 90 yX5_say, Cond.instanceMethod yX5_say, Cond.selects RX5 yX5_say yX5_say, Cond.code yX5_say cX5_say 2 none, Cond.fieldLink RX5 69 "BundledLinks$Message" "rank" "I", Cond.methodLink RX4 87 yX0_dealFlows, Cond.instanceMethod yX0_dealFlows, Cond.selects RX0 yX0_dealFlows yX0_dealFlows, Cond.code yX0_dealFlows cX0_dealFlows 4 none, Cond.methodLink RX0 93 yX0_howManySending, Cond.instanceMethod yX0_howManySending, Cond.selects RX0 yX0_howManySending yX0_howManySending, Cond.code yX0_howManySending cX0_howManySending 6 (some .int), Cond.fieldLink RX0 43 "BundledLinks$Port" "how" "I", Cond.methodLink RX0 97 yX0_wantedBy, Cond.instanceMethod yX0_wantedBy, Cond.selects RX0 yX0_wantedBy yX0_wantedBy, Cond.code yX0_wantedBy cX0_wantedBy 5 (some .int)]
def wsX7_tick_r7 : List Cond := [Cond.methodLink RX0 101 yX1_deal, Cond.instanceMethod yX1_deal, Cond.selects RX1 yX1_deal yX1_deal, Cond.code yX1_deal cX1_deal 3 none, Cond.methodLink RX7 144 yX7_agreed, Cond.instanceMethod yX7_agreed, Cond.selects RX7 yX7_agreed yX7_agreed, Cond.initialized RX7, Cond.code yX7_agreed cX7_agreed 2 (some .int), Cond.fieldLink RX7 99 "BundledLinks$Net" "zero" "LBundledLinks$End;", Cond.fieldLink RX7 186 "BundledLinks$Net" "one" "LBundledLinks$End;", Cond.methodLink RX7 158 yX0_bits, Cond.instanceMethod yX0_bits, Cond.selects RX0 yX0_bits yX0_bits, Cond.code yX0_bits cX0_bits 4 (some .int), Cond.methodLink RX0 111 yX5_isOf, Cond.instanceMethod yX5_isOf, Cond.selects RX5 yX5_isOf yX5_isOf, Cond.code yX5_isOf cX5_isOf 2 (some .boolean)]
def wsX7_tick : List Cond := .code yX7_tick cX7_tick 3 (some .int) :: ((wsX7_tick_r1 ++ (wsX7_tick_r2 ++ (wsX7_tick_r3 ++ (wsX7_tick_r4 ++ (wsX7_tick_r5 ++ (wsX7_tick_r6 ++ wsX7_tick_r7)))))) ++ wsX70 ++ wsX40 ++ wsX20 ++ wsX00 ++ wsX50 ++ wsX30 ++ wsX10)
def wsX7_undo_r1 : List Cond := [Cond.fieldLink RX7 26 "BundledLinks" "history" "LBundledLinks$History;", Cond.fieldLink RX7 19 "BundledLinks" "net" "LBundledLinks$Net;", Cond.fieldLink RX7 154 "BundledLinks$History" "size" "I", Cond.methodLink RX7 147 yX2_takeLatest, Cond.instanceMethod yX2_takeLatest, Cond.selects RX2 yX2_takeLatest yX2_takeLatest, Cond.initialized RX2, Cond.code yX2_takeLatest cX2_takeLatest 2 (some (.object "BundledLinks$Net")), Cond.fieldLink RX2 18 "BundledLinks$History" "next" "I", Cond.fieldLink RX2 11 "BundledLinks$History" "kept" "[LBundledLinks$Net;", Cond.fieldLink RX2 22 "BundledLinks$History" "size" "I", Cond.methodLink RX7 151 yX4_copyFrom, Cond.instanceMethod yX4_copyFrom, Cond.selects RX4 yX4_copyFrom yX4_copyFrom, Cond.initialized RX4, Cond.code yX4_copyFrom cX4_copyFrom 2 none, Cond.fieldLink RX4 14 "BundledLinks$Net" "zero" "LBundledLinks$End;", Cond.fieldLink RX4 20 "BundledLinks$Net" "one" "LBundledLinks$End;", Cond.fieldLink RX4 26 "BundledLinks$Net" "links" "I", Cond.fieldLink RX4 30 "BundledLinks$Net" "most" "I", Cond.fieldLink RX4 33 "BundledLinks$Net" "wait" "I", Cond.fieldLink RX4 36 "BundledLinks$Net" "drain" "I", Cond.fieldLink RX4 39 "BundledLinks$Net" "ticks" "I", Cond.methodLink RX4 42 yX0_copyFrom]
def wsX7_undo_r2 : List Cond := [Cond.instanceMethod yX0_copyFrom, Cond.selects RX0 yX0_copyFrom yX0_copyFrom, Cond.initialized RX0, Cond.code yX0_copyFrom cX0_copyFrom 3 none, Cond.fieldLink RX0 29 "BundledLinks$End" "rank" "I", Cond.fieldLink RX0 17 "BundledLinks$End" "ports" "[LBundledLinks$Port;", Cond.fieldLink RX0 24 "BundledLinks$End" "flows" "[LBundledLinks$Flow;", Cond.methodLink RX0 36 yX5_copyFrom, Cond.instanceMethod yX5_copyFrom, Cond.selects RX5 yX5_copyFrom yX5_copyFrom, Cond.initialized RX5, Cond.code yX5_copyFrom cX5_copyFrom 2 none, Cond.fieldLink RX5 21 "BundledLinks$Port" "up" "Z", Cond.fieldLink RX5 25 "BundledLinks$Port" "muted" "Z", Cond.fieldLink RX5 28 "BundledLinks$Port" "key" "I", Cond.fieldLink RX5 32 "BundledLinks$Port" "priority" "I", Cond.fieldLink RX5 12 "BundledLinks$Port" "heard" "LBundledLinks$Message;", Cond.fieldLink RX5 18 "BundledLinks$Port" "said" "LBundledLinks$Message;", Cond.fieldLink RX5 38 "BundledLinks$Port" "age" "I", Cond.fieldLink RX5 41 "BundledLinks$Port" "how" "I", Cond.fieldLink RX5 44 "BundledLinks$Port" "chosen" "Z", Cond.fieldLink RX5 47 "BundledLinks$Port" "chosenFor" "I", Cond.fieldLink RX5 50 "BundledLinks$Port" "begun" "I", Cond.methodLink RX5 53 yX3_copyFrom]
def wsX7_undo_r3 : List Cond := [Cond.instanceMethod yX3_copyFrom, Cond.selects RX3 yX3_copyFrom yX3_copyFrom, Cond.initialized RX3, Cond.code yX3_copyFrom cX3_copyFrom 2 none, Cond.fieldLink RX3 7 "BundledLinks$Message" "there" "Z", Cond.fieldLink RX3 13 "BundledLinks$Message" "key" "I", Cond.fieldLink RX3 17 "BundledLinks$Message" "priority" "I", Cond.fieldLink RX3 20 "BundledLinks$Message" "rank" "I", Cond.fieldLink RX3 23 "BundledLinks$Message" "sync" "Z", Cond.methodLink RX0 40 yX1_copyFrom, Cond.instanceMethod yX1_copyFrom, Cond.selects RX1 yX1_copyFrom yX1_copyFrom, Cond.initialized RX1, Cond.code yX1_copyFrom cX1_copyFrom 2 none, Cond.fieldLink RX1 9 "BundledLinks$Flow" "link" "I", Cond.fieldLink RX1 15 "BundledLinks$Flow" "held" "I"]
def wsX7_undo : List Cond := .code yX7_undo cX7_undo 2 (some .int) :: ((wsX7_undo_r1 ++ (wsX7_undo_r2 ++ wsX7_undo_r3)) ++ wsX70 ++ wsX20 ++ wsX40 ++ wsX00 ++ wsX50 ++ wsX30 ++ wsX10)
def wsX7_link_r1 : List Cond := [Cond.fieldLink RX7 19 "BundledLinks" "net" "LBundledLinks$Net;", Cond.methodLink RX7 78 yX4_portOf, Cond.instanceMethod yX4_portOf, Cond.selects RX4 yX4_portOf yX4_portOf, Cond.initialized RX4, Cond.code yX4_portOf cX4_portOf 4 (some (.object "BundledLinks$Port")), Cond.fieldLink RX4 26 "BundledLinks$Net" "links" "I", Cond.methodLink RX4 50 yX4_endOf, Cond.instanceMethod yX4_endOf, Cond.selects RX4 yX4_endOf yX4_endOf, Cond.code yX4_endOf cX4_endOf 2 (some (.object "BundledLinks$End")), Cond.fieldLink RX4 14 "BundledLinks$Net" "zero" "LBundledLinks$End;", Cond.fieldLink RX4 20 "BundledLinks$Net" "one" "LBundledLinks$End;", Cond.methodLink RX4 54 yX0_portAt, Cond.instanceMethod yX0_portAt, Cond.selects RX0 yX0_portAt yX0_portAt, Cond.initialized RX0, Cond.code yX0_portAt cX0_portAt 2 (some (.object "BundledLinks$Port")), Cond.fieldLink RX0 17 "BundledLinks$End" "ports" "[LBundledLinks$Port;", Cond.methodLink RX7 155 yX5_look, Cond.instanceMethod yX5_look, Cond.selects RX5 yX5_look yX5_look, Cond.initialized RX5, Cond.code yX5_look cX5_look 2 (some .int)]
def wsX7_link_r2 : List Cond := [Cond.fieldLink RX5 28 "BundledLinks$Port" "key" "I", Cond.fieldLink RX5 32 "BundledLinks$Port" "priority" "I", Cond.fieldLink RX5 41 "BundledLinks$Port" "how" "I", Cond.fieldLink RX5 38 "BundledLinks$Port" "age" "I", Cond.fieldLink RX5 12 "BundledLinks$Port" "heard" "LBundledLinks$Message;", Cond.fieldLink RX5 61 "BundledLinks$Message" "key" "I", Cond.fieldLink RX5 60 "BundledLinks$Message" "priority" "I", Cond.fieldLink RX5 69 "BundledLinks$Message" "rank" "I", Cond.fieldLink RX5 66 "BundledLinks$Message" "sync" "Z", Cond.fieldLink RX5 44 "BundledLinks$Port" "chosen" "Z", Cond.fieldLink RX5 47 "BundledLinks$Port" "chosenFor" "I", Cond.fieldLink RX5 50 "BundledLinks$Port" "begun" "I", Cond.fieldLink RX5 25 "BundledLinks$Port" "muted" "Z", Cond.methodLink RX5 72 yX5_known, Cond.instanceMethod yX5_known, Cond.selects RX5 yX5_known yX5_known, Cond.code yX5_known cX5_known 2 (some .int), Cond.fieldLink RX5 57 "BundledLinks$Message" "there" "Z"]
def wsX7_link : List Cond := .code yX7_link cX7_link 5 (some .int) :: ((wsX7_link_r1 ++ wsX7_link_r2) ++ wsX70 ++ wsX40 ++ wsX00 ++ wsX50 ++ wsX30)
def wsX7_bundle : List Cond := .code yX7_bundle cX7_bundle 4 (some .int) :: ([.fieldLink RX7 19 "BundledLinks" "net" "LBundledLinks$Net;", .methodLink RX7 108 yX4_endOf, .instanceMethod yX4_endOf, .selects RX4 yX4_endOf yX4_endOf, .initialized RX4, .code yX4_endOf cX4_endOf 2 (some (.object "BundledLinks$End")), .fieldLink RX4 14 "BundledLinks$Net" "zero" "LBundledLinks$End;", .fieldLink RX4 20 "BundledLinks$Net" "one" "LBundledLinks$End;", .methodLink RX7 158 yX0_bits, .instanceMethod yX0_bits, .selects RX0 yX0_bits yX0_bits, .initialized RX0, .code yX0_bits cX0_bits 4 (some .int), .fieldLink RX0 17 "BundledLinks$End" "ports" "[LBundledLinks$Port;", .methodLink RX0 111 yX5_isOf, .instanceMethod yX5_isOf, .selects RX5 yX5_isOf yX5_isOf, .initialized RX5, .code yX5_isOf cX5_isOf 2 (some .boolean), .fieldLink RX5 12 "BundledLinks$Port" "heard" "LBundledLinks$Message;", .fieldLink RX5 57 "BundledLinks$Message" "there" "Z", .fieldLink RX5 44 "BundledLinks$Port" "chosen" "Z", .fieldLink RX5 41 "BundledLinks$Port" "how" "I"] ++ wsX70 ++ wsX40 ++ wsX00 ++ wsX50 ++ wsX30)
def wsX7_flow_r1 : List Cond := [Cond.fieldLink RX7 19 "BundledLinks" "net" "LBundledLinks$Net;", Cond.fieldLink RX7 165 "BundledLinks$Flow" "link" "I", Cond.fieldLink RX7 170 "BundledLinks$Flow" "held" "I", Cond.methodLink RX7 108 yX4_endOf, Cond.instanceMethod yX4_endOf, Cond.selects RX4 yX4_endOf yX4_endOf, Cond.initialized RX4, Cond.code yX4_endOf cX4_endOf 2 (some (.object "BundledLinks$End")), Cond.fieldLink RX4 14 "BundledLinks$Net" "zero" "LBundledLinks$End;", Cond.fieldLink RX4 20 "BundledLinks$Net" "one" "LBundledLinks$End;", Cond.methodLink RX7 161 yX4_flowOf, Cond.instanceMethod yX4_flowOf, Cond.selects RX4 yX4_flowOf yX4_flowOf, Cond.code yX4_flowOf cX4_flowOf 4 (some (.object "BundledLinks$Flow")), Cond.methodLink RX4 50 yX4_endOf, Cond.methodLink RX4 58 yX0_flowAt, Cond.instanceMethod yX0_flowAt, Cond.selects RX0 yX0_flowAt yX0_flowAt, Cond.initialized RX0, Cond.code yX0_flowAt cX0_flowAt 2 (some (.object "BundledLinks$Flow")), Cond.fieldLink RX0 24 "BundledLinks$End" "flows" "[LBundledLinks$Flow;", Cond.methodLink RX7 173 yX0_howManySending, Cond.instanceMethod yX0_howManySending, Cond.selects RX0 yX0_howManySending yX0_howManySending]
def wsX7_flow_r2 : List Cond := [Cond.code yX0_howManySending cX0_howManySending 6 (some .int), Cond.fieldLink RX0 17 "BundledLinks$End" "ports" "[LBundledLinks$Port;", Cond.fieldLink RX0 43 "BundledLinks$Port" "how" "I", Cond.methodLink RX7 176 yX0_wantedBy, Cond.instanceMethod yX0_wantedBy, Cond.selects RX0 yX0_wantedBy yX0_wantedBy, Cond.code yX0_wantedBy cX0_wantedBy 5 (some .int)]
def wsX7_flow : List Cond := .code yX7_flow cX7_flow 6 (some .int) :: ((wsX7_flow_r1 ++ wsX7_flow_r2) ++ wsX70 ++ wsX10 ++ wsX40 ++ wsX00 ++ wsX50)
def wsX7_placeOfFrames : List Cond := .code yX7_placeOfFrames cX7_placeOfFrames 4 (some .int) :: ([.fieldLink RX7 19 "BundledLinks" "net" "LBundledLinks$Net;", .fieldLink RX7 75 "BundledLinks$Net" "links" "I", .fieldLink RX7 30 "BundledLinks" "went" "[I"] ++ wsX70 ++ wsX40)
def wsX7_frame_r1 : List Cond := [Cond.fieldLink RX7 19 "BundledLinks" "net" "LBundledLinks$Net;", Cond.fieldLink RX7 170 "BundledLinks$Flow" "held" "I", Cond.fieldLink RX7 165 "BundledLinks$Flow" "link" "I", Cond.fieldLink RX7 183 "BundledLinks$Port" "how" "I", Cond.fieldLink RX7 30 "BundledLinks" "went" "[I", Cond.methodLink RX7 161 yX4_flowOf, Cond.instanceMethod yX4_flowOf, Cond.selects RX4 yX4_flowOf yX4_flowOf, Cond.initialized RX4, Cond.code yX4_flowOf cX4_flowOf 4 (some (.object "BundledLinks$Flow")), Cond.methodLink RX4 50 yX4_endOf, Cond.instanceMethod yX4_endOf, Cond.selects RX4 yX4_endOf yX4_endOf, Cond.code yX4_endOf cX4_endOf 2 (some (.object "BundledLinks$End")), Cond.fieldLink RX4 14 "BundledLinks$Net" "zero" "LBundledLinks$End;", Cond.fieldLink RX4 20 "BundledLinks$Net" "one" "LBundledLinks$End;", Cond.methodLink RX4 58 yX0_flowAt, Cond.instanceMethod yX0_flowAt, Cond.selects RX0 yX0_flowAt yX0_flowAt, Cond.initialized RX0, Cond.code yX0_flowAt cX0_flowAt 2 (some (.object "BundledLinks$Flow")), Cond.fieldLink RX0 24 "BundledLinks$End" "flows" "[LBundledLinks$Flow;", Cond.methodLink RX7 78 yX4_portOf, Cond.instanceMethod yX4_portOf]
def wsX7_frame_r2 : List Cond := [Cond.selects RX4 yX4_portOf yX4_portOf, Cond.code yX4_portOf cX4_portOf 4 (some (.object "BundledLinks$Port")), Cond.fieldLink RX4 26 "BundledLinks$Net" "links" "I", Cond.methodLink RX4 54 yX0_portAt, Cond.instanceMethod yX0_portAt, Cond.selects RX0 yX0_portAt yX0_portAt, Cond.code yX0_portAt cX0_portAt 2 (some (.object "BundledLinks$Port")), Cond.fieldLink RX0 17 "BundledLinks$End" "ports" "[LBundledLinks$Port;", Cond.methodLink RX7 180 yX7_placeOfFrames, Cond.instanceMethod yX7_placeOfFrames, Cond.selects RX7 yX7_placeOfFrames yX7_placeOfFrames, Cond.initialized RX7, Cond.code yX7_placeOfFrames cX7_placeOfFrames 4 (some .int), Cond.fieldLink RX7 75 "BundledLinks$Net" "links" "I"]
def wsX7_frame : List Cond := .code yX7_frame cX7_frame 6 (some .int) :: ((wsX7_frame_r1 ++ wsX7_frame_r2) ++ wsX70 ++ wsX10 ++ wsX50 ++ wsX40 ++ wsX00)
def wsX7_frames : List Cond := .code yX7_frames cX7_frames 4 (some .int) :: ([.fieldLink RX7 30 "BundledLinks" "went" "[I", .methodLink RX7 180 yX7_placeOfFrames, .instanceMethod yX7_placeOfFrames, .selects RX7 yX7_placeOfFrames yX7_placeOfFrames, .initialized RX7, .code yX7_placeOfFrames cX7_placeOfFrames 4 (some .int), .fieldLink RX7 19 "BundledLinks" "net" "LBundledLinks$Net;", .fieldLink RX7 75 "BundledLinks$Net" "links" "I"] ++ wsX70 ++ wsX40)
def wsX7_settled_r1 : List Cond := [Cond.fieldLink RX7 34 "BundledLinks" "trial" "LBundledLinks$Net;", Cond.fieldLink RX7 19 "BundledLinks" "net" "LBundledLinks$Net;", Cond.fieldLink RX7 37 "BundledLinks" "mark" "LBundledLinks$Net;", Cond.methodLink RX7 151 yX4_copyFrom, Cond.instanceMethod yX4_copyFrom, Cond.selects RX4 yX4_copyFrom yX4_copyFrom, Cond.initialized RX4, Cond.code yX4_copyFrom cX4_copyFrom 2 none, Cond.fieldLink RX4 14 "BundledLinks$Net" "zero" "LBundledLinks$End;", Cond.fieldLink RX4 20 "BundledLinks$Net" "one" "LBundledLinks$End;", Cond.fieldLink RX4 26 "BundledLinks$Net" "links" "I", Cond.fieldLink RX4 30 "BundledLinks$Net" "most" "I", Cond.fieldLink RX4 33 "BundledLinks$Net" "wait" "I", Cond.fieldLink RX4 36 "BundledLinks$Net" "drain" "I", Cond.fieldLink RX4 39 "BundledLinks$Net" "ticks" "I", Cond.methodLink RX4 42 yX0_copyFrom, Cond.instanceMethod yX0_copyFrom, Cond.selects RX0 yX0_copyFrom yX0_copyFrom, Cond.initialized RX0, Cond.code yX0_copyFrom cX0_copyFrom 3 none, Cond.fieldLink RX0 29 "BundledLinks$End" "rank" "I", Cond.fieldLink RX0 17 "BundledLinks$End" "ports" "[LBundledLinks$Port;", Cond.fieldLink RX0 24 "BundledLinks$End" "flows" "[LBundledLinks$Flow;", Cond.methodLink RX0 36 yX5_copyFrom]
def wsX7_settled_r2 : List Cond := [Cond.instanceMethod yX5_copyFrom, Cond.selects RX5 yX5_copyFrom yX5_copyFrom, Cond.initialized RX5, Cond.code yX5_copyFrom cX5_copyFrom 2 none, Cond.fieldLink RX5 21 "BundledLinks$Port" "up" "Z", Cond.fieldLink RX5 25 "BundledLinks$Port" "muted" "Z", Cond.fieldLink RX5 28 "BundledLinks$Port" "key" "I", Cond.fieldLink RX5 32 "BundledLinks$Port" "priority" "I", Cond.fieldLink RX5 12 "BundledLinks$Port" "heard" "LBundledLinks$Message;", Cond.fieldLink RX5 18 "BundledLinks$Port" "said" "LBundledLinks$Message;", Cond.fieldLink RX5 38 "BundledLinks$Port" "age" "I", Cond.fieldLink RX5 41 "BundledLinks$Port" "how" "I", Cond.fieldLink RX5 44 "BundledLinks$Port" "chosen" "Z", Cond.fieldLink RX5 47 "BundledLinks$Port" "chosenFor" "I", Cond.fieldLink RX5 50 "BundledLinks$Port" "begun" "I", Cond.methodLink RX5 53 yX3_copyFrom, Cond.instanceMethod yX3_copyFrom, Cond.selects RX3 yX3_copyFrom yX3_copyFrom, Cond.initialized RX3, Cond.code yX3_copyFrom cX3_copyFrom 2 none, Cond.fieldLink RX3 7 "BundledLinks$Message" "there" "Z", Cond.fieldLink RX3 13 "BundledLinks$Message" "key" "I", Cond.fieldLink RX3 17 "BundledLinks$Message" "priority" "I", Cond.fieldLink RX3 20 "BundledLinks$Message" "rank" "I"]
def wsX7_settled_r3 : List Cond := [Cond.fieldLink RX3 23 "BundledLinks$Message" "sync" "Z", Cond.methodLink RX0 40 yX1_copyFrom, Cond.instanceMethod yX1_copyFrom, Cond.selects RX1 yX1_copyFrom yX1_copyFrom, Cond.initialized RX1, Cond.code yX1_copyFrom cX1_copyFrom 2 none, Cond.fieldLink RX1 9 "BundledLinks$Flow" "link" "I", Cond.fieldLink RX1 15 "BundledLinks$Flow" "held" "I", Cond.methodLink RX7 141 yX4_step, Cond.instanceMethod yX4_step, Cond.selects RX4 yX4_step yX4_step, Cond.code yX4_step cX4_step 1 none, Cond.methodLink RX4 75 yX0_hearFrom, Cond.instanceMethod yX0_hearFrom, Cond.selects RX0 yX0_hearFrom yX0_hearFrom, Cond.code yX0_hearFrom cX0_hearFrom 3 none, Cond.fieldLink RX0 49 "BundledLinks$Port" "said" "LBundledLinks$Message;", Cond.methodLink RX0 53 yX5_hear, Cond.instanceMethod yX5_hear, Cond.selects RX5 yX5_hear yX5_hear, Cond.code yX5_hear cX5_hear 2 none, Cond.fieldLink RX5 57 "BundledLinks$Message" "there" "Z", Cond.methodLink RX4 78 yX4_stepOf, Cond.instanceMethod yX4_stepOf]
def wsX7_settled_r4 : List Cond := [Cond.selects RX4 yX4_stepOf yX4_stepOf, Cond.code yX4_stepOf cX4_stepOf 2 none, Cond.methodLink RX4 81 yX0_choose, Cond.instanceMethod yX0_choose, Cond.selects RX0 yX0_choose yX0_choose, Cond.code yX0_choose cX0_choose 6 none, Cond.fieldLink RX0 57 "BundledLinks$Port" "chosen" "Z", Cond.methodLink RX0 61 yX0_decides, Cond.instanceMethod yX0_decides, Cond.selects RX0 yX0_decides yX0_decides, Cond.code yX0_decides cX0_decides 6 (some .boolean), Cond.fieldLink RX0 69 "BundledLinks$Port" "heard" "LBundledLinks$Message;", Cond.fieldLink RX0 72 "BundledLinks$Message" "there" "Z", Cond.fieldLink RX0 77 "BundledLinks$Message" "rank" "I", Cond.fieldLink RX0 9 "BundledLinks$End" "number" "I", Cond.methodLink RX0 65 yX0_bestOpen, Cond.instanceMethod yX0_bestOpen, Cond.selects RX0 yX0_bestOpen yX0_bestOpen, Cond.code yX0_bestOpen cX0_bestOpen 9 (some (.object "BundledLinks$Port")), Cond.methodLink RX0 78 yX5_hasPairOf, Cond.instanceMethod yX5_hasPairOf, Cond.selects RX5 yX5_hasPairOf yX5_hasPairOf, Cond.code yX5_hasPairOf cX5_hasPairOf 2 (some .boolean), Cond.fieldLink RX5 61 "BundledLinks$Message" "key" "I"]
def wsX7_settled_r5 : List Cond := [Cond.methodLink RX0 82 yX5_priorityBy, Cond.instanceMethod yX5_priorityBy, Cond.selects RX5 yX5_priorityBy yX5_priorityBy, Cond.code yX5_priorityBy cX5_priorityBy 2 (some .int), Cond.fieldLink RX5 60 "BundledLinks$Message" "priority" "I", Cond.methodLink RX4 84 yX0_judgeAndSay, Cond.instanceMethod yX0_judgeAndSay, Cond.selects RX0 yX0_judgeAndSay yX0_judgeAndSay, Cond.code yX0_judgeAndSay cX0_judgeAndSay 6 none, Cond.methodLink RX0 86 yX5_judge, Cond.instanceMethod yX5_judge, Cond.selects RX5 yX5_judge yX5_judge, Cond.code yX5_judge cX5_judge 3 none, Cond.methodLink RX5 62 yX5_howNow, Cond.instanceMethod yX5_howNow, Cond.selects RX5 yX5_howNow yX5_howNow, Cond.code yX5_howNow cX5_howNow 2 (some .int), Cond.fieldLink RX5 66 "BundledLinks$Message" "sync" "Z", Cond.methodLink RX0 90 yX5_say, Cond.instanceMethod yX5_say, Cond.selects RX5 yX5_say yX5_say, Cond.code yX5_say cX5_say 2 none, Cond.fieldLink RX5 69 "BundledLinks$Message" "rank" "I", Cond.methodLink RX4 87 yX0_dealFlows]
def wsX7_settled_r6 : List Cond := [Cond.instanceMethod yX0_dealFlows, Cond.selects RX0 yX0_dealFlows yX0_dealFlows, Cond.code yX0_dealFlows cX0_dealFlows 4 none, Cond.methodLink RX0 93 yX0_howManySending, Cond.instanceMethod yX0_howManySending, Cond.selects RX0 yX0_howManySending yX0_howManySending, Cond.code yX0_howManySending cX0_howManySending 6 (some .int), Cond.fieldLink RX0 43 "BundledLinks$Port" "how" "I", Cond.methodLink RX0 97 yX0_wantedBy, Cond.instanceMethod yX0_wantedBy, Cond.selects RX0 yX0_wantedBy yX0_wantedBy, Cond.code yX0_wantedBy cX0_wantedBy 5 (some .int), Cond.methodLink RX0 101 yX1_deal, Cond.instanceMethod yX1_deal, Cond.selects RX1 yX1_deal yX1_deal, Cond.code yX1_deal cX1_deal 3 none, Cond.methodLink RX7 189 yX4_looksLike, Cond.instanceMethod yX4_looksLike, Cond.selects RX4 yX4_looksLike yX4_looksLike, Cond.code yX4_looksLike cX4_looksLike 2 (some .boolean), Cond.methodLink RX4 46 yX0_looksLike, Cond.instanceMethod yX0_looksLike, Cond.selects RX0 yX0_looksLike yX0_looksLike, Cond.code yX0_looksLike cX0_looksLike 3 (some .boolean)]
def wsX7_settled_r7 : List Cond := [Cond.fieldLink RX0 46 "BundledLinks$Flow" "link" "I"]
def wsX7_settled : List Cond := .code yX7_settled cX7_settled 3 (some .int) :: ((wsX7_settled_r1 ++ (wsX7_settled_r2 ++ (wsX7_settled_r3 ++ (wsX7_settled_r4 ++ (wsX7_settled_r5 ++ (wsX7_settled_r6 ++ wsX7_settled_r7)))))) ++ wsX70 ++ wsX40 ++ wsX00 ++ wsX50 ++ wsX30 ++ wsX10)
def wsX7_count_r1 : List Cond := [Cond.fieldLink RX7 19 "BundledLinks" "net" "LBundledLinks$Net;", Cond.fieldLink RX7 75 "BundledLinks$Net" "links" "I", Cond.fieldLink RX7 99 "BundledLinks$Net" "zero" "LBundledLinks$End;", Cond.fieldLink RX7 193 "BundledLinks$Net" "wait" "I", Cond.fieldLink RX7 196 "BundledLinks$Net" "drain" "I", Cond.fieldLink RX7 138 "BundledLinks$Net" "ticks" "I", Cond.fieldLink RX7 26 "BundledLinks" "history" "LBundledLinks$History;", Cond.fieldLink RX7 154 "BundledLinks$History" "size" "I", Cond.fieldLink RX7 10 "BundledLinks" "text" "LBundledLinks$Text;", Cond.fieldLink RX7 63 "BundledLinks$Text" "size" "I", Cond.methodLink RX7 103 yX0_howManyUp, Cond.instanceMethod yX0_howManyUp, Cond.selects RX0 yX0_howManyUp yX0_howManyUp, Cond.initialized RX0, Cond.code yX0_howManyUp cX0_howManyUp 6 (some .int), Cond.fieldLink RX0 17 "BundledLinks$End" "ports" "[LBundledLinks$Port;", Cond.fieldLink RX0 105 "BundledLinks$Port" "up" "Z", Cond.methodLink RX7 130 yX4_setting, Cond.instanceMethod yX4_setting, Cond.selects RX4 yX4_setting yX4_setting, Cond.initialized RX4, Cond.code yX4_setting cX4_setting 2 (some .int), Cond.fieldLink RX4 14 "BundledLinks$Net" "zero" "LBundledLinks$End;", Cond.fieldLink RX4 72 "BundledLinks$End" "rank" "I"]
def wsX7_count_r2 : List Cond := [Cond.fieldLink RX4 20 "BundledLinks$Net" "one" "LBundledLinks$End;", Cond.fieldLink RX4 30 "BundledLinks$Net" "most" "I"]
def wsX7_count : List Cond := .code yX7_count cX7_count 2 (some .int) :: ((wsX7_count_r1 ++ wsX7_count_r2) ++ wsX70 ++ wsX40 ++ wsX20 ++ wsX60 ++ wsX00 ++ wsX50)
def wsX8_clearsPlan : List Cond := .code yX8_clearsPlan cX8_clearsPlan 1 none :: ([.fieldLink RX8 54 "BundledLinksModel" "newLinks" "I", .fieldLink RX8 28 "BundledLinksModel" "ranks" "[I", .fieldLink RX8 31 "BundledLinksModel" "more" "[I"] ++ wsX80)
def wsX8_adds : List Cond := .code yX8_adds cX8_adds 5 none :: ([.fieldLink RX8 25 "BundledLinksModel" "told" "[I", .fieldLink RX8 54 "BundledLinksModel" "newLinks" "I"] ++ wsX80)
def wsX8_place : List Cond := .code yX8_place cX8_place 2 (some .int) :: ([])
def wsX8_lays : List Cond := .code yX8_lays cX8_lays 4 none :: ([.fieldLink RX8 54 "BundledLinksModel" "newLinks" "I", .fieldLink RX8 83 "BundledLinksModel" "links" "I", .fieldLink RX8 31 "BundledLinksModel" "more" "[I", .fieldLink RX8 86 "BundledLinksModel" "wait" "I", .fieldLink RX8 89 "BundledLinksModel" "drain" "I", .fieldLink RX8 7 "BundledLinksModel" "now" "[I", .fieldLink RX8 28 "BundledLinksModel" "ranks" "[I", .fieldLink RX8 25 "BundledLinksModel" "told" "[I", .fieldLink RX8 19 "BundledLinksModel" "frames" "[I", .fieldLink RX8 96 "BundledLinksModel" "undos" "I", .methodLink RX8 92 yX8_place, .static yX8_place, .initialized RX8, .code yX8_place cX8_place 2 (some .int)] ++ wsX80)
def wsX8_init_r1 : List Cond := [Cond.methodLink RX8 1 objectInit, Cond.instanceMethod objectInit, Cond.code objectInit ⟨#[0xb1]⟩ 1 none, Cond.arrayClass .int, Cond.fieldLink RX8 7 "BundledLinksModel" "now" "[I", Cond.fieldLink RX8 13 "BundledLinksModel" "kept" "[I", Cond.fieldLink RX8 16 "BundledLinksModel" "past" "[I", Cond.fieldLink RX8 19 "BundledLinksModel" "frames" "[I", Cond.fieldLink RX8 22 "BundledLinksModel" "text" "[I", Cond.fieldLink RX8 25 "BundledLinksModel" "told" "[I", Cond.fieldLink RX8 28 "BundledLinksModel" "ranks" "[I", Cond.fieldLink RX8 31 "BundledLinksModel" "more" "[I", Cond.fieldLink RX8 34 "BundledLinksModel" "figures" "[I", Cond.arrayClass .boolean, Cond.fieldLink RX8 37 "BundledLinksModel" "chosen" "[Z", Cond.fieldLink RX8 41 "BundledLinksModel" "seen" "[I", Cond.methodLink RX8 44 yX8_clearsPlan, Cond.instanceMethod yX8_clearsPlan, Cond.selects RX8 yX8_clearsPlan yX8_clearsPlan, Cond.initialized RX8, Cond.code yX8_clearsPlan cX8_clearsPlan 1 none, Cond.fieldLink RX8 54 "BundledLinksModel" "newLinks" "I", Cond.methodLink RX8 47 yX8_adds, Cond.instanceMethod yX8_adds]
def wsX8_init_r2 : List Cond := [Cond.selects RX8 yX8_adds yX8_adds, Cond.code yX8_adds cX8_adds 5 none, Cond.methodLink RX8 51 yX8_lays, Cond.instanceMethod yX8_lays, Cond.selects RX8 yX8_lays yX8_lays, Cond.code yX8_lays cX8_lays 4 none, Cond.fieldLink RX8 83 "BundledLinksModel" "links" "I", Cond.fieldLink RX8 86 "BundledLinksModel" "wait" "I", Cond.fieldLink RX8 89 "BundledLinksModel" "drain" "I", Cond.fieldLink RX8 96 "BundledLinksModel" "undos" "I", Cond.methodLink RX8 92 yX8_place, Cond.static yX8_place, Cond.code yX8_place cX8_place 2 (some .int)]
def wsX8_init : List Cond := .code yX8_init cX8_init 1 none :: ((wsX8_init_r1 ++ wsX8_init_r2) ++ wsX80)
def wsX8_within : List Cond := .code yX8_within cX8_within 3 (some .boolean) :: ([])
def wsX8_passes : List Cond := .code yX8_passes cX8_passes 3 (some .boolean) :: ([.fieldLink RX8 58 "BundledLinksModel" "at" "I", .fieldLink RX8 61 "BundledLinksModel" "letters" "I", .fieldLink RX8 22 "BundledLinksModel" "text" "[I"] ++ wsX80)
def wsX8_areFigures : List Cond := .code yX8_areFigures cX8_areFigures 4 (some .boolean) :: ([.fieldLink RX8 58 "BundledLinksModel" "at" "I", .fieldLink RX8 61 "BundledLinksModel" "letters" "I", .fieldLink RX8 22 "BundledLinksModel" "text" "[I", .fieldLink RX8 34 "BundledLinksModel" "figures" "[I", .methodLink RX8 64 yX8_passes, .instanceMethod yX8_passes, .selects RX8 yX8_passes yX8_passes, .initialized RX8, .code yX8_passes cX8_passes 3 (some .boolean), .methodLink RX8 68 yX8_within, .static yX8_within, .code yX8_within cX8_within 3 (some .boolean)] ++ wsX80)
def wsX8_isItem : List Cond := .code yX8_isItem cX8_isItem 2 (some .boolean) :: ([.fieldLink RX8 54 "BundledLinksModel" "newLinks" "I", .fieldLink RX8 34 "BundledLinksModel" "figures" "[I", .fieldLink RX8 28 "BundledLinksModel" "ranks" "[I", .fieldLink RX8 31 "BundledLinksModel" "more" "[I", .methodLink RX8 64 yX8_passes, .instanceMethod yX8_passes, .selects RX8 yX8_passes yX8_passes, .initialized RX8, .code yX8_passes cX8_passes 3 (some .boolean), .fieldLink RX8 58 "BundledLinksModel" "at" "I", .fieldLink RX8 61 "BundledLinksModel" "letters" "I", .fieldLink RX8 22 "BundledLinksModel" "text" "[I", .methodLink RX8 72 yX8_areFigures, .instanceMethod yX8_areFigures, .selects RX8 yX8_areFigures yX8_areFigures, .code yX8_areFigures cX8_areFigures 4 (some .boolean), .methodLink RX8 68 yX8_within, .static yX8_within, .code yX8_within cX8_within 3 (some .boolean), .methodLink RX8 47 yX8_adds, .instanceMethod yX8_adds, .selects RX8 yX8_adds yX8_adds, .code yX8_adds cX8_adds 5 none, .fieldLink RX8 25 "BundledLinksModel" "told" "[I"] ++ wsX80)
def wsX8_faultAt_r1 : List Cond := [Cond.fieldLink RX8 58 "BundledLinksModel" "at" "I", Cond.fieldLink RX8 61 "BundledLinksModel" "letters" "I", Cond.methodLink RX8 44 yX8_clearsPlan, Cond.instanceMethod yX8_clearsPlan, Cond.selects RX8 yX8_clearsPlan yX8_clearsPlan, Cond.initialized RX8, Cond.code yX8_clearsPlan cX8_clearsPlan 1 none, Cond.fieldLink RX8 54 "BundledLinksModel" "newLinks" "I", Cond.fieldLink RX8 28 "BundledLinksModel" "ranks" "[I", Cond.fieldLink RX8 31 "BundledLinksModel" "more" "[I", Cond.methodLink RX8 75 yX8_isItem, Cond.instanceMethod yX8_isItem, Cond.selects RX8 yX8_isItem yX8_isItem, Cond.code yX8_isItem cX8_isItem 2 (some .boolean), Cond.fieldLink RX8 34 "BundledLinksModel" "figures" "[I", Cond.methodLink RX8 64 yX8_passes, Cond.instanceMethod yX8_passes, Cond.selects RX8 yX8_passes yX8_passes, Cond.code yX8_passes cX8_passes 3 (some .boolean), Cond.fieldLink RX8 22 "BundledLinksModel" "text" "[I", Cond.methodLink RX8 72 yX8_areFigures, Cond.instanceMethod yX8_areFigures, Cond.selects RX8 yX8_areFigures yX8_areFigures, Cond.code yX8_areFigures cX8_areFigures 4 (some .boolean)]
def wsX8_faultAt_r2 : List Cond := [Cond.methodLink RX8 68 yX8_within, Cond.static yX8_within, Cond.code yX8_within cX8_within 3 (some .boolean), Cond.methodLink RX8 47 yX8_adds, Cond.instanceMethod yX8_adds, Cond.selects RX8 yX8_adds yX8_adds, Cond.code yX8_adds cX8_adds 5 none, Cond.fieldLink RX8 25 "BundledLinksModel" "told" "[I"]
def wsX8_faultAt : List Cond := .code yX8_faultAt cX8_faultAt 2 (some .int) :: ((wsX8_faultAt_r1 ++ wsX8_faultAt_r2) ++ wsX80)
def wsX8_write : List Cond := .code yX8_write cX8_write 2 (some .int) :: ([.fieldLink RX8 61 "BundledLinksModel" "letters" "I", .fieldLink RX8 22 "BundledLinksModel" "text" "[I", .methodLink RX8 68 yX8_within, .static yX8_within, .initialized RX8, .code yX8_within cX8_within 3 (some .boolean)] ++ wsX80)
def wsX8_wipe : List Cond := .code yX8_wipe cX8_wipe 2 (some .int) :: ([.fieldLink RX8 61 "BundledLinksModel" "letters" "I"] ++ wsX80)
def wsX8_fault_r1 : List Cond := [Cond.methodLink RX8 79 yX8_faultAt, Cond.instanceMethod yX8_faultAt, Cond.selects RX8 yX8_faultAt yX8_faultAt, Cond.initialized RX8, Cond.code yX8_faultAt cX8_faultAt 2 (some .int), Cond.fieldLink RX8 58 "BundledLinksModel" "at" "I", Cond.fieldLink RX8 61 "BundledLinksModel" "letters" "I", Cond.methodLink RX8 44 yX8_clearsPlan, Cond.instanceMethod yX8_clearsPlan, Cond.selects RX8 yX8_clearsPlan yX8_clearsPlan, Cond.code yX8_clearsPlan cX8_clearsPlan 1 none, Cond.fieldLink RX8 54 "BundledLinksModel" "newLinks" "I", Cond.fieldLink RX8 28 "BundledLinksModel" "ranks" "[I", Cond.fieldLink RX8 31 "BundledLinksModel" "more" "[I", Cond.methodLink RX8 75 yX8_isItem, Cond.instanceMethod yX8_isItem, Cond.selects RX8 yX8_isItem yX8_isItem, Cond.code yX8_isItem cX8_isItem 2 (some .boolean), Cond.fieldLink RX8 34 "BundledLinksModel" "figures" "[I", Cond.methodLink RX8 64 yX8_passes, Cond.instanceMethod yX8_passes, Cond.selects RX8 yX8_passes yX8_passes, Cond.code yX8_passes cX8_passes 3 (some .boolean), Cond.fieldLink RX8 22 "BundledLinksModel" "text" "[I"]
def wsX8_fault_r2 : List Cond := [Cond.methodLink RX8 72 yX8_areFigures, Cond.instanceMethod yX8_areFigures, Cond.selects RX8 yX8_areFigures yX8_areFigures, Cond.code yX8_areFigures cX8_areFigures 4 (some .boolean), Cond.methodLink RX8 68 yX8_within, Cond.static yX8_within, Cond.code yX8_within cX8_within 3 (some .boolean), Cond.methodLink RX8 47 yX8_adds, Cond.instanceMethod yX8_adds, Cond.selects RX8 yX8_adds yX8_adds, Cond.code yX8_adds cX8_adds 5 none, Cond.fieldLink RX8 25 "BundledLinksModel" "told" "[I"]
def wsX8_fault : List Cond := .code yX8_fault cX8_fault 1 (some .int) :: ((wsX8_fault_r1 ++ wsX8_fault_r2) ++ wsX80)
def wsX8_lay_r1 : List Cond := [Cond.fieldLink RX8 54 "BundledLinksModel" "newLinks" "I", Cond.fieldLink RX8 83 "BundledLinksModel" "links" "I", Cond.methodLink RX8 79 yX8_faultAt, Cond.instanceMethod yX8_faultAt, Cond.selects RX8 yX8_faultAt yX8_faultAt, Cond.initialized RX8, Cond.code yX8_faultAt cX8_faultAt 2 (some .int), Cond.fieldLink RX8 58 "BundledLinksModel" "at" "I", Cond.fieldLink RX8 61 "BundledLinksModel" "letters" "I", Cond.methodLink RX8 44 yX8_clearsPlan, Cond.instanceMethod yX8_clearsPlan, Cond.selects RX8 yX8_clearsPlan yX8_clearsPlan, Cond.code yX8_clearsPlan cX8_clearsPlan 1 none, Cond.fieldLink RX8 28 "BundledLinksModel" "ranks" "[I", Cond.fieldLink RX8 31 "BundledLinksModel" "more" "[I", Cond.methodLink RX8 75 yX8_isItem, Cond.instanceMethod yX8_isItem, Cond.selects RX8 yX8_isItem yX8_isItem, Cond.code yX8_isItem cX8_isItem 2 (some .boolean), Cond.fieldLink RX8 34 "BundledLinksModel" "figures" "[I", Cond.methodLink RX8 64 yX8_passes, Cond.instanceMethod yX8_passes, Cond.selects RX8 yX8_passes yX8_passes, Cond.code yX8_passes cX8_passes 3 (some .boolean)]
def wsX8_lay_r2 : List Cond := [Cond.fieldLink RX8 22 "BundledLinksModel" "text" "[I", Cond.methodLink RX8 72 yX8_areFigures, Cond.instanceMethod yX8_areFigures, Cond.selects RX8 yX8_areFigures yX8_areFigures, Cond.code yX8_areFigures cX8_areFigures 4 (some .boolean), Cond.methodLink RX8 68 yX8_within, Cond.static yX8_within, Cond.code yX8_within cX8_within 3 (some .boolean), Cond.methodLink RX8 47 yX8_adds, Cond.instanceMethod yX8_adds, Cond.selects RX8 yX8_adds yX8_adds, Cond.code yX8_adds cX8_adds 5 none, Cond.fieldLink RX8 25 "BundledLinksModel" "told" "[I", Cond.methodLink RX8 51 yX8_lays, Cond.instanceMethod yX8_lays, Cond.selects RX8 yX8_lays yX8_lays, Cond.code yX8_lays cX8_lays 4 none, Cond.fieldLink RX8 86 "BundledLinksModel" "wait" "I", Cond.fieldLink RX8 89 "BundledLinksModel" "drain" "I", Cond.fieldLink RX8 7 "BundledLinksModel" "now" "[I", Cond.fieldLink RX8 19 "BundledLinksModel" "frames" "[I", Cond.fieldLink RX8 96 "BundledLinksModel" "undos" "I", Cond.methodLink RX8 92 yX8_place, Cond.static yX8_place]
def wsX8_lay_r3 : List Cond := [Cond.code yX8_place cX8_place 2 (some .int)]
def wsX8_lay : List Cond := .code yX8_lay cX8_lay 1 (some .int) :: ((wsX8_lay_r1 ++ (wsX8_lay_r2 ++ wsX8_lay_r3)) ++ wsX80)
def wsX8_isEnd : List Cond := .code yX8_isEnd cX8_isEnd 1 (some .boolean) :: ([])
def wsX8_isLink : List Cond := .code yX8_isLink cX8_isLink 2 (some .boolean) :: ([.fieldLink RX8 83 "BundledLinksModel" "links" "I", .methodLink RX8 68 yX8_within, .static yX8_within, .initialized RX8, .code yX8_within cX8_within 3 (some .boolean)] ++ wsX80)
def wsX8_keeps : List Cond := .code yX8_keeps cX8_keeps 2 none :: ([.fieldLink RX8 96 "BundledLinksModel" "undos" "I", .fieldLink RX8 16 "BundledLinksModel" "past" "[I", .fieldLink RX8 7 "BundledLinksModel" "now" "[I"] ++ wsX80)
def wsX8_upMany : List Cond := .code yX8_upMany cX8_upMany 3 (some .int) :: ([.fieldLink RX8 83 "BundledLinksModel" "links" "I", .fieldLink RX8 7 "BundledLinksModel" "now" "[I"] ++ wsX80)
def wsX8_plug : List Cond := .code yX8_plug cX8_plug 3 (some .int) :: ([.fieldLink RX8 7 "BundledLinksModel" "now" "[I", .methodLink RX8 99 yX8_isLink, .instanceMethod yX8_isLink, .selects RX8 yX8_isLink yX8_isLink, .initialized RX8, .code yX8_isLink cX8_isLink 2 (some .boolean), .fieldLink RX8 83 "BundledLinksModel" "links" "I", .methodLink RX8 68 yX8_within, .static yX8_within, .code yX8_within cX8_within 3 (some .boolean), .methodLink RX8 102 yX8_keeps, .instanceMethod yX8_keeps, .selects RX8 yX8_keeps yX8_keeps, .code yX8_keeps cX8_keeps 2 none, .fieldLink RX8 96 "BundledLinksModel" "undos" "I", .fieldLink RX8 16 "BundledLinksModel" "past" "[I", .methodLink RX8 105 yX8_upMany, .instanceMethod yX8_upMany, .selects RX8 yX8_upMany yX8_upMany, .code yX8_upMany cX8_upMany 3 (some .int)] ++ wsX80)
def wsX8_mute : List Cond := .code yX8_mute cX8_mute 6 (some .int) :: ([.fieldLink RX8 7 "BundledLinksModel" "now" "[I", .fieldLink RX8 83 "BundledLinksModel" "links" "I", .methodLink RX8 108 yX8_isEnd, .static yX8_isEnd, .initialized RX8, .code yX8_isEnd cX8_isEnd 1 (some .boolean), .methodLink RX8 99 yX8_isLink, .instanceMethod yX8_isLink, .selects RX8 yX8_isLink yX8_isLink, .code yX8_isLink cX8_isLink 2 (some .boolean), .methodLink RX8 68 yX8_within, .static yX8_within, .code yX8_within cX8_within 3 (some .boolean), .methodLink RX8 92 yX8_place, .static yX8_place, .code yX8_place cX8_place 2 (some .int), .methodLink RX8 102 yX8_keeps, .instanceMethod yX8_keeps, .selects RX8 yX8_keeps yX8_keeps, .code yX8_keeps cX8_keeps 2 none, .fieldLink RX8 96 "BundledLinksModel" "undos" "I", .fieldLink RX8 16 "BundledLinksModel" "past" "[I"] ++ wsX80)
def wsX8_becomes : List Cond := .code yX8_becomes cX8_becomes 4 (some .int) :: ([.fieldLink RX8 7 "BundledLinksModel" "now" "[I", .methodLink RX8 102 yX8_keeps, .instanceMethod yX8_keeps, .selects RX8 yX8_keeps yX8_keeps, .initialized RX8, .code yX8_keeps cX8_keeps 2 none, .fieldLink RX8 96 "BundledLinksModel" "undos" "I", .fieldLink RX8 16 "BundledLinksModel" "past" "[I"] ++ wsX80)
def wsX8_tell_r1 : List Cond := [Cond.methodLink RX8 108 yX8_isEnd, Cond.static yX8_isEnd, Cond.initialized RX8, Cond.code yX8_isEnd cX8_isEnd 1 (some .boolean), Cond.methodLink RX8 99 yX8_isLink, Cond.instanceMethod yX8_isLink, Cond.selects RX8 yX8_isLink yX8_isLink, Cond.code yX8_isLink cX8_isLink 2 (some .boolean), Cond.fieldLink RX8 83 "BundledLinksModel" "links" "I", Cond.methodLink RX8 68 yX8_within, Cond.static yX8_within, Cond.code yX8_within cX8_within 3 (some .boolean), Cond.methodLink RX8 92 yX8_place, Cond.static yX8_place, Cond.code yX8_place cX8_place 2 (some .int), Cond.methodLink RX8 111 yX8_becomes, Cond.instanceMethod yX8_becomes, Cond.selects RX8 yX8_becomes yX8_becomes, Cond.code yX8_becomes cX8_becomes 4 (some .int), Cond.fieldLink RX8 7 "BundledLinksModel" "now" "[I", Cond.methodLink RX8 102 yX8_keeps, Cond.instanceMethod yX8_keeps, Cond.selects RX8 yX8_keeps yX8_keeps, Cond.code yX8_keeps cX8_keeps 2 none]
def wsX8_tell_r2 : List Cond := [Cond.fieldLink RX8 96 "BundledLinksModel" "undos" "I", Cond.fieldLink RX8 16 "BundledLinksModel" "past" "[I"]
def wsX8_tell : List Cond := .code yX8_tell cX8_tell 5 (some .int) :: ((wsX8_tell_r1 ++ wsX8_tell_r2) ++ wsX80)
def wsX8_set : List Cond := .code yX8_set cX8_set 3 (some .int) :: ([.methodLink RX8 68 yX8_within, .static yX8_within, .initialized RX8, .code yX8_within cX8_within 3 (some .boolean), .methodLink RX8 111 yX8_becomes, .instanceMethod yX8_becomes, .selects RX8 yX8_becomes yX8_becomes, .code yX8_becomes cX8_becomes 4 (some .int), .fieldLink RX8 7 "BundledLinksModel" "now" "[I", .methodLink RX8 102 yX8_keeps, .instanceMethod yX8_keeps, .selects RX8 yX8_keeps yX8_keeps, .code yX8_keeps cX8_keeps 2 none, .fieldLink RX8 96 "BundledLinksModel" "undos" "I", .fieldLink RX8 16 "BundledLinksModel" "past" "[I"] ++ wsX80)
def wsX8_undo : List Cond := .code yX8_undo cX8_undo 2 (some .int) :: ([.fieldLink RX8 96 "BundledLinksModel" "undos" "I", .fieldLink RX8 7 "BundledLinksModel" "now" "[I", .fieldLink RX8 16 "BundledLinksModel" "past" "[I"] ++ wsX80)
def wsX8_knowsNothing : List Cond := .code yX8_knowsNothing cX8_knowsNothing 2 none :: ([.fieldLink RX8 7 "BundledLinksModel" "now" "[I"] ++ wsX80)
def wsX8_comes : List Cond := .code yX8_comes cX8_comes 6 none :: ([.fieldLink RX8 7 "BundledLinksModel" "now" "[I", .methodLink RX8 92 yX8_place, .static yX8_place, .initialized RX8, .code yX8_place cX8_place 2 (some .int), .methodLink RX8 114 yX8_knowsNothing, .instanceMethod yX8_knowsNothing, .selects RX8 yX8_knowsNothing yX8_knowsNothing, .code yX8_knowsNothing cX8_knowsNothing 2 none] ++ wsX80)
def wsX8_isOpen : List Cond := .code yX8_isOpen cX8_isOpen 3 (some .boolean) :: ([.fieldLink RX8 7 "BundledLinksModel" "now" "[I", .methodLink RX8 92 yX8_place, .static yX8_place, .initialized RX8, .code yX8_place cX8_place 2 (some .int)] ++ wsX80)
def wsX8_doesDecide : List Cond := .code yX8_doesDecide cX8_doesDecide 5 (some .boolean) :: ([.fieldLink RX8 83 "BundledLinksModel" "links" "I", .fieldLink RX8 7 "BundledLinksModel" "now" "[I", .methodLink RX8 118 yX8_isOpen, .instanceMethod yX8_isOpen, .selects RX8 yX8_isOpen yX8_isOpen, .initialized RX8, .code yX8_isOpen cX8_isOpen 3 (some .boolean), .methodLink RX8 92 yX8_place, .static yX8_place, .code yX8_place cX8_place 2 (some .int)] ++ wsX80)
def wsX8_isPair : List Cond := .code yX8_isPair cX8_isPair 4 (some .boolean) :: ([.fieldLink RX8 7 "BundledLinksModel" "now" "[I", .methodLink RX8 92 yX8_place, .static yX8_place, .initialized RX8, .code yX8_place cX8_place 2 (some .int)] ++ wsX80)
def wsX8_ahead : List Cond := .code yX8_ahead cX8_ahead 10 (some .int) :: ([.fieldLink RX8 7 "BundledLinksModel" "now" "[I", .fieldLink RX8 83 "BundledLinksModel" "links" "I", .methodLink RX8 92 yX8_place, .static yX8_place, .initialized RX8, .code yX8_place cX8_place 2 (some .int), .methodLink RX8 118 yX8_isOpen, .instanceMethod yX8_isOpen, .selects RX8 yX8_isOpen yX8_isOpen, .code yX8_isOpen cX8_isOpen 3 (some .boolean), .methodLink RX8 122 yX8_isPair, .instanceMethod yX8_isPair, .selects RX8 yX8_isPair yX8_isPair, .code yX8_isPair cX8_isPair 4 (some .boolean)] ++ wsX80)
def wsX8_chooses : List Cond := .code yX8_chooses cX8_chooses 5 none :: ([.fieldLink RX8 83 "BundledLinksModel" "links" "I", .fieldLink RX8 37 "BundledLinksModel" "chosen" "[Z", .fieldLink RX8 7 "BundledLinksModel" "now" "[I", .methodLink RX8 125 yX8_doesDecide, .instanceMethod yX8_doesDecide, .selects RX8 yX8_doesDecide yX8_doesDecide, .initialized RX8, .code yX8_doesDecide cX8_doesDecide 5 (some .boolean), .methodLink RX8 118 yX8_isOpen, .instanceMethod yX8_isOpen, .selects RX8 yX8_isOpen yX8_isOpen, .code yX8_isOpen cX8_isOpen 3 (some .boolean), .methodLink RX8 92 yX8_place, .static yX8_place, .code yX8_place cX8_place 2 (some .int), .methodLink RX8 128 yX8_ahead, .instanceMethod yX8_ahead, .selects RX8 yX8_ahead yX8_ahead, .code yX8_ahead cX8_ahead 10 (some .int), .methodLink RX8 122 yX8_isPair, .instanceMethod yX8_isPair, .selects RX8 yX8_isPair yX8_isPair, .code yX8_isPair cX8_isPair 4 (some .boolean)] ++ wsX80)
def wsX8_howOf : List Cond := .code yX8_howOf cX8_howOf 3 (some .int) :: ([.fieldLink RX8 7 "BundledLinksModel" "now" "[I", .fieldLink RX8 86 "BundledLinksModel" "wait" "I"] ++ wsX80)
def wsX8_becomesHow_r1 : List Cond := [Cond.fieldLink RX8 83 "BundledLinksModel" "links" "I", Cond.fieldLink RX8 7 "BundledLinksModel" "now" "[I", Cond.fieldLink RX8 37 "BundledLinksModel" "chosen" "[Z", Cond.methodLink RX8 132 yX8_chooses, Cond.instanceMethod yX8_chooses, Cond.selects RX8 yX8_chooses yX8_chooses, Cond.initialized RX8, Cond.code yX8_chooses cX8_chooses 5 none, Cond.methodLink RX8 125 yX8_doesDecide, Cond.instanceMethod yX8_doesDecide, Cond.selects RX8 yX8_doesDecide yX8_doesDecide, Cond.code yX8_doesDecide cX8_doesDecide 5 (some .boolean), Cond.methodLink RX8 118 yX8_isOpen, Cond.instanceMethod yX8_isOpen, Cond.selects RX8 yX8_isOpen yX8_isOpen, Cond.code yX8_isOpen cX8_isOpen 3 (some .boolean), Cond.methodLink RX8 92 yX8_place, Cond.static yX8_place, Cond.code yX8_place cX8_place 2 (some .int), Cond.methodLink RX8 128 yX8_ahead, Cond.instanceMethod yX8_ahead, Cond.selects RX8 yX8_ahead yX8_ahead, Cond.code yX8_ahead cX8_ahead 10 (some .int), Cond.methodLink RX8 122 yX8_isPair]
def wsX8_becomesHow_r2 : List Cond := [Cond.instanceMethod yX8_isPair, Cond.selects RX8 yX8_isPair yX8_isPair, Cond.code yX8_isPair cX8_isPair 4 (some .boolean), Cond.methodLink RX8 135 yX8_howOf, Cond.instanceMethod yX8_howOf, Cond.selects RX8 yX8_howOf yX8_howOf, Cond.code yX8_howOf cX8_howOf 3 (some .int), Cond.fieldLink RX8 86 "BundledLinksModel" "wait" "I"]
def wsX8_becomesHow : List Cond := .code yX8_becomesHow cX8_becomesHow 5 none :: ((wsX8_becomesHow_r1 ++ wsX8_becomesHow_r2) ++ wsX80)
def wsX8_sends : List Cond := .code yX8_sends cX8_sends 4 none :: ([.fieldLink RX8 7 "BundledLinksModel" "now" "[I", .methodLink RX8 92 yX8_place, .static yX8_place, .initialized RX8, .code yX8_place cX8_place 2 (some .int)] ++ wsX80)
def wsX8_isSending : List Cond := .code yX8_isSending cX8_isSending 3 (some .boolean) :: ([.fieldLink RX8 7 "BundledLinksModel" "now" "[I", .methodLink RX8 92 yX8_place, .static yX8_place, .initialized RX8, .code yX8_place cX8_place 2 (some .int)] ++ wsX80)
def wsX8_wants : List Cond := .code yX8_wants cX8_wants 6 (some .int) :: ([.fieldLink RX8 83 "BundledLinksModel" "links" "I", .methodLink RX8 138 yX8_isSending, .instanceMethod yX8_isSending, .selects RX8 yX8_isSending yX8_isSending, .initialized RX8, .code yX8_isSending cX8_isSending 3 (some .boolean), .fieldLink RX8 7 "BundledLinksModel" "now" "[I", .methodLink RX8 92 yX8_place, .static yX8_place, .code yX8_place cX8_place 2 (some .int)] ++ wsX80)
def wsX8_deals : List Cond := .code yX8_deals cX8_deals 5 none :: ([.fieldLink RX8 7 "BundledLinksModel" "now" "[I", .fieldLink RX8 89 "BundledLinksModel" "drain" "I", .methodLink RX8 141 yX8_wants, .instanceMethod yX8_wants, .selects RX8 yX8_wants yX8_wants, .initialized RX8, .code yX8_wants cX8_wants 6 (some .int), .fieldLink RX8 83 "BundledLinksModel" "links" "I", .methodLink RX8 138 yX8_isSending, .instanceMethod yX8_isSending, .selects RX8 yX8_isSending yX8_isSending, .code yX8_isSending cX8_isSending 3 (some .boolean), .methodLink RX8 92 yX8_place, .static yX8_place, .code yX8_place cX8_place 2 (some .int)] ++ wsX80)
def wsX8_ticks_r1 : List Cond := [Cond.fieldLink RX8 7 "BundledLinksModel" "now" "[I", Cond.fieldLink RX8 83 "BundledLinksModel" "links" "I", Cond.methodLink RX8 144 yX8_comes, Cond.instanceMethod yX8_comes, Cond.selects RX8 yX8_comes yX8_comes, Cond.initialized RX8, Cond.code yX8_comes cX8_comes 6 none, Cond.methodLink RX8 92 yX8_place, Cond.static yX8_place, Cond.code yX8_place cX8_place 2 (some .int), Cond.methodLink RX8 114 yX8_knowsNothing, Cond.instanceMethod yX8_knowsNothing, Cond.selects RX8 yX8_knowsNothing yX8_knowsNothing, Cond.code yX8_knowsNothing cX8_knowsNothing 2 none, Cond.methodLink RX8 148 yX8_becomesHow, Cond.instanceMethod yX8_becomesHow, Cond.selects RX8 yX8_becomesHow yX8_becomesHow, Cond.code yX8_becomesHow cX8_becomesHow 5 none, Cond.fieldLink RX8 37 "BundledLinksModel" "chosen" "[Z", Cond.methodLink RX8 132 yX8_chooses, Cond.instanceMethod yX8_chooses, Cond.selects RX8 yX8_chooses yX8_chooses, Cond.code yX8_chooses cX8_chooses 5 none, Cond.methodLink RX8 125 yX8_doesDecide]
def wsX8_ticks_r2 : List Cond := [Cond.instanceMethod yX8_doesDecide, Cond.selects RX8 yX8_doesDecide yX8_doesDecide, Cond.code yX8_doesDecide cX8_doesDecide 5 (some .boolean), Cond.methodLink RX8 118 yX8_isOpen, Cond.instanceMethod yX8_isOpen, Cond.selects RX8 yX8_isOpen yX8_isOpen, Cond.code yX8_isOpen cX8_isOpen 3 (some .boolean), Cond.methodLink RX8 128 yX8_ahead, Cond.instanceMethod yX8_ahead, Cond.selects RX8 yX8_ahead yX8_ahead, Cond.code yX8_ahead cX8_ahead 10 (some .int), Cond.methodLink RX8 122 yX8_isPair, Cond.instanceMethod yX8_isPair, Cond.selects RX8 yX8_isPair yX8_isPair, Cond.code yX8_isPair cX8_isPair 4 (some .boolean), Cond.methodLink RX8 135 yX8_howOf, Cond.instanceMethod yX8_howOf, Cond.selects RX8 yX8_howOf yX8_howOf, Cond.code yX8_howOf cX8_howOf 3 (some .int), Cond.fieldLink RX8 86 "BundledLinksModel" "wait" "I", Cond.methodLink RX8 151 yX8_sends, Cond.instanceMethod yX8_sends, Cond.selects RX8 yX8_sends yX8_sends, Cond.code yX8_sends cX8_sends 4 none]
def wsX8_ticks_r3 : List Cond := [Cond.methodLink RX8 154 yX8_deals, Cond.instanceMethod yX8_deals, Cond.selects RX8 yX8_deals yX8_deals, Cond.code yX8_deals cX8_deals 5 none, Cond.fieldLink RX8 89 "BundledLinksModel" "drain" "I", Cond.methodLink RX8 141 yX8_wants, Cond.instanceMethod yX8_wants, Cond.selects RX8 yX8_wants yX8_wants, Cond.code yX8_wants cX8_wants 6 (some .int), Cond.methodLink RX8 138 yX8_isSending, Cond.instanceMethod yX8_isSending, Cond.selects RX8 yX8_isSending yX8_isSending, Cond.code yX8_isSending cX8_isSending 3 (some .boolean)]
def wsX8_ticks : List Cond := .code yX8_ticks cX8_ticks 2 none :: ((wsX8_ticks_r1 ++ (wsX8_ticks_r2 ++ wsX8_ticks_r3)) ++ wsX80)
def wsX8_sendingSet : List Cond := .code yX8_sendingSet cX8_sendingSet 4 (some .int) :: ([.fieldLink RX8 83 "BundledLinksModel" "links" "I", .methodLink RX8 138 yX8_isSending, .instanceMethod yX8_isSending, .selects RX8 yX8_isSending yX8_isSending, .initialized RX8, .code yX8_isSending cX8_isSending 3 (some .boolean), .fieldLink RX8 7 "BundledLinksModel" "now" "[I", .methodLink RX8 92 yX8_place, .static yX8_place, .code yX8_place cX8_place 2 (some .int)] ++ wsX80)
def wsX8_agreed : List Cond := .code yX8_agreed cX8_agreed 2 (some .int) :: ([.methodLink RX8 157 yX8_sendingSet, .instanceMethod yX8_sendingSet, .selects RX8 yX8_sendingSet yX8_sendingSet, .initialized RX8, .code yX8_sendingSet cX8_sendingSet 4 (some .int), .fieldLink RX8 83 "BundledLinksModel" "links" "I", .methodLink RX8 138 yX8_isSending, .instanceMethod yX8_isSending, .selects RX8 yX8_isSending yX8_isSending, .code yX8_isSending cX8_isSending 3 (some .boolean), .fieldLink RX8 7 "BundledLinksModel" "now" "[I", .methodLink RX8 92 yX8_place, .static yX8_place, .code yX8_place cX8_place 2 (some .int)] ++ wsX80)
def wsX8_tick_r1 : List Cond := [Cond.fieldLink RX8 7 "BundledLinksModel" "now" "[I", Cond.methodLink RX8 68 yX8_within, Cond.static yX8_within, Cond.initialized RX8, Cond.code yX8_within cX8_within 3 (some .boolean), Cond.methodLink RX8 102 yX8_keeps, Cond.instanceMethod yX8_keeps, Cond.selects RX8 yX8_keeps yX8_keeps, Cond.code yX8_keeps cX8_keeps 2 none, Cond.fieldLink RX8 96 "BundledLinksModel" "undos" "I", Cond.fieldLink RX8 16 "BundledLinksModel" "past" "[I", Cond.methodLink RX8 161 yX8_ticks, Cond.instanceMethod yX8_ticks, Cond.selects RX8 yX8_ticks yX8_ticks, Cond.code yX8_ticks cX8_ticks 2 none, Cond.fieldLink RX8 83 "BundledLinksModel" "links" "I", Cond.methodLink RX8 144 yX8_comes, Cond.instanceMethod yX8_comes, Cond.selects RX8 yX8_comes yX8_comes, Cond.code yX8_comes cX8_comes 6 none, Cond.methodLink RX8 92 yX8_place, Cond.static yX8_place, Cond.code yX8_place cX8_place 2 (some .int), Cond.methodLink RX8 114 yX8_knowsNothing]
def wsX8_tick_r2 : List Cond := [Cond.instanceMethod yX8_knowsNothing, Cond.selects RX8 yX8_knowsNothing yX8_knowsNothing, Cond.code yX8_knowsNothing cX8_knowsNothing 2 none, Cond.methodLink RX8 148 yX8_becomesHow, Cond.instanceMethod yX8_becomesHow, Cond.selects RX8 yX8_becomesHow yX8_becomesHow, Cond.code yX8_becomesHow cX8_becomesHow 5 none, Cond.fieldLink RX8 37 "BundledLinksModel" "chosen" "[Z", Cond.methodLink RX8 132 yX8_chooses, Cond.instanceMethod yX8_chooses, Cond.selects RX8 yX8_chooses yX8_chooses, Cond.code yX8_chooses cX8_chooses 5 none, Cond.methodLink RX8 125 yX8_doesDecide, Cond.instanceMethod yX8_doesDecide, Cond.selects RX8 yX8_doesDecide yX8_doesDecide, Cond.code yX8_doesDecide cX8_doesDecide 5 (some .boolean), Cond.methodLink RX8 118 yX8_isOpen, Cond.instanceMethod yX8_isOpen, Cond.selects RX8 yX8_isOpen yX8_isOpen, Cond.code yX8_isOpen cX8_isOpen 3 (some .boolean), Cond.methodLink RX8 128 yX8_ahead, Cond.instanceMethod yX8_ahead, Cond.selects RX8 yX8_ahead yX8_ahead, Cond.code yX8_ahead cX8_ahead 10 (some .int)]
def wsX8_tick_r3 : List Cond := [Cond.methodLink RX8 122 yX8_isPair, Cond.instanceMethod yX8_isPair, Cond.selects RX8 yX8_isPair yX8_isPair, Cond.code yX8_isPair cX8_isPair 4 (some .boolean), Cond.methodLink RX8 135 yX8_howOf, Cond.instanceMethod yX8_howOf, Cond.selects RX8 yX8_howOf yX8_howOf, Cond.code yX8_howOf cX8_howOf 3 (some .int), Cond.fieldLink RX8 86 "BundledLinksModel" "wait" "I", Cond.methodLink RX8 151 yX8_sends, Cond.instanceMethod yX8_sends, Cond.selects RX8 yX8_sends yX8_sends, Cond.code yX8_sends cX8_sends 4 none, Cond.methodLink RX8 154 yX8_deals, Cond.instanceMethod yX8_deals, Cond.selects RX8 yX8_deals yX8_deals, Cond.code yX8_deals cX8_deals 5 none, Cond.fieldLink RX8 89 "BundledLinksModel" "drain" "I", Cond.methodLink RX8 141 yX8_wants, Cond.instanceMethod yX8_wants, Cond.selects RX8 yX8_wants yX8_wants, Cond.code yX8_wants cX8_wants 6 (some .int), Cond.methodLink RX8 138 yX8_isSending, Cond.instanceMethod yX8_isSending]
def wsX8_tick_r4 : List Cond := [Cond.selects RX8 yX8_isSending yX8_isSending, Cond.code yX8_isSending cX8_isSending 3 (some .boolean), Cond.methodLink RX8 164 yX8_agreed, Cond.instanceMethod yX8_agreed, Cond.selects RX8 yX8_agreed yX8_agreed, Cond.code yX8_agreed cX8_agreed 2 (some .int), Cond.methodLink RX8 157 yX8_sendingSet, Cond.instanceMethod yX8_sendingSet, Cond.selects RX8 yX8_sendingSet yX8_sendingSet, Cond.code yX8_sendingSet cX8_sendingSet 4 (some .int)]
def wsX8_tick : List Cond := .code yX8_tick cX8_tick 3 (some .int) :: ((wsX8_tick_r1 ++ (wsX8_tick_r2 ++ (wsX8_tick_r3 ++ wsX8_tick_r4))) ++ wsX80)
def wsX8_tellLink : List Cond := .code yX8_tellLink cX8_tellLink 3 (some .int) :: ([.fieldLink RX8 7 "BundledLinksModel" "now" "[I"] ++ wsX80)
def wsX8_link : List Cond := .code yX8_link cX8_link 4 (some .int) :: ([.methodLink RX8 108 yX8_isEnd, .static yX8_isEnd, .initialized RX8, .code yX8_isEnd cX8_isEnd 1 (some .boolean), .methodLink RX8 99 yX8_isLink, .instanceMethod yX8_isLink, .selects RX8 yX8_isLink yX8_isLink, .code yX8_isLink cX8_isLink 2 (some .boolean), .fieldLink RX8 83 "BundledLinksModel" "links" "I", .methodLink RX8 68 yX8_within, .static yX8_within, .code yX8_within cX8_within 3 (some .boolean), .methodLink RX8 92 yX8_place, .static yX8_place, .code yX8_place cX8_place 2 (some .int), .methodLink RX8 167 yX8_tellLink, .instanceMethod yX8_tellLink, .selects RX8 yX8_tellLink yX8_tellLink, .code yX8_tellLink cX8_tellLink 3 (some .int), .fieldLink RX8 7 "BundledLinksModel" "now" "[I"] ++ wsX80)
def wsX8_bundle : List Cond := .code yX8_bundle cX8_bundle 7 (some .int) :: ([.fieldLink RX8 83 "BundledLinksModel" "links" "I", .fieldLink RX8 7 "BundledLinksModel" "now" "[I", .methodLink RX8 108 yX8_isEnd, .static yX8_isEnd, .initialized RX8, .code yX8_isEnd cX8_isEnd 1 (some .boolean), .methodLink RX8 68 yX8_within, .static yX8_within, .code yX8_within cX8_within 3 (some .boolean), .methodLink RX8 92 yX8_place, .static yX8_place, .code yX8_place cX8_place 2 (some .int), .methodLink RX8 138 yX8_isSending, .instanceMethod yX8_isSending, .selects RX8 yX8_isSending yX8_isSending, .code yX8_isSending cX8_isSending 3 (some .boolean)] ++ wsX80)
def wsX8_isFlow : List Cond := .code yX8_isFlow cX8_isFlow 1 (some .boolean) :: ([.methodLink RX8 68 yX8_within, .static yX8_within, .initialized RX8, .code yX8_within cX8_within 3 (some .boolean)])
def wsX8_flow : List Cond := .code yX8_flow cX8_flow 4 (some .int) :: ([.fieldLink RX8 7 "BundledLinksModel" "now" "[I", .methodLink RX8 108 yX8_isEnd, .static yX8_isEnd, .initialized RX8, .code yX8_isEnd cX8_isEnd 1 (some .boolean), .methodLink RX8 170 yX8_isFlow, .static yX8_isFlow, .code yX8_isFlow cX8_isFlow 1 (some .boolean), .methodLink RX8 68 yX8_within, .static yX8_within, .code yX8_within cX8_within 3 (some .boolean), .methodLink RX8 141 yX8_wants, .instanceMethod yX8_wants, .selects RX8 yX8_wants yX8_wants, .code yX8_wants cX8_wants 6 (some .int), .fieldLink RX8 83 "BundledLinksModel" "links" "I", .methodLink RX8 138 yX8_isSending, .instanceMethod yX8_isSending, .selects RX8 yX8_isSending yX8_isSending, .code yX8_isSending cX8_isSending 3 (some .boolean), .methodLink RX8 92 yX8_place, .static yX8_place, .code yX8_place cX8_place 2 (some .int)] ++ wsX80)
def wsX8_frame : List Cond := .code yX8_frame cX8_frame 5 (some .int) :: ([.fieldLink RX8 7 "BundledLinksModel" "now" "[I", .fieldLink RX8 19 "BundledLinksModel" "frames" "[I", .methodLink RX8 108 yX8_isEnd, .static yX8_isEnd, .initialized RX8, .code yX8_isEnd cX8_isEnd 1 (some .boolean), .methodLink RX8 170 yX8_isFlow, .static yX8_isFlow, .code yX8_isFlow cX8_isFlow 1 (some .boolean), .methodLink RX8 68 yX8_within, .static yX8_within, .code yX8_within cX8_within 3 (some .boolean), .methodLink RX8 138 yX8_isSending, .instanceMethod yX8_isSending, .selects RX8 yX8_isSending yX8_isSending, .code yX8_isSending cX8_isSending 3 (some .boolean), .methodLink RX8 92 yX8_place, .static yX8_place, .code yX8_place cX8_place 2 (some .int)] ++ wsX80)
def wsX8_frames : List Cond := .code yX8_frames cX8_frames 3 (some .int) :: ([.fieldLink RX8 19 "BundledLinksModel" "frames" "[I", .methodLink RX8 108 yX8_isEnd, .static yX8_isEnd, .initialized RX8, .code yX8_isEnd cX8_isEnd 1 (some .boolean), .methodLink RX8 99 yX8_isLink, .instanceMethod yX8_isLink, .selects RX8 yX8_isLink yX8_isLink, .code yX8_isLink cX8_isLink 2 (some .boolean), .fieldLink RX8 83 "BundledLinksModel" "links" "I", .methodLink RX8 68 yX8_within, .static yX8_within, .code yX8_within cX8_within 3 (some .boolean)] ++ wsX80)
def wsX8_isOther : List Cond := .code yX8_isOther cX8_isOther 4 (some .boolean) :: ([.fieldLink RX8 7 "BundledLinksModel" "now" "[I", .fieldLink RX8 41 "BundledLinksModel" "seen" "[I"] ++ wsX80)
def wsX8_fewest_r1 : List Cond := [Cond.methodLink RX8 173 yX8_isOther, Cond.instanceMethod yX8_isOther, Cond.selects RX8 yX8_isOther yX8_isOther, Cond.initialized RX8, Cond.code yX8_isOther cX8_isOther 4 (some .boolean), Cond.fieldLink RX8 7 "BundledLinksModel" "now" "[I", Cond.fieldLink RX8 41 "BundledLinksModel" "seen" "[I", Cond.methodLink RX8 161 yX8_ticks, Cond.instanceMethod yX8_ticks, Cond.selects RX8 yX8_ticks yX8_ticks, Cond.code yX8_ticks cX8_ticks 2 none, Cond.fieldLink RX8 83 "BundledLinksModel" "links" "I", Cond.methodLink RX8 144 yX8_comes, Cond.instanceMethod yX8_comes, Cond.selects RX8 yX8_comes yX8_comes, Cond.code yX8_comes cX8_comes 6 none, Cond.methodLink RX8 92 yX8_place, Cond.static yX8_place, Cond.code yX8_place cX8_place 2 (some .int), Cond.methodLink RX8 114 yX8_knowsNothing, Cond.instanceMethod yX8_knowsNothing, Cond.selects RX8 yX8_knowsNothing yX8_knowsNothing, Cond.code yX8_knowsNothing cX8_knowsNothing 2 none, Cond.methodLink RX8 148 yX8_becomesHow]
def wsX8_fewest_r2 : List Cond := [Cond.instanceMethod yX8_becomesHow, Cond.selects RX8 yX8_becomesHow yX8_becomesHow, Cond.code yX8_becomesHow cX8_becomesHow 5 none, Cond.fieldLink RX8 37 "BundledLinksModel" "chosen" "[Z", Cond.methodLink RX8 132 yX8_chooses, Cond.instanceMethod yX8_chooses, Cond.selects RX8 yX8_chooses yX8_chooses, Cond.code yX8_chooses cX8_chooses 5 none, Cond.methodLink RX8 125 yX8_doesDecide, Cond.instanceMethod yX8_doesDecide, Cond.selects RX8 yX8_doesDecide yX8_doesDecide, Cond.code yX8_doesDecide cX8_doesDecide 5 (some .boolean), Cond.methodLink RX8 118 yX8_isOpen, Cond.instanceMethod yX8_isOpen, Cond.selects RX8 yX8_isOpen yX8_isOpen, Cond.code yX8_isOpen cX8_isOpen 3 (some .boolean), Cond.methodLink RX8 128 yX8_ahead, Cond.instanceMethod yX8_ahead, Cond.selects RX8 yX8_ahead yX8_ahead, Cond.code yX8_ahead cX8_ahead 10 (some .int), Cond.methodLink RX8 122 yX8_isPair, Cond.instanceMethod yX8_isPair, Cond.selects RX8 yX8_isPair yX8_isPair, Cond.code yX8_isPair cX8_isPair 4 (some .boolean)]
def wsX8_fewest_r3 : List Cond := [Cond.methodLink RX8 135 yX8_howOf, Cond.instanceMethod yX8_howOf, Cond.selects RX8 yX8_howOf yX8_howOf, Cond.code yX8_howOf cX8_howOf 3 (some .int), Cond.fieldLink RX8 86 "BundledLinksModel" "wait" "I", Cond.methodLink RX8 151 yX8_sends, Cond.instanceMethod yX8_sends, Cond.selects RX8 yX8_sends yX8_sends, Cond.code yX8_sends cX8_sends 4 none, Cond.methodLink RX8 154 yX8_deals, Cond.instanceMethod yX8_deals, Cond.selects RX8 yX8_deals yX8_deals, Cond.code yX8_deals cX8_deals 5 none, Cond.fieldLink RX8 89 "BundledLinksModel" "drain" "I", Cond.methodLink RX8 141 yX8_wants, Cond.instanceMethod yX8_wants, Cond.selects RX8 yX8_wants yX8_wants, Cond.code yX8_wants cX8_wants 6 (some .int), Cond.methodLink RX8 138 yX8_isSending, Cond.instanceMethod yX8_isSending, Cond.selects RX8 yX8_isSending yX8_isSending, Cond.code yX8_isSending cX8_isSending 3 (some .boolean)]
def wsX8_fewest : List Cond := .code yX8_fewest cX8_fewest 4 (some .int) :: ((wsX8_fewest_r1 ++ (wsX8_fewest_r2 ++ wsX8_fewest_r3)) ++ wsX80)
def wsX8_settled_r1 : List Cond := [Cond.fieldLink RX8 13 "BundledLinksModel" "kept" "[I", Cond.fieldLink RX8 7 "BundledLinksModel" "now" "[I", Cond.methodLink RX8 176 yX8_fewest, Cond.instanceMethod yX8_fewest, Cond.selects RX8 yX8_fewest yX8_fewest, Cond.initialized RX8, Cond.code yX8_fewest cX8_fewest 4 (some .int), Cond.methodLink RX8 173 yX8_isOther, Cond.instanceMethod yX8_isOther, Cond.selects RX8 yX8_isOther yX8_isOther, Cond.code yX8_isOther cX8_isOther 4 (some .boolean), Cond.fieldLink RX8 41 "BundledLinksModel" "seen" "[I", Cond.methodLink RX8 161 yX8_ticks, Cond.instanceMethod yX8_ticks, Cond.selects RX8 yX8_ticks yX8_ticks, Cond.code yX8_ticks cX8_ticks 2 none, Cond.fieldLink RX8 83 "BundledLinksModel" "links" "I", Cond.methodLink RX8 144 yX8_comes, Cond.instanceMethod yX8_comes, Cond.selects RX8 yX8_comes yX8_comes, Cond.code yX8_comes cX8_comes 6 none, Cond.methodLink RX8 92 yX8_place, Cond.static yX8_place, Cond.code yX8_place cX8_place 2 (some .int)]
def wsX8_settled_r2 : List Cond := [Cond.methodLink RX8 114 yX8_knowsNothing, Cond.instanceMethod yX8_knowsNothing, Cond.selects RX8 yX8_knowsNothing yX8_knowsNothing, Cond.code yX8_knowsNothing cX8_knowsNothing 2 none, Cond.methodLink RX8 148 yX8_becomesHow, Cond.instanceMethod yX8_becomesHow, Cond.selects RX8 yX8_becomesHow yX8_becomesHow, Cond.code yX8_becomesHow cX8_becomesHow 5 none, Cond.fieldLink RX8 37 "BundledLinksModel" "chosen" "[Z", Cond.methodLink RX8 132 yX8_chooses, Cond.instanceMethod yX8_chooses, Cond.selects RX8 yX8_chooses yX8_chooses, Cond.code yX8_chooses cX8_chooses 5 none, Cond.methodLink RX8 125 yX8_doesDecide, Cond.instanceMethod yX8_doesDecide, Cond.selects RX8 yX8_doesDecide yX8_doesDecide, Cond.code yX8_doesDecide cX8_doesDecide 5 (some .boolean), Cond.methodLink RX8 118 yX8_isOpen, Cond.instanceMethod yX8_isOpen, Cond.selects RX8 yX8_isOpen yX8_isOpen, Cond.code yX8_isOpen cX8_isOpen 3 (some .boolean), Cond.methodLink RX8 128 yX8_ahead, Cond.instanceMethod yX8_ahead, Cond.selects RX8 yX8_ahead yX8_ahead]
def wsX8_settled_r3 : List Cond := [Cond.code yX8_ahead cX8_ahead 10 (some .int), Cond.methodLink RX8 122 yX8_isPair, Cond.instanceMethod yX8_isPair, Cond.selects RX8 yX8_isPair yX8_isPair, Cond.code yX8_isPair cX8_isPair 4 (some .boolean), Cond.methodLink RX8 135 yX8_howOf, Cond.instanceMethod yX8_howOf, Cond.selects RX8 yX8_howOf yX8_howOf, Cond.code yX8_howOf cX8_howOf 3 (some .int), Cond.fieldLink RX8 86 "BundledLinksModel" "wait" "I", Cond.methodLink RX8 151 yX8_sends, Cond.instanceMethod yX8_sends, Cond.selects RX8 yX8_sends yX8_sends, Cond.code yX8_sends cX8_sends 4 none, Cond.methodLink RX8 154 yX8_deals, Cond.instanceMethod yX8_deals, Cond.selects RX8 yX8_deals yX8_deals, Cond.code yX8_deals cX8_deals 5 none, Cond.fieldLink RX8 89 "BundledLinksModel" "drain" "I", Cond.methodLink RX8 141 yX8_wants, Cond.instanceMethod yX8_wants, Cond.selects RX8 yX8_wants yX8_wants, Cond.code yX8_wants cX8_wants 6 (some .int), Cond.methodLink RX8 138 yX8_isSending]
def wsX8_settled_r4 : List Cond := [Cond.instanceMethod yX8_isSending, Cond.selects RX8 yX8_isSending yX8_isSending, Cond.code yX8_isSending cX8_isSending 3 (some .boolean)]
def wsX8_settled : List Cond := .code yX8_settled cX8_settled 3 (some .int) :: ((wsX8_settled_r1 ++ (wsX8_settled_r2 ++ (wsX8_settled_r3 ++ wsX8_settled_r4))) ++ wsX80)
def wsX8_count : List Cond := .code yX8_count cX8_count 2 (some .int) :: ([.fieldLink RX8 83 "BundledLinksModel" "links" "I", .fieldLink RX8 7 "BundledLinksModel" "now" "[I", .fieldLink RX8 86 "BundledLinksModel" "wait" "I", .fieldLink RX8 89 "BundledLinksModel" "drain" "I", .fieldLink RX8 96 "BundledLinksModel" "undos" "I", .fieldLink RX8 61 "BundledLinksModel" "letters" "I", .methodLink RX8 105 yX8_upMany, .instanceMethod yX8_upMany, .selects RX8 yX8_upMany yX8_upMany, .initialized RX8, .code yX8_upMany cX8_upMany 3 (some .int)] ++ wsX80)
def wsJ9_min_7cf53 : List Cond := .code yJ9_min_7cf53 cJ9_min_7cf53 2 (some .int) :: ([])
def wsL_law_r1 : List Cond := [Cond.classLink RL 7 RX7, Cond.instantiable RX7 6, Cond.initialized RX7, Cond.classLink RL 10 RX8, Cond.instantiable RX8 18, Cond.initialized RX8, Cond.methodLink RL 9 yX7_init, Cond.instanceMethod yX7_init, Cond.code yX7_init cX7_init 2 none, Cond.methodLink RX7 1 objectInit, Cond.instanceMethod objectInit, Cond.code objectInit ⟨#[0xb1]⟩ 1 none, Cond.classLink RX7 7 RX6, Cond.instantiable RX6 2, Cond.initialized RX6, Cond.fieldLink RX7 10 "BundledLinks" "text" "LBundledLinks$Text;", Cond.classLink RX7 16 RX4, Cond.instantiable RX4 7, Cond.initialized RX4, Cond.fieldLink RX7 19 "BundledLinks" "net" "LBundledLinks$Net;", Cond.classLink RX7 23 RX2, Cond.instantiable RX2 3, Cond.initialized RX2, Cond.fieldLink RX7 26 "BundledLinks" "history" "LBundledLinks$History;"]
def wsL_law_r2 : List Cond := [Cond.arrayClass .int, Cond.fieldLink RX7 30 "BundledLinks" "went" "[I", Cond.fieldLink RX7 34 "BundledLinks" "trial" "LBundledLinks$Net;", Cond.fieldLink RX7 37 "BundledLinks" "mark" "LBundledLinks$Net;", Cond.instanceMethod yX6_init, Cond.code yX6_init cX6_init 1 none, Cond.methodLink RX6 3 objectInit, Cond.fieldLink RX6 9 "BundledLinks$Text" "letters" "[I", Cond.instanceMethod yX4_init, Cond.code yX4_init cX4_init 1 none, Cond.methodLink RX4 3 objectInit, Cond.classLink RX4 9 RX0, Cond.instantiable RX0 4, Cond.initialized RX0, Cond.fieldLink RX4 14 "BundledLinks$Net" "zero" "LBundledLinks$End;", Cond.fieldLink RX4 20 "BundledLinks$Net" "one" "LBundledLinks$End;", Cond.methodLink RX4 11 yX0_init, Cond.instanceMethod yX0_init, Cond.code yX0_init cX0_init 3 none, Cond.methodLink RX0 3 objectInit, Cond.fieldLink RX0 9 "BundledLinks$End" "number" "I", Cond.classLink RX0 15 RX5, Cond.fieldLink RX0 17 "BundledLinks$End" "ports" "[LBundledLinks$Port;", Cond.instantiable RX5 11]
def wsL_law_r3 : List Cond := [Cond.initialized RX5, Cond.classLink RX0 22 RX1, Cond.fieldLink RX0 24 "BundledLinks$End" "flows" "[LBundledLinks$Flow;", Cond.instantiable RX1 2, Cond.initialized RX1, Cond.instanceMethod yX5_init, Cond.code yX5_init cX5_init 1 none, Cond.methodLink RX5 3 objectInit, Cond.classLink RX5 9 RX3, Cond.instantiable RX3 5, Cond.initialized RX3, Cond.fieldLink RX5 12 "BundledLinks$Port" "heard" "LBundledLinks$Message;", Cond.fieldLink RX5 18 "BundledLinks$Port" "said" "LBundledLinks$Message;", Cond.instanceMethod yX3_init, Cond.code yX3_init cX3_init 1 none, Cond.methodLink RX3 1 objectInit, Cond.instanceMethod yX1_init, Cond.code yX1_init cX1_init 1 none, Cond.methodLink RX1 3 objectInit, Cond.methodLink RX7 25 yX2_init, Cond.instanceMethod yX2_init, Cond.code yX2_init cX2_init 2 none, Cond.methodLink RX2 3 objectInit, Cond.classLink RX2 9 RX4]
def wsL_law_r4 : List Cond := [Cond.fieldLink RX2 11 "BundledLinks$History" "kept" "[LBundledLinks$Net;", Cond.methodLink RX7 42 yJ0_length_8abf5, Cond.instanceMethod yJ0_length_8abf5, Cond.selects RJ0 yJ0_length_8abf5 yJ0_length_8abf5, Cond.initialized RJ0, Cond.code yJ0_length_8abf5 cJ0_length_8abf5 1 (some .int), Cond.fieldLink RJ0 9 "java/lang/String" "value" "[B", Cond.methodLink RJ0 335 yJ0_coder_7d493, Cond.instanceMethod yJ0_coder_7d493, Cond.selects RJ0 yJ0_coder_7d493 yJ0_coder_7d493, Cond.code yJ0_coder_7d493 cJ0_coder_7d493 1 (some .byte), Cond.fieldLink RJ0 38 "java/lang/String" "COMPACT_STRINGS" "Z", Cond.fieldLink RJ0 15 "java/lang/String" "coder" "B", Cond.methodLink RX7 48 yJ0_charAt_5068e, Cond.instanceMethod yJ0_charAt_5068e, Cond.selects RJ0 yJ0_charAt_5068e yJ0_charAt_5068e, Cond.code yJ0_charAt_5068e cJ0_charAt_5068e 2 (some .char), Cond.methodLink RJ0 492 yJ0_isLatin1_aae02, Cond.instanceMethod yJ0_isLatin1_aae02, Cond.selects RJ0 yJ0_isLatin1_aae02 yJ0_isLatin1_aae02, Cond.code yJ0_isLatin1_aae02 cJ0_isLatin1_aae02 1 (some .boolean), Cond.methodLink RJ0 495 yJ1_charAt_3b067, Cond.static yJ1_charAt_3b067, Cond.initialized RJ1]
def wsL_law_r5 : List Cond := [Cond.code yJ1_charAt_3b067 cJ1_charAt_3b067 2 (some .char), Cond.methodLink RJ1 9 yJ0_checkIndex_df160, Cond.static yJ0_checkIndex_df160, Cond.code yJ0_checkIndex_df160 cJ0_checkIndex_df160 2 none, Cond.fieldLink RJ0 1053 "jdk/internal/util/Preconditions" "SIOOBE_FORMATTER" "Ljava/util/function/BiFunction;", Cond.methodLink RJ0 1059 yJ3_checkIndex_8e157, Cond.static yJ3_checkIndex_8e157, Cond.initialized RJ3, Cond.code yJ3_checkIndex_8e157 cJ3_checkIndex_8e157 3 (some .int), Cond.methodLink RJ0 498 yJ2_charAt_3b067, Cond.static yJ2_charAt_3b067, Cond.initialized RJ2, Cond.code yJ2_charAt_3b067 cJ2_charAt_3b067 2 (some .char), Cond.methodLink RJ2 67 yJ2_checkIndex_2214a, Cond.static yJ2_checkIndex_2214a, Cond.code yJ2_checkIndex_2214a cJ2_checkIndex_2214a 2 none, Cond.methodLink RJ2 48 yJ2_length_9d52b, Cond.static yJ2_length_9d52b, Cond.code yJ2_length_9d52b cJ2_length_9d52b 1 (some .int), Cond.methodLink RJ2 414 yJ0_checkIndex_df160, Cond.methodLink RJ2 71 yJ2_getChar_3b067, Cond.static yJ2_getChar_3b067, Cond.code yJ2_getChar_3b067 cJ2_getChar_3b067 2 (some .char), Cond.fieldLink RJ2 44 "java/lang/StringUTF16" "$assertionsDisabled" "Z"]
def wsL_law_r6 : List Cond := [Cond.fieldLink RJ2 59 "java/lang/StringUTF16" "HI_BYTE_SHIFT" "I", Cond.fieldLink RJ2 63 "java/lang/StringUTF16" "LO_BYTE_SHIFT" "I", Cond.methodLink RX7 52 yX6_add, Cond.instanceMethod yX6_add, Cond.selects RX6 yX6_add yX6_add, Cond.code yX6_add cX6_add 2 (some .boolean), Cond.fieldLink RX6 15 "BundledLinks$Text" "size" "I", Cond.methodLink RX7 56 yX4_layOut, Cond.instanceMethod yX4_layOut, Cond.selects RX4 yX4_layOut yX4_layOut, Cond.code yX4_layOut cX4_layOut 4 none, Cond.fieldLink RX4 91 "BundledLinks$Text" "size" "I", Cond.methodLink RX4 90 yX4_clear, Cond.instanceMethod yX4_clear, Cond.selects RX4 yX4_clear yX4_clear, Cond.code yX4_clear cX4_clear 1 none, Cond.fieldLink RX4 26 "BundledLinks$Net" "links" "I", Cond.fieldLink RX4 30 "BundledLinks$Net" "most" "I", Cond.fieldLink RX4 33 "BundledLinks$Net" "wait" "I", Cond.fieldLink RX4 36 "BundledLinks$Net" "drain" "I", Cond.fieldLink RX4 39 "BundledLinks$Net" "ticks" "I", Cond.methodLink RX4 23 yX0_clear, Cond.instanceMethod yX0_clear, Cond.selects RX0 yX0_clear yX0_clear]
def wsL_law_r7 : List Cond := [Cond.code yX0_clear cX0_clear 5 none, Cond.fieldLink RX0 29 "BundledLinks$End" "rank" "I", Cond.methodLink RX0 32 yX5_clear, Cond.instanceMethod yX5_clear, Cond.selects RX5 yX5_clear yX5_clear, Cond.code yX5_clear cX5_clear 1 none, Cond.fieldLink RX5 21 "BundledLinks$Port" "up" "Z", Cond.fieldLink RX5 25 "BundledLinks$Port" "muted" "Z", Cond.fieldLink RX5 28 "BundledLinks$Port" "key" "I", Cond.fieldLink RX5 32 "BundledLinks$Port" "priority" "I", Cond.fieldLink RX5 38 "BundledLinks$Port" "age" "I", Cond.fieldLink RX5 41 "BundledLinks$Port" "how" "I", Cond.fieldLink RX5 44 "BundledLinks$Port" "chosen" "Z", Cond.fieldLink RX5 47 "BundledLinks$Port" "chosenFor" "I", Cond.fieldLink RX5 50 "BundledLinks$Port" "begun" "I", Cond.methodLink RX5 35 yX3_clear, Cond.instanceMethod yX3_clear, Cond.selects RX3 yX3_clear yX3_clear, Cond.code yX3_clear cX3_clear 1 none, Cond.fieldLink RX3 7 "BundledLinks$Message" "there" "Z", Cond.fieldLink RX3 13 "BundledLinks$Message" "key" "I", Cond.fieldLink RX3 17 "BundledLinks$Message" "priority" "I", Cond.fieldLink RX3 20 "BundledLinks$Message" "rank" "I", Cond.fieldLink RX3 23 "BundledLinks$Message" "sync" "Z"]
def wsL_law_r8 : List Cond := [Cond.methodLink RX0 35 yX1_clear, Cond.instanceMethod yX1_clear, Cond.selects RX1 yX1_clear yX1_clear, Cond.code yX1_clear cX1_clear 1 none, Cond.fieldLink RX1 9 "BundledLinks$Flow" "link" "I", Cond.fieldLink RX1 15 "BundledLinks$Flow" "held" "I", Cond.methodLink RX4 96 yX4_layItem, Cond.instanceMethod yX4_layItem, Cond.selects RX4 yX4_layItem yX4_layItem, Cond.code yX4_layItem cX4_layItem 3 none, Cond.fieldLink RX4 72 "BundledLinks$End" "rank" "I", Cond.methodLink RX4 104 yX6_letterAt, Cond.instanceMethod yX6_letterAt, Cond.selects RX6 yX6_letterAt yX6_letterAt, Cond.code yX6_letterAt cX6_letterAt 2 (some .int), Cond.methodLink RX4 107 yX4_addLink, Cond.instanceMethod yX4_addLink, Cond.selects RX4 yX4_addLink yX4_addLink, Cond.code yX4_addLink cX4_addLink 5 none, Cond.methodLink RX4 54 yX0_portAt, Cond.instanceMethod yX0_portAt, Cond.selects RX0 yX0_portAt yX0_portAt, Cond.code yX0_portAt cX0_portAt 2 (some (.object "BundledLinks$Port")), Cond.methodLink RX4 110 yX6_number]
def wsL_law_r9 : List Cond := [Cond.instanceMethod yX6_number, Cond.selects RX6 yX6_number yX6_number, Cond.code yX6_number cX6_number 3 (some .int), Cond.methodLink RX6 19 yX6_letterAt, Cond.methodLink RX4 114 yX5_begin, Cond.instanceMethod yX5_begin, Cond.selects RX5 yX5_begin yX5_begin, Cond.code yX5_begin cX5_begin 3 none, Cond.methodLink RX4 100 yX6_lengthOfItem, Cond.instanceMethod yX6_lengthOfItem, Cond.selects RX6 yX6_lengthOfItem yX6_lengthOfItem, Cond.code yX6_lengthOfItem cX6_lengthOfItem 2 (some .int), Cond.methodLink RX6 30 yX6_numbersOfItem, Cond.instanceMethod yX6_numbersOfItem, Cond.selects RX6 yX6_numbersOfItem yX6_numbersOfItem, Cond.code yX6_numbersOfItem cX6_numbersOfItem 2 (some .int), Cond.methodLink RX7 60 yX6_clear, Cond.instanceMethod yX6_clear, Cond.selects RX6 yX6_clear yX6_clear, Cond.code yX6_clear cX6_clear 1 none, Cond.methodLink RL 12 yX8_init, Cond.instanceMethod yX8_init, Cond.code yX8_init cX8_init 1 none, Cond.methodLink RX8 1 objectInit]
def wsL_law_r10 : List Cond := [Cond.fieldLink RX8 7 "BundledLinksModel" "now" "[I", Cond.fieldLink RX8 13 "BundledLinksModel" "kept" "[I", Cond.fieldLink RX8 16 "BundledLinksModel" "past" "[I", Cond.fieldLink RX8 19 "BundledLinksModel" "frames" "[I", Cond.fieldLink RX8 22 "BundledLinksModel" "text" "[I", Cond.fieldLink RX8 25 "BundledLinksModel" "told" "[I", Cond.fieldLink RX8 28 "BundledLinksModel" "ranks" "[I", Cond.fieldLink RX8 31 "BundledLinksModel" "more" "[I", Cond.fieldLink RX8 34 "BundledLinksModel" "figures" "[I", Cond.arrayClass .boolean, Cond.fieldLink RX8 37 "BundledLinksModel" "chosen" "[Z", Cond.fieldLink RX8 41 "BundledLinksModel" "seen" "[I", Cond.methodLink RX8 44 yX8_clearsPlan, Cond.instanceMethod yX8_clearsPlan, Cond.selects RX8 yX8_clearsPlan yX8_clearsPlan, Cond.code yX8_clearsPlan cX8_clearsPlan 1 none, Cond.fieldLink RX8 54 "BundledLinksModel" "newLinks" "I", Cond.methodLink RX8 47 yX8_adds, Cond.instanceMethod yX8_adds, Cond.selects RX8 yX8_adds yX8_adds, Cond.code yX8_adds cX8_adds 5 none, Cond.methodLink RX8 51 yX8_lays, Cond.instanceMethod yX8_lays, Cond.selects RX8 yX8_lays yX8_lays]
def wsL_law_r11 : List Cond := [Cond.code yX8_lays cX8_lays 4 none, Cond.fieldLink RX8 83 "BundledLinksModel" "links" "I", Cond.fieldLink RX8 86 "BundledLinksModel" "wait" "I", Cond.fieldLink RX8 89 "BundledLinksModel" "drain" "I", Cond.fieldLink RX8 96 "BundledLinksModel" "undos" "I", Cond.methodLink RX8 92 yX8_place, Cond.static yX8_place, Cond.code yX8_place cX8_place 2 (some .int), Cond.methodLink RL 13 yX7_write, Cond.instanceMethod yX7_write, Cond.selects RX7 yX7_write yX7_write, Cond.code yX7_write cX7_write 2 (some .int), Cond.fieldLink RX7 63 "BundledLinks$Text" "size" "I", Cond.methodLink RL 17 yX8_write, Cond.instanceMethod yX8_write, Cond.selects RX8 yX8_write yX8_write, Cond.code yX8_write cX8_write 2 (some .int), Cond.fieldLink RX8 61 "BundledLinksModel" "letters" "I", Cond.methodLink RX8 68 yX8_within, Cond.static yX8_within, Cond.code yX8_within cX8_within 3 (some .boolean), Cond.methodLink RL 18 yX7_wipe, Cond.instanceMethod yX7_wipe, Cond.selects RX7 yX7_wipe yX7_wipe]
def wsL_law_r12 : List Cond := [Cond.code yX7_wipe cX7_wipe 2 (some .int), Cond.methodLink RL 22 yX8_wipe, Cond.instanceMethod yX8_wipe, Cond.selects RX8 yX8_wipe yX8_wipe, Cond.code yX8_wipe cX8_wipe 2 (some .int), Cond.methodLink RL 23 yX7_fault, Cond.instanceMethod yX7_fault, Cond.selects RX7 yX7_fault yX7_fault, Cond.code yX7_fault cX7_fault 1 (some .int), Cond.methodLink RX7 67 yX6_firstFault, Cond.instanceMethod yX6_firstFault, Cond.selects RX6 yX6_firstFault yX6_firstFault, Cond.code yX6_firstFault cX6_firstFault 4 (some .int), Cond.methodLink RX6 23 yX6_isItem, Cond.instanceMethod yX6_isItem, Cond.selects RX6 yX6_isItem yX6_isItem, Cond.code yX6_isItem cX6_isItem 5 (some .boolean), Cond.methodLink RX6 33 yX6_number, Cond.static yX7_isFigure, Cond.code yX7_isFigure cX7_isFigure 1 (some .boolean), Cond.static yX7_isMost, Cond.code yX7_isMost cX7_isMost 1 (some .boolean), Cond.methodLink RX6 27 yX6_lengthOfItem, Cond.methodLink RL 26 yX8_fault]
def wsL_law_r13 : List Cond := [Cond.instanceMethod yX8_fault, Cond.selects RX8 yX8_fault yX8_fault, Cond.code yX8_fault cX8_fault 1 (some .int), Cond.methodLink RX8 79 yX8_faultAt, Cond.instanceMethod yX8_faultAt, Cond.selects RX8 yX8_faultAt yX8_faultAt, Cond.code yX8_faultAt cX8_faultAt 2 (some .int), Cond.fieldLink RX8 58 "BundledLinksModel" "at" "I", Cond.methodLink RX8 75 yX8_isItem, Cond.instanceMethod yX8_isItem, Cond.selects RX8 yX8_isItem yX8_isItem, Cond.code yX8_isItem cX8_isItem 2 (some .boolean), Cond.methodLink RX8 64 yX8_passes, Cond.instanceMethod yX8_passes, Cond.selects RX8 yX8_passes yX8_passes, Cond.code yX8_passes cX8_passes 3 (some .boolean), Cond.methodLink RX8 72 yX8_areFigures, Cond.instanceMethod yX8_areFigures, Cond.selects RX8 yX8_areFigures yX8_areFigures, Cond.code yX8_areFigures cX8_areFigures 4 (some .boolean), Cond.methodLink RL 27 yX7_lay, Cond.instanceMethod yX7_lay, Cond.selects RX7 yX7_lay yX7_lay, Cond.code yX7_lay cX7_lay 2 (some .int)]
def wsL_law_r14 : List Cond := [Cond.fieldLink RX7 75 "BundledLinks$Net" "links" "I", Cond.methodLink RX7 70 yX6_tellsLink, Cond.instanceMethod yX6_tellsLink, Cond.selects RX6 yX6_tellsLink yX6_tellsLink, Cond.code yX6_tellsLink cX6_tellsLink 2 (some .boolean), Cond.methodLink RX7 74 yX2_clear, Cond.instanceMethod yX2_clear, Cond.selects RX2 yX2_clear yX2_clear, Cond.code yX2_clear cX2_clear 1 none, Cond.fieldLink RX2 18 "BundledLinks$History" "next" "I", Cond.fieldLink RX2 22 "BundledLinks$History" "size" "I", Cond.methodLink RL 30 yX8_lay, Cond.instanceMethod yX8_lay, Cond.selects RX8 yX8_lay yX8_lay, Cond.code yX8_lay cX8_lay 1 (some .int), Cond.methodLink RL 31 yX7_plug, Cond.instanceMethod yX7_plug, Cond.selects RX7 yX7_plug yX7_plug, Cond.code yX7_plug cX7_plug 5 (some .int), Cond.fieldLink RX7 85 "BundledLinks$Port" "up" "Z", Cond.fieldLink RX7 99 "BundledLinks$Net" "zero" "LBundledLinks$End;", Cond.methodLink RX7 78 yX4_portOf, Cond.instanceMethod yX4_portOf, Cond.selects RX4 yX4_portOf yX4_portOf]
def wsL_law_r15 : List Cond := [Cond.code yX4_portOf cX4_portOf 4 (some (.object "BundledLinks$Port")), Cond.methodLink RX4 50 yX4_endOf, Cond.instanceMethod yX4_endOf, Cond.selects RX4 yX4_endOf yX4_endOf, Cond.code yX4_endOf cX4_endOf 2 (some (.object "BundledLinks$End")), Cond.methodLink RX7 82 yX7_isZeroOrOne, Cond.static yX7_isZeroOrOne, Cond.code yX7_isZeroOrOne cX7_isZeroOrOne 1 (some .boolean), Cond.methodLink RX7 91 yX2_keep, Cond.instanceMethod yX2_keep, Cond.selects RX2 yX2_keep yX2_keep, Cond.code yX2_keep cX2_keep 2 none, Cond.methodLink RX2 29 Lib.Math.min.name, Cond.static Lib.Math.min.name, Cond.initialized "java/lang/Math", Cond.code Lib.Math.min.name Lib.Math.min.code 2 (some .int), Cond.methodLink RX2 25 yX4_copyFrom, Cond.instanceMethod yX4_copyFrom, Cond.selects RX4 yX4_copyFrom yX4_copyFrom, Cond.code yX4_copyFrom cX4_copyFrom 2 none, Cond.methodLink RX4 42 yX0_copyFrom, Cond.instanceMethod yX0_copyFrom, Cond.selects RX0 yX0_copyFrom yX0_copyFrom, Cond.code yX0_copyFrom cX0_copyFrom 3 none]
def wsL_law_r16 : List Cond := [Cond.methodLink RX0 36 yX5_copyFrom, Cond.instanceMethod yX5_copyFrom, Cond.selects RX5 yX5_copyFrom yX5_copyFrom, Cond.code yX5_copyFrom cX5_copyFrom 2 none, Cond.methodLink RX5 53 yX3_copyFrom, Cond.instanceMethod yX3_copyFrom, Cond.selects RX3 yX3_copyFrom yX3_copyFrom, Cond.code yX3_copyFrom cX3_copyFrom 2 none, Cond.methodLink RX0 40 yX1_copyFrom, Cond.instanceMethod yX1_copyFrom, Cond.selects RX1 yX1_copyFrom yX1_copyFrom, Cond.code yX1_copyFrom cX1_copyFrom 2 none, Cond.methodLink RX7 95 yX4_plugLink, Cond.instanceMethod yX4_plugLink, Cond.selects RX4 yX4_plugLink yX4_plugLink, Cond.code yX4_plugLink cX4_plugLink 5 none, Cond.fieldLink RX4 66 "BundledLinks$Port" "up" "Z", Cond.methodLink RX4 62 yX4_portOf, Cond.methodLink RX7 103 yX0_howManyUp, Cond.instanceMethod yX0_howManyUp, Cond.selects RX0 yX0_howManyUp yX0_howManyUp, Cond.code yX0_howManyUp cX0_howManyUp 6 (some .int), Cond.fieldLink RX0 105 "BundledLinks$Port" "up" "Z", Cond.methodLink RL 35 yX8_plug]
def wsL_law_r17 : List Cond := [Cond.instanceMethod yX8_plug, Cond.selects RX8 yX8_plug yX8_plug, Cond.code yX8_plug cX8_plug 3 (some .int), Cond.methodLink RX8 99 yX8_isLink, Cond.instanceMethod yX8_isLink, Cond.selects RX8 yX8_isLink yX8_isLink, Cond.code yX8_isLink cX8_isLink 2 (some .boolean), Cond.methodLink RX8 102 yX8_keeps, Cond.instanceMethod yX8_keeps, Cond.selects RX8 yX8_keeps yX8_keeps, Cond.code yX8_keeps cX8_keeps 2 none, Cond.methodLink RX8 105 yX8_upMany, Cond.instanceMethod yX8_upMany, Cond.selects RX8 yX8_upMany yX8_upMany, Cond.code yX8_upMany cX8_upMany 3 (some .int), Cond.methodLink RL 36 yX7_mute, Cond.instanceMethod yX7_mute, Cond.selects RX7 yX7_mute yX7_mute, Cond.code yX7_mute cX7_mute 7 (some .int), Cond.fieldLink RX7 112 "BundledLinks$Port" "muted" "Z", Cond.methodLink RX7 108 yX4_endOf, Cond.methodLink RX7 115 yX0_howManyMuted, Cond.instanceMethod yX0_howManyMuted, Cond.selects RX0 yX0_howManyMuted yX0_howManyMuted]
def wsL_law_r18 : List Cond := [Cond.code yX0_howManyMuted cX0_howManyMuted 6 (some .int), Cond.fieldLink RX0 108 "BundledLinks$Port" "muted" "Z", Cond.methodLink RL 40 yX8_mute, Cond.instanceMethod yX8_mute, Cond.selects RX8 yX8_mute yX8_mute, Cond.code yX8_mute cX8_mute 6 (some .int), Cond.methodLink RX8 108 yX8_isEnd, Cond.static yX8_isEnd, Cond.code yX8_isEnd cX8_isEnd 1 (some .boolean), Cond.methodLink RL 41 yX7_tell, Cond.instanceMethod yX7_tell, Cond.selects RX7 yX7_tell yX7_tell, Cond.code yX7_tell cX7_tell 7 (some .int), Cond.fieldLink RX7 121 "BundledLinks$Port" "key" "I", Cond.fieldLink RX7 124 "BundledLinks$Port" "priority" "I", Cond.methodLink RX7 118 yX7_isFigure, Cond.methodLink RL 45 yX8_tell, Cond.instanceMethod yX8_tell, Cond.selects RX8 yX8_tell yX8_tell, Cond.code yX8_tell cX8_tell 5 (some .int), Cond.methodLink RX8 111 yX8_becomes, Cond.instanceMethod yX8_becomes, Cond.selects RX8 yX8_becomes yX8_becomes, Cond.code yX8_becomes cX8_becomes 4 (some .int)]
def wsL_law_r19 : List Cond := [Cond.methodLink RL 46 yX7_set, Cond.instanceMethod yX7_set, Cond.selects RX7 yX7_set yX7_set, Cond.code yX7_set cX7_set 4 (some .int), Cond.methodLink RX7 127 yX7_isMost, Cond.methodLink RX7 130 yX4_setting, Cond.instanceMethod yX4_setting, Cond.selects RX4 yX4_setting yX4_setting, Cond.code yX4_setting cX4_setting 2 (some .int), Cond.methodLink RX7 134 yX4_changeSetting, Cond.instanceMethod yX4_changeSetting, Cond.selects RX4 yX4_changeSetting yX4_changeSetting, Cond.code yX4_changeSetting cX4_changeSetting 3 none, Cond.methodLink RL 49 yX8_set, Cond.instanceMethod yX8_set, Cond.selects RX8 yX8_set yX8_set, Cond.code yX8_set cX8_set 3 (some .int), Cond.methodLink RL 50 yX7_tick, Cond.instanceMethod yX7_tick, Cond.selects RX7 yX7_tick yX7_tick, Cond.code yX7_tick cX7_tick 3 (some .int), Cond.fieldLink RX7 138 "BundledLinks$Net" "ticks" "I", Cond.methodLink RX7 141 yX4_step, Cond.instanceMethod yX4_step]
def wsL_law_r20 : List Cond := [Cond.selects RX4 yX4_step yX4_step, Cond.code yX4_step cX4_step 1 none, Cond.methodLink RX4 75 yX0_hearFrom, Cond.instanceMethod yX0_hearFrom, Cond.selects RX0 yX0_hearFrom yX0_hearFrom, Cond.code yX0_hearFrom cX0_hearFrom 3 none, Cond.fieldLink RX0 49 "BundledLinks$Port" "said" "LBundledLinks$Message;", Cond.methodLink RX0 53 yX5_hear, Cond.instanceMethod yX5_hear, Cond.selects RX5 yX5_hear yX5_hear, Cond.code yX5_hear cX5_hear 2 none, Cond.fieldLink RX5 57 "BundledLinks$Message" "there" "Z", Cond.methodLink RX4 78 yX4_stepOf, Cond.instanceMethod yX4_stepOf, Cond.selects RX4 yX4_stepOf yX4_stepOf, Cond.code yX4_stepOf cX4_stepOf 2 none, Cond.methodLink RX4 81 yX0_choose, Cond.instanceMethod yX0_choose, Cond.selects RX0 yX0_choose yX0_choose, Cond.code yX0_choose cX0_choose 6 none, Cond.fieldLink RX0 57 "BundledLinks$Port" "chosen" "Z", Cond.methodLink RX0 61 yX0_decides, Cond.instanceMethod yX0_decides, Cond.selects RX0 yX0_decides yX0_decides]
def wsL_law_r21 : List Cond := [Cond.code yX0_decides cX0_decides 6 (some .boolean), Cond.fieldLink RX0 69 "BundledLinks$Port" "heard" "LBundledLinks$Message;", Cond.fieldLink RX0 72 "BundledLinks$Message" "there" "Z", Cond.fieldLink RX0 77 "BundledLinks$Message" "rank" "I", Cond.methodLink RX0 65 yX0_bestOpen, Cond.instanceMethod yX0_bestOpen, Cond.selects RX0 yX0_bestOpen yX0_bestOpen, Cond.code yX0_bestOpen cX0_bestOpen 9 (some (.object "BundledLinks$Port")), Cond.methodLink RX0 78 yX5_hasPairOf, Cond.instanceMethod yX5_hasPairOf, Cond.selects RX5 yX5_hasPairOf yX5_hasPairOf, Cond.code yX5_hasPairOf cX5_hasPairOf 2 (some .boolean), Cond.fieldLink RX5 61 "BundledLinks$Message" "key" "I", Cond.methodLink RX0 82 yX5_priorityBy, Cond.instanceMethod yX5_priorityBy, Cond.selects RX5 yX5_priorityBy yX5_priorityBy, Cond.code yX5_priorityBy cX5_priorityBy 2 (some .int), Cond.fieldLink RX5 60 "BundledLinks$Message" "priority" "I", Cond.methodLink RX4 84 yX0_judgeAndSay, Cond.instanceMethod yX0_judgeAndSay, Cond.selects RX0 yX0_judgeAndSay yX0_judgeAndSay, Cond.code yX0_judgeAndSay cX0_judgeAndSay 6 none, Cond.methodLink RX0 86 yX5_judge, Cond.instanceMethod yX5_judge]
def wsL_law_r22 : List Cond := [Cond.selects RX5 yX5_judge yX5_judge, Cond.code yX5_judge cX5_judge 3 none, Cond.methodLink RX5 62 yX5_howNow, Cond.instanceMethod yX5_howNow, Cond.selects RX5 yX5_howNow yX5_howNow, Cond.code yX5_howNow cX5_howNow 2 (some .int), Cond.fieldLink RX5 66 "BundledLinks$Message" "sync" "Z", Cond.methodLink RX0 90 yX5_say, Cond.instanceMethod yX5_say, Cond.selects RX5 yX5_say yX5_say, Cond.code yX5_say cX5_say 2 none, Cond.fieldLink RX5 69 "BundledLinks$Message" "rank" "I", Cond.methodLink RX4 87 yX0_dealFlows, Cond.instanceMethod yX0_dealFlows, Cond.selects RX0 yX0_dealFlows yX0_dealFlows, Cond.code yX0_dealFlows cX0_dealFlows 4 none, Cond.methodLink RX0 93 yX0_howManySending, Cond.instanceMethod yX0_howManySending, Cond.selects RX0 yX0_howManySending yX0_howManySending, Cond.code yX0_howManySending cX0_howManySending 6 (some .int), Cond.fieldLink RX0 43 "BundledLinks$Port" "how" "I", Cond.methodLink RX0 97 yX0_wantedBy, Cond.instanceMethod yX0_wantedBy, Cond.selects RX0 yX0_wantedBy yX0_wantedBy]
def wsL_law_r23 : List Cond := [Cond.code yX0_wantedBy cX0_wantedBy 5 (some .int), Cond.methodLink RX0 101 yX1_deal, Cond.instanceMethod yX1_deal, Cond.selects RX1 yX1_deal yX1_deal, Cond.code yX1_deal cX1_deal 3 none, Cond.methodLink RX7 144 yX7_agreed, Cond.instanceMethod yX7_agreed, Cond.selects RX7 yX7_agreed yX7_agreed, Cond.code yX7_agreed cX7_agreed 2 (some .int), Cond.fieldLink RX7 186 "BundledLinks$Net" "one" "LBundledLinks$End;", Cond.methodLink RX7 158 yX0_bits, Cond.instanceMethod yX0_bits, Cond.selects RX0 yX0_bits yX0_bits, Cond.code yX0_bits cX0_bits 4 (some .int), Cond.methodLink RX0 111 yX5_isOf, Cond.instanceMethod yX5_isOf, Cond.selects RX5 yX5_isOf yX5_isOf, Cond.code yX5_isOf cX5_isOf 2 (some .boolean), Cond.methodLink RL 53 yX8_tick, Cond.instanceMethod yX8_tick, Cond.selects RX8 yX8_tick yX8_tick, Cond.code yX8_tick cX8_tick 3 (some .int), Cond.methodLink RX8 161 yX8_ticks, Cond.instanceMethod yX8_ticks]
def wsL_law_r24 : List Cond := [Cond.selects RX8 yX8_ticks yX8_ticks, Cond.code yX8_ticks cX8_ticks 2 none, Cond.methodLink RX8 144 yX8_comes, Cond.instanceMethod yX8_comes, Cond.selects RX8 yX8_comes yX8_comes, Cond.code yX8_comes cX8_comes 6 none, Cond.methodLink RX8 114 yX8_knowsNothing, Cond.instanceMethod yX8_knowsNothing, Cond.selects RX8 yX8_knowsNothing yX8_knowsNothing, Cond.code yX8_knowsNothing cX8_knowsNothing 2 none, Cond.methodLink RX8 148 yX8_becomesHow, Cond.instanceMethod yX8_becomesHow, Cond.selects RX8 yX8_becomesHow yX8_becomesHow, Cond.code yX8_becomesHow cX8_becomesHow 5 none, Cond.methodLink RX8 132 yX8_chooses, Cond.instanceMethod yX8_chooses, Cond.selects RX8 yX8_chooses yX8_chooses, Cond.code yX8_chooses cX8_chooses 5 none, Cond.methodLink RX8 125 yX8_doesDecide, Cond.instanceMethod yX8_doesDecide, Cond.selects RX8 yX8_doesDecide yX8_doesDecide, Cond.code yX8_doesDecide cX8_doesDecide 5 (some .boolean), Cond.methodLink RX8 118 yX8_isOpen, Cond.instanceMethod yX8_isOpen]
def wsL_law_r25 : List Cond := [Cond.selects RX8 yX8_isOpen yX8_isOpen, Cond.code yX8_isOpen cX8_isOpen 3 (some .boolean), Cond.methodLink RX8 128 yX8_ahead, Cond.instanceMethod yX8_ahead, Cond.selects RX8 yX8_ahead yX8_ahead, Cond.code yX8_ahead cX8_ahead 10 (some .int), Cond.methodLink RX8 122 yX8_isPair, Cond.instanceMethod yX8_isPair, Cond.selects RX8 yX8_isPair yX8_isPair, Cond.code yX8_isPair cX8_isPair 4 (some .boolean), Cond.methodLink RX8 135 yX8_howOf, Cond.instanceMethod yX8_howOf, Cond.selects RX8 yX8_howOf yX8_howOf, Cond.code yX8_howOf cX8_howOf 3 (some .int), Cond.methodLink RX8 151 yX8_sends, Cond.instanceMethod yX8_sends, Cond.selects RX8 yX8_sends yX8_sends, Cond.code yX8_sends cX8_sends 4 none, Cond.methodLink RX8 154 yX8_deals, Cond.instanceMethod yX8_deals, Cond.selects RX8 yX8_deals yX8_deals, Cond.code yX8_deals cX8_deals 5 none, Cond.methodLink RX8 141 yX8_wants, Cond.instanceMethod yX8_wants]
def wsL_law_r26 : List Cond := [Cond.selects RX8 yX8_wants yX8_wants, Cond.code yX8_wants cX8_wants 6 (some .int), Cond.methodLink RX8 138 yX8_isSending, Cond.instanceMethod yX8_isSending, Cond.selects RX8 yX8_isSending yX8_isSending, Cond.code yX8_isSending cX8_isSending 3 (some .boolean), Cond.methodLink RX8 164 yX8_agreed, Cond.instanceMethod yX8_agreed, Cond.selects RX8 yX8_agreed yX8_agreed, Cond.code yX8_agreed cX8_agreed 2 (some .int), Cond.methodLink RX8 157 yX8_sendingSet, Cond.instanceMethod yX8_sendingSet, Cond.selects RX8 yX8_sendingSet yX8_sendingSet, Cond.code yX8_sendingSet cX8_sendingSet 4 (some .int), Cond.methodLink RL 54 yX7_undo, Cond.instanceMethod yX7_undo, Cond.selects RX7 yX7_undo yX7_undo, Cond.code yX7_undo cX7_undo 2 (some .int), Cond.fieldLink RX7 154 "BundledLinks$History" "size" "I", Cond.methodLink RX7 147 yX2_takeLatest, Cond.instanceMethod yX2_takeLatest, Cond.selects RX2 yX2_takeLatest yX2_takeLatest, Cond.code yX2_takeLatest cX2_takeLatest 2 (some (.object "BundledLinks$Net")), Cond.methodLink RX7 151 yX4_copyFrom]
def wsL_law_r27 : List Cond := [Cond.methodLink RL 57 yX8_undo, Cond.instanceMethod yX8_undo, Cond.selects RX8 yX8_undo yX8_undo, Cond.code yX8_undo cX8_undo 2 (some .int), Cond.methodLink RL 58 yX7_link, Cond.instanceMethod yX7_link, Cond.selects RX7 yX7_link yX7_link, Cond.code yX7_link cX7_link 5 (some .int), Cond.methodLink RX7 155 yX5_look, Cond.instanceMethod yX5_look, Cond.selects RX5 yX5_look yX5_look, Cond.code yX5_look cX5_look 2 (some .int), Cond.methodLink RX5 72 yX5_known, Cond.instanceMethod yX5_known, Cond.selects RX5 yX5_known yX5_known, Cond.code yX5_known cX5_known 2 (some .int), Cond.methodLink RL 61 yX8_link, Cond.instanceMethod yX8_link, Cond.selects RX8 yX8_link yX8_link, Cond.code yX8_link cX8_link 4 (some .int), Cond.methodLink RX8 167 yX8_tellLink, Cond.instanceMethod yX8_tellLink, Cond.selects RX8 yX8_tellLink yX8_tellLink, Cond.code yX8_tellLink cX8_tellLink 3 (some .int)]
def wsL_law_r28 : List Cond := [Cond.methodLink RL 62 yX7_bundle, Cond.instanceMethod yX7_bundle, Cond.selects RX7 yX7_bundle yX7_bundle, Cond.code yX7_bundle cX7_bundle 4 (some .int), Cond.methodLink RL 65 yX8_bundle, Cond.instanceMethod yX8_bundle, Cond.selects RX8 yX8_bundle yX8_bundle, Cond.code yX8_bundle cX8_bundle 7 (some .int), Cond.methodLink RL 66 yX7_flow, Cond.instanceMethod yX7_flow, Cond.selects RX7 yX7_flow yX7_flow, Cond.code yX7_flow cX7_flow 6 (some .int), Cond.fieldLink RX7 165 "BundledLinks$Flow" "link" "I", Cond.fieldLink RX7 170 "BundledLinks$Flow" "held" "I", Cond.methodLink RX7 161 yX4_flowOf, Cond.instanceMethod yX4_flowOf, Cond.selects RX4 yX4_flowOf yX4_flowOf, Cond.code yX4_flowOf cX4_flowOf 4 (some (.object "BundledLinks$Flow")), Cond.methodLink RX4 58 yX0_flowAt, Cond.instanceMethod yX0_flowAt, Cond.selects RX0 yX0_flowAt yX0_flowAt, Cond.code yX0_flowAt cX0_flowAt 2 (some (.object "BundledLinks$Flow")), Cond.methodLink RX7 173 yX0_howManySending, Cond.methodLink RX7 176 yX0_wantedBy]
def wsL_law_r29 : List Cond := [Cond.methodLink RL 69 yX8_flow, Cond.instanceMethod yX8_flow, Cond.selects RX8 yX8_flow yX8_flow, Cond.code yX8_flow cX8_flow 4 (some .int), Cond.methodLink RX8 170 yX8_isFlow, Cond.static yX8_isFlow, Cond.code yX8_isFlow cX8_isFlow 1 (some .boolean), Cond.methodLink RL 70 yX7_frame, Cond.instanceMethod yX7_frame, Cond.selects RX7 yX7_frame yX7_frame, Cond.code yX7_frame cX7_frame 6 (some .int), Cond.fieldLink RX7 183 "BundledLinks$Port" "how" "I", Cond.methodLink RX7 180 yX7_placeOfFrames, Cond.instanceMethod yX7_placeOfFrames, Cond.selects RX7 yX7_placeOfFrames yX7_placeOfFrames, Cond.code yX7_placeOfFrames cX7_placeOfFrames 4 (some .int), Cond.methodLink RL 73 yX8_frame, Cond.instanceMethod yX8_frame, Cond.selects RX8 yX8_frame yX8_frame, Cond.code yX8_frame cX8_frame 5 (some .int), Cond.methodLink RL 74 yX7_frames, Cond.instanceMethod yX7_frames, Cond.selects RX7 yX7_frames yX7_frames, Cond.code yX7_frames cX7_frames 4 (some .int)]
def wsL_law_r30 : List Cond := [Cond.methodLink RL 77 yX8_frames, Cond.instanceMethod yX8_frames, Cond.selects RX8 yX8_frames yX8_frames, Cond.code yX8_frames cX8_frames 3 (some .int), Cond.methodLink RL 78 yX7_agreed, Cond.methodLink RL 81 yX8_agreed, Cond.methodLink RL 82 yX7_settled, Cond.instanceMethod yX7_settled, Cond.selects RX7 yX7_settled yX7_settled, Cond.code yX7_settled cX7_settled 3 (some .int), Cond.methodLink RX7 189 yX4_looksLike, Cond.instanceMethod yX4_looksLike, Cond.selects RX4 yX4_looksLike yX4_looksLike, Cond.code yX4_looksLike cX4_looksLike 2 (some .boolean), Cond.methodLink RX4 46 yX0_looksLike, Cond.instanceMethod yX0_looksLike, Cond.selects RX0 yX0_looksLike yX0_looksLike, Cond.code yX0_looksLike cX0_looksLike 3 (some .boolean), Cond.fieldLink RX0 46 "BundledLinks$Flow" "link" "I", Cond.methodLink RL 85 yX8_settled, Cond.instanceMethod yX8_settled, Cond.selects RX8 yX8_settled yX8_settled, Cond.code yX8_settled cX8_settled 3 (some .int), Cond.methodLink RX8 176 yX8_fewest]
def wsL_law_r31 : List Cond := [Cond.instanceMethod yX8_fewest, Cond.selects RX8 yX8_fewest yX8_fewest, Cond.code yX8_fewest cX8_fewest 4 (some .int), Cond.methodLink RX8 173 yX8_isOther, Cond.instanceMethod yX8_isOther, Cond.selects RX8 yX8_isOther yX8_isOther, Cond.code yX8_isOther cX8_isOther 4 (some .boolean), Cond.methodLink RL 86 yX7_count, Cond.instanceMethod yX7_count, Cond.selects RX7 yX7_count yX7_count, Cond.code yX7_count cX7_count 2 (some .int), Cond.fieldLink RX7 193 "BundledLinks$Net" "wait" "I", Cond.fieldLink RX7 196 "BundledLinks$Net" "drain" "I", Cond.methodLink RL 89 yX8_count, Cond.instanceMethod yX8_count, Cond.selects RX8 yX8_count yX8_count, Cond.code yX8_count cX8_count 2 (some .int)]
def wsL_law : List Cond := (wsL_law_r1 ++ (wsL_law_r2 ++ (wsL_law_r3 ++ (wsL_law_r4 ++ (wsL_law_r5 ++ (wsL_law_r6 ++ (wsL_law_r7 ++ (wsL_law_r8 ++ (wsL_law_r9 ++ (wsL_law_r10 ++ (wsL_law_r11 ++ (wsL_law_r12 ++ (wsL_law_r13 ++ (wsL_law_r14 ++ (wsL_law_r15 ++ (wsL_law_r16 ++ (wsL_law_r17 ++ (wsL_law_r18 ++ (wsL_law_r19 ++ (wsL_law_r20 ++ (wsL_law_r21 ++ (wsL_law_r22 ++ (wsL_law_r23 ++ (wsL_law_r24 ++ (wsL_law_r25 ++ (wsL_law_r26 ++ (wsL_law_r27 ++ (wsL_law_r28 ++ (wsL_law_r29 ++ (wsL_law_r30 ++ wsL_law_r31)))))))))))))))))))))))))))))) ++ wsX70 ++ wsX80 ++ wsX60 ++ wsX40 ++ wsX20 ++ wsX00 ++ wsX50 ++ wsX10 ++ wsX30 ++ ([] : List Cond)
set_option maxRecDepth 20000 in
theorem wsL_law_in : ∀ w ∈ wsL_law, w ∈ lw_tbl := fun w h => (goodIn_p wsL_law [59, 62, 67, 83, 89, 96, 102, 178, 236, 256, 260, 266, 270, 273, 276, 281, 284, 287, 290, 294, 304, 308, 312, 316, 320, 324, 328, 332, 336, 340, 344, 348, 353, 357, 361, 365, 660, 665, 669, 673, 676, 389, 736, 739, 393, 743, 397, 401, 405, 409, 412, 747, 751, 755, 759, 763, 417, 421, 425, 767, 429, 433, 437, 440, 444, 467, 448, 452, 456, 460, 464, 471, 476, 771, 775, 779, 783, 480, 485, 787, 790, 489, 794, 798, 494, 499, 503, 802, 507, 511, 515, 519, 523, 527, 531, 535, 539, 543, 547, 551, 555, 559, 563, 567, 571, 575, 579, 583, 587, 822, 826, 830, 834, 838, 842, 846, 850, 854, 858, 862, 866, 870, 874, 818, 810, 814, 591, 595, 806, 600, 604, 608, 879, 883, 612, 887, 616, 620, 624, 891, 894, 630, 634, 898, 638, 902, 643, 647, 651, 906, 910, 914, 655, 918] (by decide +kernel) (by decide +kernel) w h).1
theorem inlX0 : ∀ w ∈ wsX00, w ∈ wsL_law := fun _ h => List.mem_append_left _ (List.mem_append_left _ (List.mem_append_left _ (List.mem_append_left _ (List.mem_append_right _ h))))
theorem inX0 : ∀ w ∈ wsX00, w ∈ lw_tbl := fun w h => wsL_law_in w (inlX0 w h)
theorem inlX1 : ∀ w ∈ wsX10, w ∈ wsL_law := fun _ h => List.mem_append_left _ (List.mem_append_left _ (List.mem_append_right _ h))
theorem inX1 : ∀ w ∈ wsX10, w ∈ lw_tbl := fun w h => wsL_law_in w (inlX1 w h)
theorem inlX2 : ∀ w ∈ wsX20, w ∈ wsL_law := fun _ h => List.mem_append_left _ (List.mem_append_left _ (List.mem_append_left _ (List.mem_append_left _ (List.mem_append_left _ (List.mem_append_right _ h)))))
theorem inX2 : ∀ w ∈ wsX20, w ∈ lw_tbl := fun w h => wsL_law_in w (inlX2 w h)
theorem inlX3 : ∀ w ∈ wsX30, w ∈ wsL_law := fun _ h => List.mem_append_left _ (List.mem_append_right _ h)
theorem inX3 : ∀ w ∈ wsX30, w ∈ lw_tbl := fun w h => wsL_law_in w (inlX3 w h)
theorem inlX4 : ∀ w ∈ wsX40, w ∈ wsL_law := fun _ h => List.mem_append_left _ (List.mem_append_left _ (List.mem_append_left _ (List.mem_append_left _ (List.mem_append_left _ (List.mem_append_left _ (List.mem_append_right _ h))))))
theorem inX4 : ∀ w ∈ wsX40, w ∈ lw_tbl := fun w h => wsL_law_in w (inlX4 w h)
theorem inlX5 : ∀ w ∈ wsX50, w ∈ wsL_law := fun _ h => List.mem_append_left _ (List.mem_append_left _ (List.mem_append_left _ (List.mem_append_right _ h)))
theorem inX5 : ∀ w ∈ wsX50, w ∈ lw_tbl := fun w h => wsL_law_in w (inlX5 w h)
theorem inlX6 : ∀ w ∈ wsX60, w ∈ wsL_law := fun _ h => List.mem_append_left _ (List.mem_append_left _ (List.mem_append_left _ (List.mem_append_left _ (List.mem_append_left _ (List.mem_append_left _ (List.mem_append_left _ (List.mem_append_right _ h)))))))
theorem inX6 : ∀ w ∈ wsX60, w ∈ lw_tbl := fun w h => wsL_law_in w (inlX6 w h)
theorem inlX7 : ∀ w ∈ wsX70, w ∈ wsL_law := fun _ h => List.mem_append_left _ (List.mem_append_left _ (List.mem_append_left _ (List.mem_append_left _ (List.mem_append_left _ (List.mem_append_left _ (List.mem_append_left _ (List.mem_append_left _ (List.mem_append_left _ (List.mem_append_right _ h)))))))))
theorem inX7 : ∀ w ∈ wsX70, w ∈ lw_tbl := fun w h => wsL_law_in w (inlX7 w h)
theorem inlX8 : ∀ w ∈ wsX80, w ∈ wsL_law := fun _ h => List.mem_append_left _ (List.mem_append_left _ (List.mem_append_left _ (List.mem_append_left _ (List.mem_append_left _ (List.mem_append_left _ (List.mem_append_left _ (List.mem_append_left _ (List.mem_append_right _ h))))))))
theorem inX8 : ∀ w ∈ wsX80, w ∈ lw_tbl := fun w h => wsL_law_in w (inlX8 w h)
theorem inJ9 : ∀ w ∈ wsJ90, w ∈ lw_tbl := by decide +kernel
theorem inJ0 : ∀ w ∈ wsJ00, w ∈ lw_tbl := by decide +kernel
theorem inJ1 : ∀ w ∈ wsJ10, w ∈ lw_tbl := by decide +kernel
theorem inJ2 : ∀ w ∈ wsJ20, w ∈ lw_tbl := by decide +kernel
theorem inJ3 : ∀ w ∈ wsJ30, w ∈ lw_tbl := by decide +kernel
set_option maxRecDepth 20000 in
theorem ggX0_init_X5_init : GoodIn wsX0_init wsX5_init := goodIn_r _ [14, 15, 2, 3, 16, 17, 18, 19, 20, 21, 22, 23, 44, 45, 46, 47, 48, 31, 32, 33, 34, 35, 36, 37, 38, 39, 40, 41] (by decide +kernel) (by decide +kernel)
set_option maxRecDepth 20000 in
theorem gX0_init_X5_init_n21 : GoodIn wsX0_init (wsX5_init) := ggX0_init_X5_init
set_option maxRecDepth 20000 in
theorem ggX0_init_X1_init : GoodIn wsX0_init wsX1_init := goodIn_r _ [25, 26, 2, 3] (by decide +kernel) (by decide +kernel)
set_option maxRecDepth 20000 in
theorem gX0_init_X1_init_n28 : GoodIn wsX0_init (wsX1_init) := ggX0_init_X1_init
theorem dX0_init_0 : decode cX0_init 0 = .ok (.aload_n 0, 1) := by decide +kernel
theorem dX0_init_1 : decode cX0_init 1 = .ok (.invokespecial 3, 3) := by decide +kernel
theorem dX0_init_4 : decode cX0_init 4 = .ok (.aload_n 0, 1) := by decide +kernel
theorem dX0_init_5 : decode cX0_init 5 = .ok (.iload_n 1, 1) := by decide +kernel
theorem dX0_init_6 : decode cX0_init 6 = .ok (.putfield 9, 3) := by decide +kernel
theorem dX0_init_9 : decode cX0_init 9 = .ok (.aload_n 0, 1) := by decide +kernel
theorem dX0_init_10 : decode cX0_init 10 = .ok (.bipush 6, 2) := by decide +kernel
theorem dX0_init_12 : decode cX0_init 12 = .ok (.anewarray 15, 3) := by decide +kernel
theorem dX0_init_15 : decode cX0_init 15 = .ok (.putfield 17, 3) := by decide +kernel
theorem dX0_init_18 : decode cX0_init 18 = .ok (.iconst 0, 1) := by decide +kernel
theorem dX0_init_19 : decode cX0_init 19 = .ok (.istore_n 2, 1) := by decide +kernel
theorem dX0_init_20 : decode cX0_init 20 = .ok (.iload_n 2, 1) := by decide +kernel
theorem dX0_init_21 : decode cX0_init 21 = .ok (.aload_n 0, 1) := by decide +kernel
theorem dX0_init_22 : decode cX0_init 22 = .ok (.getfield 17, 3) := by decide +kernel
theorem dX0_init_25 : decode cX0_init 25 = .ok (.arraylength, 1) := by decide +kernel
theorem dX0_init_26 : decode cX0_init 26 = .ok (.if_icmp .ge 22, 3) := by decide +kernel
theorem dX0_init_29 : decode cX0_init 29 = .ok (.aload_n 0, 1) := by decide +kernel
theorem dX0_init_30 : decode cX0_init 30 = .ok (.getfield 17, 3) := by decide +kernel
theorem dX0_init_33 : decode cX0_init 33 = .ok (.iload_n 2, 1) := by decide +kernel
theorem dX0_init_34 : decode cX0_init 34 = .ok (.new 15, 3) := by decide +kernel
theorem dX0_init_37 : decode cX0_init 37 = .ok (.dup, 1) := by decide +kernel
theorem dX0_init_38 : decode cX0_init 38 = .ok (.invokespecial 21, 3) := by decide +kernel
end
section
theorem dX0_init_41 : decode cX0_init 41 = .ok (.aastore, 1) := by decide +kernel
theorem dX0_init_42 : decode cX0_init 42 = .ok (.iinc 2 1, 3) := by decide +kernel
theorem dX0_init_45 : decode cX0_init 45 = .ok (.goto (-25), 3) := by decide +kernel
theorem dX0_init_48 : decode cX0_init 48 = .ok (.aload_n 0, 1) := by decide +kernel
theorem dX0_init_49 : decode cX0_init 49 = .ok (.bipush 8, 2) := by decide +kernel
theorem dX0_init_51 : decode cX0_init 51 = .ok (.anewarray 22, 3) := by decide +kernel
theorem dX0_init_54 : decode cX0_init 54 = .ok (.putfield 24, 3) := by decide +kernel
theorem dX0_init_57 : decode cX0_init 57 = .ok (.iconst 0, 1) := by decide +kernel
theorem dX0_init_58 : decode cX0_init 58 = .ok (.istore_n 2, 1) := by decide +kernel
theorem dX0_init_59 : decode cX0_init 59 = .ok (.iload_n 2, 1) := by decide +kernel
theorem dX0_init_60 : decode cX0_init 60 = .ok (.aload_n 0, 1) := by decide +kernel
theorem dX0_init_61 : decode cX0_init 61 = .ok (.getfield 24, 3) := by decide +kernel
theorem dX0_init_64 : decode cX0_init 64 = .ok (.arraylength, 1) := by decide +kernel
theorem dX0_init_65 : decode cX0_init 65 = .ok (.if_icmp .ge 22, 3) := by decide +kernel
theorem dX0_init_68 : decode cX0_init 68 = .ok (.aload_n 0, 1) := by decide +kernel
theorem dX0_init_69 : decode cX0_init 69 = .ok (.getfield 24, 3) := by decide +kernel
theorem dX0_init_72 : decode cX0_init 72 = .ok (.iload_n 2, 1) := by decide +kernel
theorem dX0_init_73 : decode cX0_init 73 = .ok (.new 22, 3) := by decide +kernel
theorem dX0_init_76 : decode cX0_init 76 = .ok (.dup, 1) := by decide +kernel
theorem dX0_init_77 : decode cX0_init 77 = .ok (.invokespecial 28, 3) := by decide +kernel
theorem dX0_init_80 : decode cX0_init 80 = .ok (.aastore, 1) := by decide +kernel
theorem dX0_init_81 : decode cX0_init 81 = .ok (.iinc 2 1, 3) := by decide +kernel
theorem dX0_init_84 : decode cX0_init 84 = .ok (.goto (-25), 3) := by decide +kernel
theorem dX0_init_87 : decode cX0_init 87 = .ok (.return_, 1) := by decide +kernel
set_option maxRecDepth 20000 in
theorem ggX0_clear_X5_clear : GoodIn wsX0_clear wsX5_clear := goodIn_r _ [8, 9, 10, 11, 12, 13, 14, 15, 16, 17, 18, 19, 20, 21, 22, 23, 24, 25, 26, 27, 28, 29, 41, 42, 43, 44, 45, 46, 47, 48, 49, 50, 51, 52, 53, 54, 55, 56] (by decide +kernel) (by decide +kernel)
set_option maxRecDepth 20000 in
theorem gX0_clear_X5_clear : GoodIn wsX0_clear (wsV RX0 32 RX5 yX5_clear wsX5_clear) := goodIn_app (goodIn_of _ (by decide +kernel)) ggX0_clear_X5_clear
set_option maxRecDepth 20000 in
theorem ggX0_clear_X1_clear : GoodIn wsX0_clear wsX1_clear := goodIn_r _ [34, 35, 36, 57, 58] (by decide +kernel) (by decide +kernel)
set_option maxRecDepth 20000 in
theorem gX0_clear_X1_clear : GoodIn wsX0_clear (wsV RX0 35 RX1 yX1_clear wsX1_clear) := goodIn_app (goodIn_of _ (by decide +kernel)) ggX0_clear_X1_clear
theorem dX0_clear_0 : decode cX0_clear 0 = .ok (.aload_n 0, 1) := by decide +kernel
theorem dX0_clear_1 : decode cX0_clear 1 = .ok (.iconst 5, 1) := by decide +kernel
theorem dX0_clear_2 : decode cX0_clear 2 = .ok (.putfield 29, 3) := by decide +kernel
theorem dX0_clear_5 : decode cX0_clear 5 = .ok (.aload_n 0, 1) := by decide +kernel
theorem dX0_clear_6 : decode cX0_clear 6 = .ok (.getfield 17, 3) := by decide +kernel
theorem dX0_clear_9 : decode cX0_clear 9 = .ok (.astore_n 1, 1) := by decide +kernel
theorem dX0_clear_10 : decode cX0_clear 10 = .ok (.aload_n 1, 1) := by decide +kernel
theorem dX0_clear_11 : decode cX0_clear 11 = .ok (.arraylength, 1) := by decide +kernel
theorem dX0_clear_12 : decode cX0_clear 12 = .ok (.istore_n 2, 1) := by decide +kernel
theorem dX0_clear_13 : decode cX0_clear 13 = .ok (.iconst 0, 1) := by decide +kernel
theorem dX0_clear_14 : decode cX0_clear 14 = .ok (.istore_n 3, 1) := by decide +kernel
theorem dX0_clear_15 : decode cX0_clear 15 = .ok (.iload_n 3, 1) := by decide +kernel
theorem dX0_clear_16 : decode cX0_clear 16 = .ok (.iload_n 2, 1) := by decide +kernel
theorem dX0_clear_17 : decode cX0_clear 17 = .ok (.if_icmp .ge 19, 3) := by decide +kernel
theorem dX0_clear_20 : decode cX0_clear 20 = .ok (.aload_n 1, 1) := by decide +kernel
theorem dX0_clear_21 : decode cX0_clear 21 = .ok (.iload_n 3, 1) := by decide +kernel
theorem dX0_clear_22 : decode cX0_clear 22 = .ok (.aaload, 1) := by decide +kernel
theorem dX0_clear_23 : decode cX0_clear 23 = .ok (.astore 4, 2) := by decide +kernel
theorem dX0_clear_25 : decode cX0_clear 25 = .ok (.aload 4, 2) := by decide +kernel
theorem dX0_clear_27 : decode cX0_clear 27 = .ok (.invokevirtual 32, 3) := by decide +kernel
theorem dX0_clear_30 : decode cX0_clear 30 = .ok (.iinc 3 1, 3) := by decide +kernel
theorem dX0_clear_33 : decode cX0_clear 33 = .ok (.goto (-18), 3) := by decide +kernel
theorem dX0_clear_36 : decode cX0_clear 36 = .ok (.aload_n 0, 1) := by decide +kernel
theorem dX0_clear_37 : decode cX0_clear 37 = .ok (.getfield 24, 3) := by decide +kernel
theorem dX0_clear_40 : decode cX0_clear 40 = .ok (.astore_n 1, 1) := by decide +kernel
theorem dX0_clear_41 : decode cX0_clear 41 = .ok (.aload_n 1, 1) := by decide +kernel
theorem dX0_clear_42 : decode cX0_clear 42 = .ok (.arraylength, 1) := by decide +kernel
theorem dX0_clear_43 : decode cX0_clear 43 = .ok (.istore_n 2, 1) := by decide +kernel
theorem dX0_clear_44 : decode cX0_clear 44 = .ok (.iconst 0, 1) := by decide +kernel
theorem dX0_clear_45 : decode cX0_clear 45 = .ok (.istore_n 3, 1) := by decide +kernel
theorem dX0_clear_46 : decode cX0_clear 46 = .ok (.iload_n 3, 1) := by decide +kernel
theorem dX0_clear_47 : decode cX0_clear 47 = .ok (.iload_n 2, 1) := by decide +kernel
theorem dX0_clear_48 : decode cX0_clear 48 = .ok (.if_icmp .ge 19, 3) := by decide +kernel
theorem dX0_clear_51 : decode cX0_clear 51 = .ok (.aload_n 1, 1) := by decide +kernel
theorem dX0_clear_52 : decode cX0_clear 52 = .ok (.iload_n 3, 1) := by decide +kernel
theorem dX0_clear_53 : decode cX0_clear 53 = .ok (.aaload, 1) := by decide +kernel
theorem dX0_clear_54 : decode cX0_clear 54 = .ok (.astore 4, 2) := by decide +kernel
theorem dX0_clear_56 : decode cX0_clear 56 = .ok (.aload 4, 2) := by decide +kernel
theorem dX0_clear_58 : decode cX0_clear 58 = .ok (.invokevirtual 35, 3) := by decide +kernel
theorem dX0_clear_61 : decode cX0_clear 61 = .ok (.iinc 3 1, 3) := by decide +kernel
theorem dX0_clear_64 : decode cX0_clear 64 = .ok (.goto (-18), 3) := by decide +kernel
theorem dX0_clear_67 : decode cX0_clear 67 = .ok (.return_, 1) := by decide +kernel
set_option maxRecDepth 20000 in
theorem ggX0_copyFrom_X5_copyFrom : GoodIn wsX0_copyFrom wsX5_copyFrom := goodIn_r _ [8, 9, 10, 11, 12, 13, 14, 15, 16, 17, 18, 19, 20, 21, 22, 23, 24, 25, 26, 27, 28, 29, 41, 42, 43, 44, 45, 46, 47, 48, 49, 50, 51, 52, 53, 54, 55, 56] (by decide +kernel) (by decide +kernel)
set_option maxRecDepth 20000 in
theorem gX0_copyFrom_X5_copyFrom : GoodIn wsX0_copyFrom (wsV RX0 36 RX5 yX5_copyFrom wsX5_copyFrom) := goodIn_app (goodIn_of _ (by decide +kernel)) ggX0_copyFrom_X5_copyFrom
set_option maxRecDepth 20000 in
theorem ggX0_copyFrom_X1_copyFrom : GoodIn wsX0_copyFrom wsX1_copyFrom := goodIn_r _ [34, 35, 36, 57, 58] (by decide +kernel) (by decide +kernel)
set_option maxRecDepth 20000 in
theorem gX0_copyFrom_X1_copyFrom : GoodIn wsX0_copyFrom (wsV RX0 40 RX1 yX1_copyFrom wsX1_copyFrom) := goodIn_app (goodIn_of _ (by decide +kernel)) ggX0_copyFrom_X1_copyFrom
theorem dX0_copyFrom_0 : decode cX0_copyFrom 0 = .ok (.aload_n 0, 1) := by decide +kernel
theorem dX0_copyFrom_1 : decode cX0_copyFrom 1 = .ok (.aload_n 1, 1) := by decide +kernel
theorem dX0_copyFrom_2 : decode cX0_copyFrom 2 = .ok (.getfield 29, 3) := by decide +kernel
theorem dX0_copyFrom_5 : decode cX0_copyFrom 5 = .ok (.putfield 29, 3) := by decide +kernel
theorem dX0_copyFrom_8 : decode cX0_copyFrom 8 = .ok (.iconst 0, 1) := by decide +kernel
theorem dX0_copyFrom_9 : decode cX0_copyFrom 9 = .ok (.istore_n 2, 1) := by decide +kernel
theorem dX0_copyFrom_10 : decode cX0_copyFrom 10 = .ok (.iload_n 2, 1) := by decide +kernel
theorem dX0_copyFrom_11 : decode cX0_copyFrom 11 = .ok (.aload_n 0, 1) := by decide +kernel
theorem dX0_copyFrom_12 : decode cX0_copyFrom 12 = .ok (.getfield 17, 3) := by decide +kernel
theorem dX0_copyFrom_15 : decode cX0_copyFrom 15 = .ok (.arraylength, 1) := by decide +kernel
theorem dX0_copyFrom_16 : decode cX0_copyFrom 16 = .ok (.if_icmp .ge 33, 3) := by decide +kernel
theorem dX0_copyFrom_19 : decode cX0_copyFrom 19 = .ok (.iload_n 2, 1) := by decide +kernel
theorem dX0_copyFrom_20 : decode cX0_copyFrom 20 = .ok (.aload_n 1, 1) := by decide +kernel
theorem dX0_copyFrom_21 : decode cX0_copyFrom 21 = .ok (.getfield 17, 3) := by decide +kernel
theorem dX0_copyFrom_24 : decode cX0_copyFrom 24 = .ok (.arraylength, 1) := by decide +kernel
theorem dX0_copyFrom_25 : decode cX0_copyFrom 25 = .ok (.if_icmp .ge 24, 3) := by decide +kernel
theorem dX0_copyFrom_28 : decode cX0_copyFrom 28 = .ok (.aload_n 0, 1) := by decide +kernel
theorem dX0_copyFrom_29 : decode cX0_copyFrom 29 = .ok (.getfield 17, 3) := by decide +kernel
theorem dX0_copyFrom_32 : decode cX0_copyFrom 32 = .ok (.iload_n 2, 1) := by decide +kernel
theorem dX0_copyFrom_33 : decode cX0_copyFrom 33 = .ok (.aaload, 1) := by decide +kernel
theorem dX0_copyFrom_34 : decode cX0_copyFrom 34 = .ok (.aload_n 1, 1) := by decide +kernel
theorem dX0_copyFrom_35 : decode cX0_copyFrom 35 = .ok (.getfield 17, 3) := by decide +kernel
theorem dX0_copyFrom_38 : decode cX0_copyFrom 38 = .ok (.iload_n 2, 1) := by decide +kernel
theorem dX0_copyFrom_39 : decode cX0_copyFrom 39 = .ok (.aaload, 1) := by decide +kernel
theorem dX0_copyFrom_40 : decode cX0_copyFrom 40 = .ok (.invokevirtual 36, 3) := by decide +kernel
theorem dX0_copyFrom_43 : decode cX0_copyFrom 43 = .ok (.iinc 2 1, 3) := by decide +kernel
theorem dX0_copyFrom_46 : decode cX0_copyFrom 46 = .ok (.goto (-36), 3) := by decide +kernel
theorem dX0_copyFrom_49 : decode cX0_copyFrom 49 = .ok (.iconst 0, 1) := by decide +kernel
theorem dX0_copyFrom_50 : decode cX0_copyFrom 50 = .ok (.istore_n 2, 1) := by decide +kernel
theorem dX0_copyFrom_51 : decode cX0_copyFrom 51 = .ok (.iload_n 2, 1) := by decide +kernel
theorem dX0_copyFrom_52 : decode cX0_copyFrom 52 = .ok (.aload_n 0, 1) := by decide +kernel
theorem dX0_copyFrom_53 : decode cX0_copyFrom 53 = .ok (.getfield 24, 3) := by decide +kernel
theorem dX0_copyFrom_56 : decode cX0_copyFrom 56 = .ok (.arraylength, 1) := by decide +kernel
theorem dX0_copyFrom_57 : decode cX0_copyFrom 57 = .ok (.if_icmp .ge 33, 3) := by decide +kernel
theorem dX0_copyFrom_60 : decode cX0_copyFrom 60 = .ok (.iload_n 2, 1) := by decide +kernel
theorem dX0_copyFrom_61 : decode cX0_copyFrom 61 = .ok (.aload_n 1, 1) := by decide +kernel
theorem dX0_copyFrom_62 : decode cX0_copyFrom 62 = .ok (.getfield 24, 3) := by decide +kernel
theorem dX0_copyFrom_65 : decode cX0_copyFrom 65 = .ok (.arraylength, 1) := by decide +kernel
theorem dX0_copyFrom_66 : decode cX0_copyFrom 66 = .ok (.if_icmp .ge 24, 3) := by decide +kernel
theorem dX0_copyFrom_69 : decode cX0_copyFrom 69 = .ok (.aload_n 0, 1) := by decide +kernel
theorem dX0_copyFrom_70 : decode cX0_copyFrom 70 = .ok (.getfield 24, 3) := by decide +kernel
theorem dX0_copyFrom_73 : decode cX0_copyFrom 73 = .ok (.iload_n 2, 1) := by decide +kernel
theorem dX0_copyFrom_74 : decode cX0_copyFrom 74 = .ok (.aaload, 1) := by decide +kernel
theorem dX0_copyFrom_75 : decode cX0_copyFrom 75 = .ok (.aload_n 1, 1) := by decide +kernel
theorem dX0_copyFrom_76 : decode cX0_copyFrom 76 = .ok (.getfield 24, 3) := by decide +kernel
theorem dX0_copyFrom_79 : decode cX0_copyFrom 79 = .ok (.iload_n 2, 1) := by decide +kernel
theorem dX0_copyFrom_80 : decode cX0_copyFrom 80 = .ok (.aaload, 1) := by decide +kernel
theorem dX0_copyFrom_81 : decode cX0_copyFrom 81 = .ok (.invokevirtual 40, 3) := by decide +kernel
theorem dX0_copyFrom_84 : decode cX0_copyFrom 84 = .ok (.iinc 2 1, 3) := by decide +kernel
theorem dX0_copyFrom_87 : decode cX0_copyFrom 87 = .ok (.goto (-36), 3) := by decide +kernel
theorem dX0_copyFrom_90 : decode cX0_copyFrom 90 = .ok (.return_, 1) := by decide +kernel
theorem dX0_looksLike_0 : decode cX0_looksLike 0 = .ok (.iconst 0, 1) := by decide +kernel
theorem dX0_looksLike_1 : decode cX0_looksLike 1 = .ok (.istore_n 2, 1) := by decide +kernel
theorem dX0_looksLike_2 : decode cX0_looksLike 2 = .ok (.iload_n 2, 1) := by decide +kernel
theorem dX0_looksLike_3 : decode cX0_looksLike 3 = .ok (.aload_n 0, 1) := by decide +kernel
theorem dX0_looksLike_4 : decode cX0_looksLike 4 = .ok (.getfield 17, 3) := by decide +kernel
theorem dX0_looksLike_7 : decode cX0_looksLike 7 = .ok (.arraylength, 1) := by decide +kernel
theorem dX0_looksLike_8 : decode cX0_looksLike 8 = .ok (.if_icmp .ge 41, 3) := by decide +kernel
theorem dX0_looksLike_11 : decode cX0_looksLike 11 = .ok (.iload_n 2, 1) := by decide +kernel
theorem dX0_looksLike_12 : decode cX0_looksLike 12 = .ok (.aload_n 1, 1) := by decide +kernel
theorem dX0_looksLike_13 : decode cX0_looksLike 13 = .ok (.getfield 17, 3) := by decide +kernel
theorem dX0_looksLike_16 : decode cX0_looksLike 16 = .ok (.arraylength, 1) := by decide +kernel
theorem dX0_looksLike_17 : decode cX0_looksLike 17 = .ok (.if_icmp .ge 32, 3) := by decide +kernel
theorem dX0_looksLike_20 : decode cX0_looksLike 20 = .ok (.aload_n 0, 1) := by decide +kernel
theorem dX0_looksLike_21 : decode cX0_looksLike 21 = .ok (.getfield 17, 3) := by decide +kernel
theorem dX0_looksLike_24 : decode cX0_looksLike 24 = .ok (.iload_n 2, 1) := by decide +kernel
theorem dX0_looksLike_25 : decode cX0_looksLike 25 = .ok (.aaload, 1) := by decide +kernel
theorem dX0_looksLike_26 : decode cX0_looksLike 26 = .ok (.getfield 43, 3) := by decide +kernel
theorem dX0_looksLike_29 : decode cX0_looksLike 29 = .ok (.aload_n 1, 1) := by decide +kernel
theorem dX0_looksLike_30 : decode cX0_looksLike 30 = .ok (.getfield 17, 3) := by decide +kernel
theorem dX0_looksLike_33 : decode cX0_looksLike 33 = .ok (.iload_n 2, 1) := by decide +kernel
theorem dX0_looksLike_34 : decode cX0_looksLike 34 = .ok (.aaload, 1) := by decide +kernel
theorem dX0_looksLike_35 : decode cX0_looksLike 35 = .ok (.getfield 43, 3) := by decide +kernel
theorem dX0_looksLike_38 : decode cX0_looksLike 38 = .ok (.if_icmp .eq 5, 3) := by decide +kernel
theorem dX0_looksLike_41 : decode cX0_looksLike 41 = .ok (.iconst 0, 1) := by decide +kernel
theorem dX0_looksLike_42 : decode cX0_looksLike 42 = .ok (.ireturn, 1) := by decide +kernel
theorem dX0_looksLike_43 : decode cX0_looksLike 43 = .ok (.iinc 2 1, 3) := by decide +kernel
theorem dX0_looksLike_46 : decode cX0_looksLike 46 = .ok (.goto (-44), 3) := by decide +kernel
theorem dX0_looksLike_49 : decode cX0_looksLike 49 = .ok (.iconst 0, 1) := by decide +kernel
theorem dX0_looksLike_50 : decode cX0_looksLike 50 = .ok (.istore_n 2, 1) := by decide +kernel
theorem dX0_looksLike_51 : decode cX0_looksLike 51 = .ok (.iload_n 2, 1) := by decide +kernel
theorem dX0_looksLike_52 : decode cX0_looksLike 52 = .ok (.aload_n 0, 1) := by decide +kernel
theorem dX0_looksLike_53 : decode cX0_looksLike 53 = .ok (.getfield 24, 3) := by decide +kernel
theorem dX0_looksLike_56 : decode cX0_looksLike 56 = .ok (.arraylength, 1) := by decide +kernel
theorem dX0_looksLike_57 : decode cX0_looksLike 57 = .ok (.if_icmp .ge 41, 3) := by decide +kernel
theorem dX0_looksLike_60 : decode cX0_looksLike 60 = .ok (.iload_n 2, 1) := by decide +kernel
theorem dX0_looksLike_61 : decode cX0_looksLike 61 = .ok (.aload_n 1, 1) := by decide +kernel
theorem dX0_looksLike_62 : decode cX0_looksLike 62 = .ok (.getfield 24, 3) := by decide +kernel
theorem dX0_looksLike_65 : decode cX0_looksLike 65 = .ok (.arraylength, 1) := by decide +kernel
theorem dX0_looksLike_66 : decode cX0_looksLike 66 = .ok (.if_icmp .ge 32, 3) := by decide +kernel
theorem dX0_looksLike_69 : decode cX0_looksLike 69 = .ok (.aload_n 0, 1) := by decide +kernel
theorem dX0_looksLike_70 : decode cX0_looksLike 70 = .ok (.getfield 24, 3) := by decide +kernel
theorem dX0_looksLike_73 : decode cX0_looksLike 73 = .ok (.iload_n 2, 1) := by decide +kernel
theorem dX0_looksLike_74 : decode cX0_looksLike 74 = .ok (.aaload, 1) := by decide +kernel
theorem dX0_looksLike_75 : decode cX0_looksLike 75 = .ok (.getfield 46, 3) := by decide +kernel
theorem dX0_looksLike_78 : decode cX0_looksLike 78 = .ok (.aload_n 1, 1) := by decide +kernel
theorem dX0_looksLike_79 : decode cX0_looksLike 79 = .ok (.getfield 24, 3) := by decide +kernel
theorem dX0_looksLike_82 : decode cX0_looksLike 82 = .ok (.iload_n 2, 1) := by decide +kernel
theorem dX0_looksLike_83 : decode cX0_looksLike 83 = .ok (.aaload, 1) := by decide +kernel
theorem dX0_looksLike_84 : decode cX0_looksLike 84 = .ok (.getfield 46, 3) := by decide +kernel
theorem dX0_looksLike_87 : decode cX0_looksLike 87 = .ok (.if_icmp .eq 5, 3) := by decide +kernel
theorem dX0_looksLike_90 : decode cX0_looksLike 90 = .ok (.iconst 0, 1) := by decide +kernel
theorem dX0_looksLike_91 : decode cX0_looksLike 91 = .ok (.ireturn, 1) := by decide +kernel
theorem dX0_looksLike_92 : decode cX0_looksLike 92 = .ok (.iinc 2 1, 3) := by decide +kernel
theorem dX0_looksLike_95 : decode cX0_looksLike 95 = .ok (.goto (-44), 3) := by decide +kernel
theorem dX0_looksLike_98 : decode cX0_looksLike 98 = .ok (.iconst 1, 1) := by decide +kernel
theorem dX0_looksLike_99 : decode cX0_looksLike 99 = .ok (.ireturn, 1) := by decide +kernel
theorem dX0_portAt_0 : decode cX0_portAt 0 = .ok (.iload_n 1, 1) := by decide +kernel
theorem dX0_portAt_1 : decode cX0_portAt 1 = .ok (.ifCond .lt 21, 3) := by decide +kernel
theorem dX0_portAt_4 : decode cX0_portAt 4 = .ok (.iload_n 1, 1) := by decide +kernel
theorem dX0_portAt_5 : decode cX0_portAt 5 = .ok (.aload_n 0, 1) := by decide +kernel
theorem dX0_portAt_6 : decode cX0_portAt 6 = .ok (.getfield 17, 3) := by decide +kernel
theorem dX0_portAt_9 : decode cX0_portAt 9 = .ok (.arraylength, 1) := by decide +kernel
theorem dX0_portAt_10 : decode cX0_portAt 10 = .ok (.if_icmp .ge 12, 3) := by decide +kernel
theorem dX0_portAt_13 : decode cX0_portAt 13 = .ok (.aload_n 0, 1) := by decide +kernel
theorem dX0_portAt_14 : decode cX0_portAt 14 = .ok (.getfield 17, 3) := by decide +kernel
theorem dX0_portAt_17 : decode cX0_portAt 17 = .ok (.iload_n 1, 1) := by decide +kernel
theorem dX0_portAt_18 : decode cX0_portAt 18 = .ok (.aaload, 1) := by decide +kernel
theorem dX0_portAt_19 : decode cX0_portAt 19 = .ok (.goto 4, 3) := by decide +kernel
theorem dX0_portAt_22 : decode cX0_portAt 22 = .ok (.aconst_null, 1) := by decide +kernel
theorem dX0_portAt_23 : decode cX0_portAt 23 = .ok (.areturn, 1) := by decide +kernel
theorem dX0_flowAt_0 : decode cX0_flowAt 0 = .ok (.iload_n 1, 1) := by decide +kernel
theorem dX0_flowAt_1 : decode cX0_flowAt 1 = .ok (.ifCond .lt 21, 3) := by decide +kernel
theorem dX0_flowAt_4 : decode cX0_flowAt 4 = .ok (.iload_n 1, 1) := by decide +kernel
theorem dX0_flowAt_5 : decode cX0_flowAt 5 = .ok (.aload_n 0, 1) := by decide +kernel
theorem dX0_flowAt_6 : decode cX0_flowAt 6 = .ok (.getfield 24, 3) := by decide +kernel
theorem dX0_flowAt_9 : decode cX0_flowAt 9 = .ok (.arraylength, 1) := by decide +kernel
theorem dX0_flowAt_10 : decode cX0_flowAt 10 = .ok (.if_icmp .ge 12, 3) := by decide +kernel
theorem dX0_flowAt_13 : decode cX0_flowAt 13 = .ok (.aload_n 0, 1) := by decide +kernel
theorem dX0_flowAt_14 : decode cX0_flowAt 14 = .ok (.getfield 24, 3) := by decide +kernel
theorem dX0_flowAt_17 : decode cX0_flowAt 17 = .ok (.iload_n 1, 1) := by decide +kernel
theorem dX0_flowAt_18 : decode cX0_flowAt 18 = .ok (.aaload, 1) := by decide +kernel
theorem dX0_flowAt_19 : decode cX0_flowAt 19 = .ok (.goto 4, 3) := by decide +kernel
theorem dX0_flowAt_22 : decode cX0_flowAt 22 = .ok (.aconst_null, 1) := by decide +kernel
theorem dX0_flowAt_23 : decode cX0_flowAt 23 = .ok (.areturn, 1) := by decide +kernel
set_option maxRecDepth 20000 in
theorem ggX0_hearFrom_X5_hear : GoodIn wsX0_hearFrom wsX5_hear := goodIn_r _ [7, 8, 9, 10, 11, 12, 13, 14, 15, 16, 17, 18, 19, 20, 21, 26, 27, 28, 29, 30, 31, 32, 33, 34, 35, 36, 37, 38, 39, 40, 41] (by decide +kernel) (by decide +kernel)
set_option maxRecDepth 20000 in
theorem gX0_hearFrom_X5_hear : GoodIn wsX0_hearFrom (wsV RX0 53 RX5 yX5_hear wsX5_hear) := goodIn_app (goodIn_of _ (by decide +kernel)) ggX0_hearFrom_X5_hear
theorem dX0_hearFrom_0 : decode cX0_hearFrom 0 = .ok (.iconst 0, 1) := by decide +kernel
theorem dX0_hearFrom_1 : decode cX0_hearFrom 1 = .ok (.istore_n 2, 1) := by decide +kernel
theorem dX0_hearFrom_2 : decode cX0_hearFrom 2 = .ok (.iload_n 2, 1) := by decide +kernel
theorem dX0_hearFrom_3 : decode cX0_hearFrom 3 = .ok (.aload_n 0, 1) := by decide +kernel
theorem dX0_hearFrom_4 : decode cX0_hearFrom 4 = .ok (.getfield 17, 3) := by decide +kernel
theorem dX0_hearFrom_7 : decode cX0_hearFrom 7 = .ok (.arraylength, 1) := by decide +kernel
theorem dX0_hearFrom_8 : decode cX0_hearFrom 8 = .ok (.if_icmp .ge 36, 3) := by decide +kernel
theorem dX0_hearFrom_11 : decode cX0_hearFrom 11 = .ok (.iload_n 2, 1) := by decide +kernel
theorem dX0_hearFrom_12 : decode cX0_hearFrom 12 = .ok (.aload_n 1, 1) := by decide +kernel
theorem dX0_hearFrom_13 : decode cX0_hearFrom 13 = .ok (.getfield 17, 3) := by decide +kernel
theorem dX0_hearFrom_16 : decode cX0_hearFrom 16 = .ok (.arraylength, 1) := by decide +kernel
theorem dX0_hearFrom_17 : decode cX0_hearFrom 17 = .ok (.if_icmp .ge 27, 3) := by decide +kernel
theorem dX0_hearFrom_20 : decode cX0_hearFrom 20 = .ok (.aload_n 0, 1) := by decide +kernel
theorem dX0_hearFrom_21 : decode cX0_hearFrom 21 = .ok (.getfield 17, 3) := by decide +kernel
theorem dX0_hearFrom_24 : decode cX0_hearFrom 24 = .ok (.iload_n 2, 1) := by decide +kernel
theorem dX0_hearFrom_25 : decode cX0_hearFrom 25 = .ok (.aaload, 1) := by decide +kernel
theorem dX0_hearFrom_26 : decode cX0_hearFrom 26 = .ok (.aload_n 1, 1) := by decide +kernel
theorem dX0_hearFrom_27 : decode cX0_hearFrom 27 = .ok (.getfield 17, 3) := by decide +kernel
theorem dX0_hearFrom_30 : decode cX0_hearFrom 30 = .ok (.iload_n 2, 1) := by decide +kernel
theorem dX0_hearFrom_31 : decode cX0_hearFrom 31 = .ok (.aaload, 1) := by decide +kernel
theorem dX0_hearFrom_32 : decode cX0_hearFrom 32 = .ok (.getfield 49, 3) := by decide +kernel
theorem dX0_hearFrom_35 : decode cX0_hearFrom 35 = .ok (.invokevirtual 53, 3) := by decide +kernel
theorem dX0_hearFrom_38 : decode cX0_hearFrom 38 = .ok (.iinc 2 1, 3) := by decide +kernel
theorem dX0_hearFrom_41 : decode cX0_hearFrom 41 = .ok (.goto (-39), 3) := by decide +kernel
theorem dX0_hearFrom_44 : decode cX0_hearFrom 44 = .ok (.return_, 1) := by decide +kernel
set_option maxRecDepth 20000 in
theorem ggX0_choose_X0_decides : GoodIn wsX0_choose wsX0_decides := goodIn_r _ [7, 1, 8, 9, 10, 11, 12, 31, 32, 33, 34, 35, 36, 37, 38, 39, 40, 41, 42, 43, 44, 45, 46, 47, 48, 49, 50] (by decide +kernel) (by decide +kernel)
set_option maxRecDepth 20000 in
theorem gX0_choose_X0_decides : GoodIn wsX0_choose (wsV RX0 61 RX0 yX0_decides wsX0_decides) := goodIn_app (goodIn_of _ (by decide +kernel)) ggX0_choose_X0_decides
set_option maxRecDepth 20000 in
theorem ggX0_choose_X0_bestOpen : GoodIn wsX0_choose wsX0_bestOpen := goodIn_r _ [16, 1, 8, 9, 2, 17, 18, 19, 20, 21, 22, 23, 24, 25, 26, 27, 28, 29, 30, 31, 32, 33, 34, 35, 36, 37, 38, 39, 40, 41, 42, 43, 44, 45, 46, 47, 48, 49, 50] (by decide +kernel) (by decide +kernel)
set_option maxRecDepth 20000 in
theorem gX0_choose_X0_bestOpen : GoodIn wsX0_choose (wsV RX0 65 RX0 yX0_bestOpen wsX0_bestOpen) := goodIn_app (goodIn_of _ (by decide +kernel)) ggX0_choose_X0_bestOpen
theorem dX0_choose_0 : decode cX0_choose 0 = .ok (.aload_n 0, 1) := by decide +kernel
theorem dX0_choose_1 : decode cX0_choose 1 = .ok (.getfield 17, 3) := by decide +kernel
theorem dX0_choose_4 : decode cX0_choose 4 = .ok (.astore_n 2, 1) := by decide +kernel
theorem dX0_choose_5 : decode cX0_choose 5 = .ok (.aload_n 2, 1) := by decide +kernel
theorem dX0_choose_6 : decode cX0_choose 6 = .ok (.arraylength, 1) := by decide +kernel
theorem dX0_choose_7 : decode cX0_choose 7 = .ok (.istore_n 3, 1) := by decide +kernel
theorem dX0_choose_8 : decode cX0_choose 8 = .ok (.iconst 0, 1) := by decide +kernel
theorem dX0_choose_9 : decode cX0_choose 9 = .ok (.istore 4, 2) := by decide +kernel
theorem dX0_choose_11 : decode cX0_choose 11 = .ok (.iload 4, 2) := by decide +kernel
theorem dX0_choose_13 : decode cX0_choose 13 = .ok (.iload_n 3, 1) := by decide +kernel
theorem dX0_choose_14 : decode cX0_choose 14 = .ok (.if_icmp .ge 21, 3) := by decide +kernel
theorem dX0_choose_17 : decode cX0_choose 17 = .ok (.aload_n 2, 1) := by decide +kernel
theorem dX0_choose_18 : decode cX0_choose 18 = .ok (.iload 4, 2) := by decide +kernel
theorem dX0_choose_20 : decode cX0_choose 20 = .ok (.aaload, 1) := by decide +kernel
theorem dX0_choose_21 : decode cX0_choose 21 = .ok (.astore 5, 2) := by decide +kernel
theorem dX0_choose_23 : decode cX0_choose 23 = .ok (.aload 5, 2) := by decide +kernel
theorem dX0_choose_25 : decode cX0_choose 25 = .ok (.iconst 0, 1) := by decide +kernel
theorem dX0_choose_26 : decode cX0_choose 26 = .ok (.putfield 57, 3) := by decide +kernel
theorem dX0_choose_29 : decode cX0_choose 29 = .ok (.iinc 4 1, 3) := by decide +kernel
theorem dX0_choose_32 : decode cX0_choose 32 = .ok (.goto (-21), 3) := by decide +kernel
theorem dX0_choose_35 : decode cX0_choose 35 = .ok (.aload_n 0, 1) := by decide +kernel
theorem dX0_choose_36 : decode cX0_choose 36 = .ok (.invokevirtual 61, 3) := by decide +kernel
theorem dX0_choose_39 : decode cX0_choose 39 = .ok (.istore_n 2, 1) := by decide +kernel
theorem dX0_choose_40 : decode cX0_choose 40 = .ok (.aload_n 0, 1) := by decide +kernel
theorem dX0_choose_41 : decode cX0_choose 41 = .ok (.iload_n 2, 1) := by decide +kernel
theorem dX0_choose_42 : decode cX0_choose 42 = .ok (.aconst_null, 1) := by decide +kernel
theorem dX0_choose_43 : decode cX0_choose 43 = .ok (.invokevirtual 65, 3) := by decide +kernel
theorem dX0_choose_46 : decode cX0_choose 46 = .ok (.astore_n 3, 1) := by decide +kernel
theorem dX0_choose_47 : decode cX0_choose 47 = .ok (.aload_n 3, 1) := by decide +kernel
theorem dX0_choose_48 : decode cX0_choose 48 = .ok (.astore 4, 2) := by decide +kernel
theorem dX0_choose_50 : decode cX0_choose 50 = .ok (.iconst 0, 1) := by decide +kernel
theorem dX0_choose_51 : decode cX0_choose 51 = .ok (.istore 5, 2) := by decide +kernel
theorem dX0_choose_53 : decode cX0_choose 53 = .ok (.iload 5, 2) := by decide +kernel
theorem dX0_choose_55 : decode cX0_choose 55 = .ok (.iload_n 1, 1) := by decide +kernel
theorem dX0_choose_56 : decode cX0_choose 56 = .ok (.if_icmp .ge 28, 3) := by decide +kernel
theorem dX0_choose_59 : decode cX0_choose 59 = .ok (.aload 4, 2) := by decide +kernel
theorem dX0_choose_61 : decode cX0_choose 61 = .ok (.ifnull 23, 3) := by decide +kernel
theorem dX0_choose_64 : decode cX0_choose 64 = .ok (.aload 4, 2) := by decide +kernel
theorem dX0_choose_66 : decode cX0_choose 66 = .ok (.iconst 1, 1) := by decide +kernel
theorem dX0_choose_67 : decode cX0_choose 67 = .ok (.putfield 57, 3) := by decide +kernel
theorem dX0_choose_70 : decode cX0_choose 70 = .ok (.aload_n 0, 1) := by decide +kernel
theorem dX0_choose_71 : decode cX0_choose 71 = .ok (.iload_n 2, 1) := by decide +kernel
theorem dX0_choose_72 : decode cX0_choose 72 = .ok (.aload_n 3, 1) := by decide +kernel
theorem dX0_choose_73 : decode cX0_choose 73 = .ok (.invokevirtual 65, 3) := by decide +kernel
theorem dX0_choose_76 : decode cX0_choose 76 = .ok (.astore 4, 2) := by decide +kernel
theorem dX0_choose_78 : decode cX0_choose 78 = .ok (.iinc 5 1, 3) := by decide +kernel
theorem dX0_choose_81 : decode cX0_choose 81 = .ok (.goto (-28), 3) := by decide +kernel
theorem dX0_choose_84 : decode cX0_choose 84 = .ok (.return_, 1) := by decide +kernel
theorem dX0_decides_0 : decode cX0_decides 0 = .ok (.aload_n 0, 1) := by decide +kernel
theorem dX0_decides_1 : decode cX0_decides 1 = .ok (.getfield 17, 3) := by decide +kernel
theorem dX0_decides_4 : decode cX0_decides 4 = .ok (.astore_n 1, 1) := by decide +kernel
theorem dX0_decides_5 : decode cX0_decides 5 = .ok (.aload_n 1, 1) := by decide +kernel
theorem dX0_decides_6 : decode cX0_decides 6 = .ok (.arraylength, 1) := by decide +kernel
theorem dX0_decides_7 : decode cX0_decides 7 = .ok (.istore_n 2, 1) := by decide +kernel
theorem dX0_decides_8 : decode cX0_decides 8 = .ok (.iconst 0, 1) := by decide +kernel
theorem dX0_decides_9 : decode cX0_decides 9 = .ok (.istore_n 3, 1) := by decide +kernel
theorem dX0_decides_10 : decode cX0_decides 10 = .ok (.iload_n 3, 1) := by decide +kernel
theorem dX0_decides_11 : decode cX0_decides 11 = .ok (.iload_n 2, 1) := by decide +kernel
theorem dX0_decides_12 : decode cX0_decides 12 = .ok (.if_icmp .ge 74, 3) := by decide +kernel
theorem dX0_decides_15 : decode cX0_decides 15 = .ok (.aload_n 1, 1) := by decide +kernel
theorem dX0_decides_16 : decode cX0_decides 16 = .ok (.iload_n 3, 1) := by decide +kernel
theorem dX0_decides_17 : decode cX0_decides 17 = .ok (.aaload, 1) := by decide +kernel
theorem dX0_decides_18 : decode cX0_decides 18 = .ok (.astore 4, 2) := by decide +kernel
theorem dX0_decides_20 : decode cX0_decides 20 = .ok (.aload 4, 2) := by decide +kernel
theorem dX0_decides_22 : decode cX0_decides 22 = .ok (.getfield 69, 3) := by decide +kernel
theorem dX0_decides_25 : decode cX0_decides 25 = .ok (.getfield 72, 3) := by decide +kernel
theorem dX0_decides_28 : decode cX0_decides 28 = .ok (.ifCond .eq 52, 3) := by decide +kernel
theorem dX0_decides_31 : decode cX0_decides 31 = .ok (.aload 4, 2) := by decide +kernel
theorem dX0_decides_33 : decode cX0_decides 33 = .ok (.getfield 69, 3) := by decide +kernel
theorem dX0_decides_36 : decode cX0_decides 36 = .ok (.getfield 77, 3) := by decide +kernel
theorem dX0_decides_39 : decode cX0_decides 39 = .ok (.istore 5, 2) := by decide +kernel
theorem dX0_decides_41 : decode cX0_decides 41 = .ok (.aload_n 0, 1) := by decide +kernel
theorem dX0_decides_42 : decode cX0_decides 42 = .ok (.getfield 9, 3) := by decide +kernel
theorem dX0_decides_45 : decode cX0_decides 45 = .ok (.ifCond .ne 20, 3) := by decide +kernel
theorem dX0_decides_48 : decode cX0_decides 48 = .ok (.aload_n 0, 1) := by decide +kernel
theorem dX0_decides_49 : decode cX0_decides 49 = .ok (.getfield 29, 3) := by decide +kernel
theorem dX0_decides_52 : decode cX0_decides 52 = .ok (.iload 5, 2) := by decide +kernel
theorem dX0_decides_54 : decode cX0_decides 54 = .ok (.if_icmp .gt 7, 3) := by decide +kernel
theorem dX0_decides_57 : decode cX0_decides 57 = .ok (.iconst 1, 1) := by decide +kernel
theorem dX0_decides_58 : decode cX0_decides 58 = .ok (.goto 21, 3) := by decide +kernel
theorem dX0_decides_61 : decode cX0_decides 61 = .ok (.iconst 0, 1) := by decide +kernel
theorem dX0_decides_62 : decode cX0_decides 62 = .ok (.goto 17, 3) := by decide +kernel
theorem dX0_decides_65 : decode cX0_decides 65 = .ok (.aload_n 0, 1) := by decide +kernel
theorem dX0_decides_66 : decode cX0_decides 66 = .ok (.getfield 29, 3) := by decide +kernel
theorem dX0_decides_69 : decode cX0_decides 69 = .ok (.iload 5, 2) := by decide +kernel
theorem dX0_decides_71 : decode cX0_decides 71 = .ok (.if_icmp .ge 7, 3) := by decide +kernel
theorem dX0_decides_74 : decode cX0_decides 74 = .ok (.iconst 1, 1) := by decide +kernel
theorem dX0_decides_75 : decode cX0_decides 75 = .ok (.goto 4, 3) := by decide +kernel
theorem dX0_decides_78 : decode cX0_decides 78 = .ok (.iconst 0, 1) := by decide +kernel
theorem dX0_decides_79 : decode cX0_decides 79 = .ok (.ireturn, 1) := by decide +kernel
theorem dX0_decides_80 : decode cX0_decides 80 = .ok (.iinc 3 1, 3) := by decide +kernel
theorem dX0_decides_83 : decode cX0_decides 83 = .ok (.goto (-73), 3) := by decide +kernel
theorem dX0_decides_86 : decode cX0_decides 86 = .ok (.iconst 1, 1) := by decide +kernel
theorem dX0_decides_87 : decode cX0_decides 87 = .ok (.ireturn, 1) := by decide +kernel
set_option maxRecDepth 20000 in
theorem ggX0_bestOpen_X5_hasPairOf : GoodIn wsX0_bestOpen wsX5_hasPairOf := goodIn_r _ [9, 10, 11, 12, 23, 24, 25, 26, 27, 28, 29, 30, 31, 32, 33, 34, 35, 36, 37, 38] (by decide +kernel) (by decide +kernel)
set_option maxRecDepth 20000 in
theorem gX0_bestOpen_X5_hasPairOf : GoodIn wsX0_bestOpen (wsV RX0 78 RX5 yX5_hasPairOf wsX5_hasPairOf) := goodIn_app (goodIn_of _ (by decide +kernel)) ggX0_bestOpen_X5_hasPairOf
set_option maxRecDepth 20000 in
theorem ggX0_bestOpen_X5_priorityBy : GoodIn wsX0_bestOpen wsX5_priorityBy := goodIn_r _ [16, 17, 11, 18, 23, 24, 25, 26, 27, 28, 29, 30, 31, 32, 33, 34, 35, 36, 37, 38] (by decide +kernel) (by decide +kernel)
set_option maxRecDepth 20000 in
theorem gX0_bestOpen_X5_priorityBy : GoodIn wsX0_bestOpen (wsV RX0 82 RX5 yX5_priorityBy wsX5_priorityBy) := goodIn_app (goodIn_of _ (by decide +kernel)) ggX0_bestOpen_X5_priorityBy
theorem dX0_bestOpen_0 : decode cX0_bestOpen 0 = .ok (.aconst_null, 1) := by decide +kernel
theorem dX0_bestOpen_1 : decode cX0_bestOpen 1 = .ok (.astore_n 3, 1) := by decide +kernel
theorem dX0_bestOpen_2 : decode cX0_bestOpen 2 = .ok (.aload_n 0, 1) := by decide +kernel
theorem dX0_bestOpen_3 : decode cX0_bestOpen 3 = .ok (.getfield 17, 3) := by decide +kernel
theorem dX0_bestOpen_6 : decode cX0_bestOpen 6 = .ok (.astore 4, 2) := by decide +kernel
theorem dX0_bestOpen_8 : decode cX0_bestOpen 8 = .ok (.aload 4, 2) := by decide +kernel
theorem dX0_bestOpen_10 : decode cX0_bestOpen 10 = .ok (.arraylength, 1) := by decide +kernel
theorem dX0_bestOpen_11 : decode cX0_bestOpen 11 = .ok (.istore 5, 2) := by decide +kernel
theorem dX0_bestOpen_13 : decode cX0_bestOpen 13 = .ok (.iconst 0, 1) := by decide +kernel
theorem dX0_bestOpen_14 : decode cX0_bestOpen 14 = .ok (.istore 6, 2) := by decide +kernel
theorem dX0_bestOpen_16 : decode cX0_bestOpen 16 = .ok (.iload 6, 2) := by decide +kernel
theorem dX0_bestOpen_18 : decode cX0_bestOpen 18 = .ok (.iload 5, 2) := by decide +kernel
theorem dX0_bestOpen_20 : decode cX0_bestOpen 20 = .ok (.if_icmp .ge 81, 3) := by decide +kernel
theorem dX0_bestOpen_23 : decode cX0_bestOpen 23 = .ok (.aload 4, 2) := by decide +kernel
theorem dX0_bestOpen_25 : decode cX0_bestOpen 25 = .ok (.iload 6, 2) := by decide +kernel
theorem dX0_bestOpen_27 : decode cX0_bestOpen 27 = .ok (.aaload, 1) := by decide +kernel
theorem dX0_bestOpen_28 : decode cX0_bestOpen 28 = .ok (.astore 7, 2) := by decide +kernel
theorem dX0_bestOpen_30 : decode cX0_bestOpen 30 = .ok (.aload 7, 2) := by decide +kernel
theorem dX0_bestOpen_32 : decode cX0_bestOpen 32 = .ok (.getfield 69, 3) := by decide +kernel
theorem dX0_bestOpen_35 : decode cX0_bestOpen 35 = .ok (.getfield 72, 3) := by decide +kernel
theorem dX0_bestOpen_38 : decode cX0_bestOpen 38 = .ok (.ifCond .eq 28, 3) := by decide +kernel
theorem dX0_bestOpen_41 : decode cX0_bestOpen 41 = .ok (.aload 7, 2) := by decide +kernel
theorem dX0_bestOpen_43 : decode cX0_bestOpen 43 = .ok (.getfield 57, 3) := by decide +kernel
theorem dX0_bestOpen_46 : decode cX0_bestOpen 46 = .ok (.ifCond .ne 20, 3) := by decide +kernel
theorem dX0_bestOpen_49 : decode cX0_bestOpen 49 = .ok (.aload_n 2, 1) := by decide +kernel
theorem dX0_bestOpen_50 : decode cX0_bestOpen 50 = .ok (.ifnull 12, 3) := by decide +kernel
theorem dX0_bestOpen_53 : decode cX0_bestOpen 53 = .ok (.aload 7, 2) := by decide +kernel
theorem dX0_bestOpen_55 : decode cX0_bestOpen 55 = .ok (.aload_n 2, 1) := by decide +kernel
theorem dX0_bestOpen_56 : decode cX0_bestOpen 56 = .ok (.invokevirtual 78, 3) := by decide +kernel
theorem dX0_bestOpen_59 : decode cX0_bestOpen 59 = .ok (.ifCond .eq 7, 3) := by decide +kernel
theorem dX0_bestOpen_62 : decode cX0_bestOpen 62 = .ok (.iconst 1, 1) := by decide +kernel
theorem dX0_bestOpen_63 : decode cX0_bestOpen 63 = .ok (.goto 4, 3) := by decide +kernel
theorem dX0_bestOpen_66 : decode cX0_bestOpen 66 = .ok (.iconst 0, 1) := by decide +kernel
theorem dX0_bestOpen_67 : decode cX0_bestOpen 67 = .ok (.istore 8, 2) := by decide +kernel
theorem dX0_bestOpen_69 : decode cX0_bestOpen 69 = .ok (.iload 8, 2) := by decide +kernel
theorem dX0_bestOpen_71 : decode cX0_bestOpen 71 = .ok (.ifCond .eq 24, 3) := by decide +kernel
theorem dX0_bestOpen_74 : decode cX0_bestOpen 74 = .ok (.aload_n 3, 1) := by decide +kernel
theorem dX0_bestOpen_75 : decode cX0_bestOpen 75 = .ok (.ifnull 17, 3) := by decide +kernel
theorem dX0_bestOpen_78 : decode cX0_bestOpen 78 = .ok (.aload 7, 2) := by decide +kernel
theorem dX0_bestOpen_80 : decode cX0_bestOpen 80 = .ok (.iload_n 1, 1) := by decide +kernel
theorem dX0_bestOpen_81 : decode cX0_bestOpen 81 = .ok (.invokevirtual 82, 3) := by decide +kernel
theorem dX0_bestOpen_84 : decode cX0_bestOpen 84 = .ok (.aload_n 3, 1) := by decide +kernel
theorem dX0_bestOpen_85 : decode cX0_bestOpen 85 = .ok (.iload_n 1, 1) := by decide +kernel
theorem dX0_bestOpen_86 : decode cX0_bestOpen 86 = .ok (.invokevirtual 82, 3) := by decide +kernel
theorem dX0_bestOpen_89 : decode cX0_bestOpen 89 = .ok (.if_icmp .ge 6, 3) := by decide +kernel
theorem dX0_bestOpen_92 : decode cX0_bestOpen 92 = .ok (.aload 7, 2) := by decide +kernel
theorem dX0_bestOpen_94 : decode cX0_bestOpen 94 = .ok (.astore_n 3, 1) := by decide +kernel
theorem dX0_bestOpen_95 : decode cX0_bestOpen 95 = .ok (.iinc 6 1, 3) := by decide +kernel
theorem dX0_bestOpen_98 : decode cX0_bestOpen 98 = .ok (.goto (-82), 3) := by decide +kernel
theorem dX0_bestOpen_101 : decode cX0_bestOpen 101 = .ok (.aload_n 3, 1) := by decide +kernel
theorem dX0_bestOpen_102 : decode cX0_bestOpen 102 = .ok (.areturn, 1) := by decide +kernel
set_option maxRecDepth 20000 in
theorem ggX0_judgeAndSay_X5_judge : GoodIn wsX0_judgeAndSay wsX5_judge := goodIn_r _ [7, 8, 9, 10, 11, 12, 13, 14, 6, 15, 16, 17, 18, 19, 35, 36, 37, 38, 39, 40, 41, 42, 43, 44, 45, 46, 47, 48, 49, 50] (by decide +kernel) (by decide +kernel)
set_option maxRecDepth 20000 in
theorem gX0_judgeAndSay_X5_judge : GoodIn wsX0_judgeAndSay (wsV RX0 86 RX5 yX5_judge wsX5_judge) := goodIn_app (goodIn_of _ (by decide +kernel)) ggX0_judgeAndSay_X5_judge
set_option maxRecDepth 20000 in
theorem ggX0_judgeAndSay_X5_say : GoodIn wsX0_judgeAndSay wsX5_say := goodIn_r _ [23, 24, 16, 25, 18, 26, 27, 28, 29, 30, 10, 19, 35, 36, 37, 38, 39, 40, 41, 42, 43, 44, 45, 46, 47, 48, 49, 50] (by decide +kernel) (by decide +kernel)
set_option maxRecDepth 20000 in
theorem gX0_judgeAndSay_X5_say : GoodIn wsX0_judgeAndSay (wsV RX0 90 RX5 yX5_say wsX5_say) := goodIn_app (goodIn_of _ (by decide +kernel)) ggX0_judgeAndSay_X5_say
theorem dX0_judgeAndSay_0 : decode cX0_judgeAndSay 0 = .ok (.aload_n 0, 1) := by decide +kernel
theorem dX0_judgeAndSay_1 : decode cX0_judgeAndSay 1 = .ok (.getfield 17, 3) := by decide +kernel
theorem dX0_judgeAndSay_4 : decode cX0_judgeAndSay 4 = .ok (.astore_n 2, 1) := by decide +kernel
theorem dX0_judgeAndSay_5 : decode cX0_judgeAndSay 5 = .ok (.aload_n 2, 1) := by decide +kernel
theorem dX0_judgeAndSay_6 : decode cX0_judgeAndSay 6 = .ok (.arraylength, 1) := by decide +kernel
theorem dX0_judgeAndSay_7 : decode cX0_judgeAndSay 7 = .ok (.istore_n 3, 1) := by decide +kernel
theorem dX0_judgeAndSay_8 : decode cX0_judgeAndSay 8 = .ok (.iconst 0, 1) := by decide +kernel
theorem dX0_judgeAndSay_9 : decode cX0_judgeAndSay 9 = .ok (.istore 4, 2) := by decide +kernel
theorem dX0_judgeAndSay_11 : decode cX0_judgeAndSay 11 = .ok (.iload 4, 2) := by decide +kernel
theorem dX0_judgeAndSay_13 : decode cX0_judgeAndSay 13 = .ok (.iload_n 3, 1) := by decide +kernel
theorem dX0_judgeAndSay_14 : decode cX0_judgeAndSay 14 = .ok (.if_icmp .ge 30, 3) := by decide +kernel
theorem dX0_judgeAndSay_17 : decode cX0_judgeAndSay 17 = .ok (.aload_n 2, 1) := by decide +kernel
theorem dX0_judgeAndSay_18 : decode cX0_judgeAndSay 18 = .ok (.iload 4, 2) := by decide +kernel
theorem dX0_judgeAndSay_20 : decode cX0_judgeAndSay 20 = .ok (.aaload, 1) := by decide +kernel
theorem dX0_judgeAndSay_21 : decode cX0_judgeAndSay 21 = .ok (.astore 5, 2) := by decide +kernel
theorem dX0_judgeAndSay_23 : decode cX0_judgeAndSay 23 = .ok (.aload 5, 2) := by decide +kernel
theorem dX0_judgeAndSay_25 : decode cX0_judgeAndSay 25 = .ok (.iload_n 1, 1) := by decide +kernel
theorem dX0_judgeAndSay_26 : decode cX0_judgeAndSay 26 = .ok (.invokevirtual 86, 3) := by decide +kernel
theorem dX0_judgeAndSay_29 : decode cX0_judgeAndSay 29 = .ok (.aload 5, 2) := by decide +kernel
theorem dX0_judgeAndSay_31 : decode cX0_judgeAndSay 31 = .ok (.aload_n 0, 1) := by decide +kernel
theorem dX0_judgeAndSay_32 : decode cX0_judgeAndSay 32 = .ok (.getfield 29, 3) := by decide +kernel
theorem dX0_judgeAndSay_35 : decode cX0_judgeAndSay 35 = .ok (.invokevirtual 90, 3) := by decide +kernel
theorem dX0_judgeAndSay_38 : decode cX0_judgeAndSay 38 = .ok (.iinc 4 1, 3) := by decide +kernel
theorem dX0_judgeAndSay_41 : decode cX0_judgeAndSay 41 = .ok (.goto (-30), 3) := by decide +kernel
theorem dX0_judgeAndSay_44 : decode cX0_judgeAndSay 44 = .ok (.return_, 1) := by decide +kernel
set_option maxRecDepth 20000 in
theorem ggX0_dealFlows_X0_howManySending : GoodIn wsX0_dealFlows wsX0_howManySending := goodIn_r _ [6, 7, 8, 20, 21, 22, 23, 24, 25, 26, 27, 28, 29, 30, 31, 32, 33, 34] (by decide +kernel) (by decide +kernel)
set_option maxRecDepth 20000 in
theorem gX0_dealFlows_X0_howManySending : GoodIn wsX0_dealFlows (wsV RX0 93 RX0 yX0_howManySending wsX0_howManySending) := goodIn_app (goodIn_of _ (by decide +kernel)) ggX0_dealFlows_X0_howManySending
set_option maxRecDepth 20000 in
theorem ggX0_dealFlows_X0_wantedBy : GoodIn wsX0_dealFlows wsX0_wantedBy := goodIn_r _ [12, 7, 8, 20, 21, 22, 23, 24, 25, 26, 27, 28, 29, 30, 31, 32, 33, 34] (by decide +kernel) (by decide +kernel)
set_option maxRecDepth 20000 in
theorem gX0_dealFlows_X0_wantedBy : GoodIn wsX0_dealFlows (wsV RX0 97 RX0 yX0_wantedBy wsX0_wantedBy) := goodIn_app (goodIn_of _ (by decide +kernel)) ggX0_dealFlows_X0_wantedBy
set_option maxRecDepth 20000 in
theorem ggX0_dealFlows_X1_deal : GoodIn wsX0_dealFlows wsX1_deal := goodIn_r _ [17, 18, 19, 35, 36] (by decide +kernel) (by decide +kernel)
set_option maxRecDepth 20000 in
theorem gX0_dealFlows_X1_deal : GoodIn wsX0_dealFlows (wsV RX0 101 RX1 yX1_deal wsX1_deal) := goodIn_app (goodIn_of _ (by decide +kernel)) ggX0_dealFlows_X1_deal
theorem dX0_dealFlows_0 : decode cX0_dealFlows 0 = .ok (.aload_n 0, 1) := by decide +kernel
theorem dX0_dealFlows_1 : decode cX0_dealFlows 1 = .ok (.invokevirtual 93, 3) := by decide +kernel
theorem dX0_dealFlows_4 : decode cX0_dealFlows 4 = .ok (.istore_n 2, 1) := by decide +kernel
theorem dX0_dealFlows_5 : decode cX0_dealFlows 5 = .ok (.iconst 0, 1) := by decide +kernel
theorem dX0_dealFlows_6 : decode cX0_dealFlows 6 = .ok (.istore_n 3, 1) := by decide +kernel
theorem dX0_dealFlows_7 : decode cX0_dealFlows 7 = .ok (.iload_n 3, 1) := by decide +kernel
theorem dX0_dealFlows_8 : decode cX0_dealFlows 8 = .ok (.aload_n 0, 1) := by decide +kernel
theorem dX0_dealFlows_9 : decode cX0_dealFlows 9 = .ok (.getfield 24, 3) := by decide +kernel
theorem dX0_dealFlows_12 : decode cX0_dealFlows 12 = .ok (.arraylength, 1) := by decide +kernel
theorem dX0_dealFlows_13 : decode cX0_dealFlows 13 = .ok (.if_icmp .ge 25, 3) := by decide +kernel
theorem dX0_dealFlows_16 : decode cX0_dealFlows 16 = .ok (.aload_n 0, 1) := by decide +kernel
theorem dX0_dealFlows_17 : decode cX0_dealFlows 17 = .ok (.getfield 24, 3) := by decide +kernel
theorem dX0_dealFlows_20 : decode cX0_dealFlows 20 = .ok (.iload_n 3, 1) := by decide +kernel
theorem dX0_dealFlows_21 : decode cX0_dealFlows 21 = .ok (.aaload, 1) := by decide +kernel
theorem dX0_dealFlows_22 : decode cX0_dealFlows 22 = .ok (.aload_n 0, 1) := by decide +kernel
theorem dX0_dealFlows_23 : decode cX0_dealFlows 23 = .ok (.iload_n 3, 1) := by decide +kernel
theorem dX0_dealFlows_24 : decode cX0_dealFlows 24 = .ok (.iload_n 2, 1) := by decide +kernel
theorem dX0_dealFlows_25 : decode cX0_dealFlows 25 = .ok (.invokevirtual 97, 3) := by decide +kernel
theorem dX0_dealFlows_28 : decode cX0_dealFlows 28 = .ok (.iload_n 1, 1) := by decide +kernel
theorem dX0_dealFlows_29 : decode cX0_dealFlows 29 = .ok (.invokevirtual 101, 3) := by decide +kernel
theorem dX0_dealFlows_32 : decode cX0_dealFlows 32 = .ok (.iinc 3 1, 3) := by decide +kernel
theorem dX0_dealFlows_35 : decode cX0_dealFlows 35 = .ok (.goto (-28), 3) := by decide +kernel
theorem dX0_dealFlows_38 : decode cX0_dealFlows 38 = .ok (.return_, 1) := by decide +kernel
theorem dX0_wantedBy_0 : decode cX0_wantedBy 0 = .ok (.iload_n 2, 1) := by decide +kernel
theorem dX0_wantedBy_1 : decode cX0_wantedBy 1 = .ok (.ifCond .gt 6, 3) := by decide +kernel
theorem dX0_wantedBy_4 : decode cX0_wantedBy 4 = .ok (.bipush (-4), 2) := by decide +kernel
theorem dX0_wantedBy_6 : decode cX0_wantedBy 6 = .ok (.ireturn, 1) := by decide +kernel
theorem dX0_wantedBy_7 : decode cX0_wantedBy 7 = .ok (.bipush 7, 2) := by decide +kernel
theorem dX0_wantedBy_9 : decode cX0_wantedBy 9 = .ok (.iload_n 1, 1) := by decide +kernel
theorem dX0_wantedBy_10 : decode cX0_wantedBy 10 = .ok (.imul, 1) := by decide +kernel
theorem dX0_wantedBy_11 : decode cX0_wantedBy 11 = .ok (.iconst 3, 1) := by decide +kernel
theorem dX0_wantedBy_12 : decode cX0_wantedBy 12 = .ok (.iadd, 1) := by decide +kernel
theorem dX0_wantedBy_13 : decode cX0_wantedBy 13 = .ok (.iload_n 2, 1) := by decide +kernel
theorem dX0_wantedBy_14 : decode cX0_wantedBy 14 = .ok (.irem, 1) := by decide +kernel
theorem dX0_wantedBy_15 : decode cX0_wantedBy 15 = .ok (.istore_n 3, 1) := by decide +kernel
theorem dX0_wantedBy_16 : decode cX0_wantedBy 16 = .ok (.iconst 0, 1) := by decide +kernel
theorem dX0_wantedBy_17 : decode cX0_wantedBy 17 = .ok (.istore 4, 2) := by decide +kernel
theorem dX0_wantedBy_19 : decode cX0_wantedBy 19 = .ok (.iload 4, 2) := by decide +kernel
theorem dX0_wantedBy_21 : decode cX0_wantedBy 21 = .ok (.aload_n 0, 1) := by decide +kernel
theorem dX0_wantedBy_22 : decode cX0_wantedBy 22 = .ok (.getfield 17, 3) := by decide +kernel
theorem dX0_wantedBy_25 : decode cX0_wantedBy 25 = .ok (.arraylength, 1) := by decide +kernel
theorem dX0_wantedBy_26 : decode cX0_wantedBy 26 = .ok (.if_icmp .ge 33, 3) := by decide +kernel
theorem dX0_wantedBy_29 : decode cX0_wantedBy 29 = .ok (.aload_n 0, 1) := by decide +kernel
theorem dX0_wantedBy_30 : decode cX0_wantedBy 30 = .ok (.getfield 17, 3) := by decide +kernel
theorem dX0_wantedBy_33 : decode cX0_wantedBy 33 = .ok (.iload 4, 2) := by decide +kernel
theorem dX0_wantedBy_35 : decode cX0_wantedBy 35 = .ok (.aaload, 1) := by decide +kernel
theorem dX0_wantedBy_36 : decode cX0_wantedBy 36 = .ok (.getfield 43, 3) := by decide +kernel
theorem dX0_wantedBy_39 : decode cX0_wantedBy 39 = .ok (.iconst 5, 1) := by decide +kernel
theorem dX0_wantedBy_40 : decode cX0_wantedBy 40 = .ok (.if_icmp .ne 13, 3) := by decide +kernel
theorem dX0_wantedBy_43 : decode cX0_wantedBy 43 = .ok (.iload_n 3, 1) := by decide +kernel
theorem dX0_wantedBy_44 : decode cX0_wantedBy 44 = .ok (.ifCond .ne 6, 3) := by decide +kernel
theorem dX0_wantedBy_47 : decode cX0_wantedBy 47 = .ok (.iload 4, 2) := by decide +kernel
theorem dX0_wantedBy_49 : decode cX0_wantedBy 49 = .ok (.ireturn, 1) := by decide +kernel
theorem dX0_wantedBy_50 : decode cX0_wantedBy 50 = .ok (.iinc 3 (-1), 3) := by decide +kernel
theorem dX0_wantedBy_53 : decode cX0_wantedBy 53 = .ok (.iinc 4 1, 3) := by decide +kernel
theorem dX0_wantedBy_56 : decode cX0_wantedBy 56 = .ok (.goto (-37), 3) := by decide +kernel
theorem dX0_wantedBy_59 : decode cX0_wantedBy 59 = .ok (.bipush (-4), 2) := by decide +kernel
theorem dX0_wantedBy_61 : decode cX0_wantedBy 61 = .ok (.ireturn, 1) := by decide +kernel
theorem dX0_howManySending_0 : decode cX0_howManySending 0 = .ok (.iconst 0, 1) := by decide +kernel
theorem dX0_howManySending_1 : decode cX0_howManySending 1 = .ok (.istore_n 1, 1) := by decide +kernel
theorem dX0_howManySending_2 : decode cX0_howManySending 2 = .ok (.aload_n 0, 1) := by decide +kernel
theorem dX0_howManySending_3 : decode cX0_howManySending 3 = .ok (.getfield 17, 3) := by decide +kernel
theorem dX0_howManySending_6 : decode cX0_howManySending 6 = .ok (.astore_n 2, 1) := by decide +kernel
theorem dX0_howManySending_7 : decode cX0_howManySending 7 = .ok (.aload_n 2, 1) := by decide +kernel
theorem dX0_howManySending_8 : decode cX0_howManySending 8 = .ok (.arraylength, 1) := by decide +kernel
theorem dX0_howManySending_9 : decode cX0_howManySending 9 = .ok (.istore_n 3, 1) := by decide +kernel
theorem dX0_howManySending_10 : decode cX0_howManySending 10 = .ok (.iconst 0, 1) := by decide +kernel
theorem dX0_howManySending_11 : decode cX0_howManySending 11 = .ok (.istore 4, 2) := by decide +kernel
theorem dX0_howManySending_13 : decode cX0_howManySending 13 = .ok (.iload 4, 2) := by decide +kernel
theorem dX0_howManySending_15 : decode cX0_howManySending 15 = .ok (.iload_n 3, 1) := by decide +kernel
theorem dX0_howManySending_16 : decode cX0_howManySending 16 = .ok (.if_icmp .ge 32, 3) := by decide +kernel
theorem dX0_howManySending_19 : decode cX0_howManySending 19 = .ok (.aload_n 2, 1) := by decide +kernel
theorem dX0_howManySending_20 : decode cX0_howManySending 20 = .ok (.iload 4, 2) := by decide +kernel
theorem dX0_howManySending_22 : decode cX0_howManySending 22 = .ok (.aaload, 1) := by decide +kernel
theorem dX0_howManySending_23 : decode cX0_howManySending 23 = .ok (.astore 5, 2) := by decide +kernel
theorem dX0_howManySending_25 : decode cX0_howManySending 25 = .ok (.iload_n 1, 1) := by decide +kernel
theorem dX0_howManySending_26 : decode cX0_howManySending 26 = .ok (.aload 5, 2) := by decide +kernel
theorem dX0_howManySending_28 : decode cX0_howManySending 28 = .ok (.getfield 43, 3) := by decide +kernel
theorem dX0_howManySending_31 : decode cX0_howManySending 31 = .ok (.iconst 5, 1) := by decide +kernel
theorem dX0_howManySending_32 : decode cX0_howManySending 32 = .ok (.if_icmp .ne 7, 3) := by decide +kernel
theorem dX0_howManySending_35 : decode cX0_howManySending 35 = .ok (.iconst 1, 1) := by decide +kernel
theorem dX0_howManySending_36 : decode cX0_howManySending 36 = .ok (.goto 4, 3) := by decide +kernel
theorem dX0_howManySending_39 : decode cX0_howManySending 39 = .ok (.iconst 0, 1) := by decide +kernel
theorem dX0_howManySending_40 : decode cX0_howManySending 40 = .ok (.iadd, 1) := by decide +kernel
theorem dX0_howManySending_41 : decode cX0_howManySending 41 = .ok (.istore_n 1, 1) := by decide +kernel
theorem dX0_howManySending_42 : decode cX0_howManySending 42 = .ok (.iinc 4 1, 3) := by decide +kernel
theorem dX0_howManySending_45 : decode cX0_howManySending 45 = .ok (.goto (-32), 3) := by decide +kernel
theorem dX0_howManySending_48 : decode cX0_howManySending 48 = .ok (.iload_n 1, 1) := by decide +kernel
theorem dX0_howManySending_49 : decode cX0_howManySending 49 = .ok (.ireturn, 1) := by decide +kernel
theorem dX0_howManyUp_0 : decode cX0_howManyUp 0 = .ok (.iconst 0, 1) := by decide +kernel
theorem dX0_howManyUp_1 : decode cX0_howManyUp 1 = .ok (.istore_n 1, 1) := by decide +kernel
theorem dX0_howManyUp_2 : decode cX0_howManyUp 2 = .ok (.aload_n 0, 1) := by decide +kernel
theorem dX0_howManyUp_3 : decode cX0_howManyUp 3 = .ok (.getfield 17, 3) := by decide +kernel
theorem dX0_howManyUp_6 : decode cX0_howManyUp 6 = .ok (.astore_n 2, 1) := by decide +kernel
theorem dX0_howManyUp_7 : decode cX0_howManyUp 7 = .ok (.aload_n 2, 1) := by decide +kernel
theorem dX0_howManyUp_8 : decode cX0_howManyUp 8 = .ok (.arraylength, 1) := by decide +kernel
theorem dX0_howManyUp_9 : decode cX0_howManyUp 9 = .ok (.istore_n 3, 1) := by decide +kernel
theorem dX0_howManyUp_10 : decode cX0_howManyUp 10 = .ok (.iconst 0, 1) := by decide +kernel
theorem dX0_howManyUp_11 : decode cX0_howManyUp 11 = .ok (.istore 4, 2) := by decide +kernel
theorem dX0_howManyUp_13 : decode cX0_howManyUp 13 = .ok (.iload 4, 2) := by decide +kernel
theorem dX0_howManyUp_15 : decode cX0_howManyUp 15 = .ok (.iload_n 3, 1) := by decide +kernel
theorem dX0_howManyUp_16 : decode cX0_howManyUp 16 = .ok (.if_icmp .ge 31, 3) := by decide +kernel
theorem dX0_howManyUp_19 : decode cX0_howManyUp 19 = .ok (.aload_n 2, 1) := by decide +kernel
theorem dX0_howManyUp_20 : decode cX0_howManyUp 20 = .ok (.iload 4, 2) := by decide +kernel
theorem dX0_howManyUp_22 : decode cX0_howManyUp 22 = .ok (.aaload, 1) := by decide +kernel
theorem dX0_howManyUp_23 : decode cX0_howManyUp 23 = .ok (.astore 5, 2) := by decide +kernel
theorem dX0_howManyUp_25 : decode cX0_howManyUp 25 = .ok (.iload_n 1, 1) := by decide +kernel
theorem dX0_howManyUp_26 : decode cX0_howManyUp 26 = .ok (.aload 5, 2) := by decide +kernel
theorem dX0_howManyUp_28 : decode cX0_howManyUp 28 = .ok (.getfield 105, 3) := by decide +kernel
theorem dX0_howManyUp_31 : decode cX0_howManyUp 31 = .ok (.ifCond .eq 7, 3) := by decide +kernel
theorem dX0_howManyUp_34 : decode cX0_howManyUp 34 = .ok (.iconst 1, 1) := by decide +kernel
theorem dX0_howManyUp_35 : decode cX0_howManyUp 35 = .ok (.goto 4, 3) := by decide +kernel
theorem dX0_howManyUp_38 : decode cX0_howManyUp 38 = .ok (.iconst 0, 1) := by decide +kernel
theorem dX0_howManyUp_39 : decode cX0_howManyUp 39 = .ok (.iadd, 1) := by decide +kernel
theorem dX0_howManyUp_40 : decode cX0_howManyUp 40 = .ok (.istore_n 1, 1) := by decide +kernel
theorem dX0_howManyUp_41 : decode cX0_howManyUp 41 = .ok (.iinc 4 1, 3) := by decide +kernel
theorem dX0_howManyUp_44 : decode cX0_howManyUp 44 = .ok (.goto (-31), 3) := by decide +kernel
theorem dX0_howManyUp_47 : decode cX0_howManyUp 47 = .ok (.iload_n 1, 1) := by decide +kernel
theorem dX0_howManyUp_48 : decode cX0_howManyUp 48 = .ok (.ireturn, 1) := by decide +kernel
theorem dX0_howManyMuted_0 : decode cX0_howManyMuted 0 = .ok (.iconst 0, 1) := by decide +kernel
theorem dX0_howManyMuted_1 : decode cX0_howManyMuted 1 = .ok (.istore_n 1, 1) := by decide +kernel
theorem dX0_howManyMuted_2 : decode cX0_howManyMuted 2 = .ok (.aload_n 0, 1) := by decide +kernel
theorem dX0_howManyMuted_3 : decode cX0_howManyMuted 3 = .ok (.getfield 17, 3) := by decide +kernel
theorem dX0_howManyMuted_6 : decode cX0_howManyMuted 6 = .ok (.astore_n 2, 1) := by decide +kernel
theorem dX0_howManyMuted_7 : decode cX0_howManyMuted 7 = .ok (.aload_n 2, 1) := by decide +kernel
theorem dX0_howManyMuted_8 : decode cX0_howManyMuted 8 = .ok (.arraylength, 1) := by decide +kernel
theorem dX0_howManyMuted_9 : decode cX0_howManyMuted 9 = .ok (.istore_n 3, 1) := by decide +kernel
theorem dX0_howManyMuted_10 : decode cX0_howManyMuted 10 = .ok (.iconst 0, 1) := by decide +kernel
theorem dX0_howManyMuted_11 : decode cX0_howManyMuted 11 = .ok (.istore 4, 2) := by decide +kernel
theorem dX0_howManyMuted_13 : decode cX0_howManyMuted 13 = .ok (.iload 4, 2) := by decide +kernel
theorem dX0_howManyMuted_15 : decode cX0_howManyMuted 15 = .ok (.iload_n 3, 1) := by decide +kernel
theorem dX0_howManyMuted_16 : decode cX0_howManyMuted 16 = .ok (.if_icmp .ge 31, 3) := by decide +kernel
theorem dX0_howManyMuted_19 : decode cX0_howManyMuted 19 = .ok (.aload_n 2, 1) := by decide +kernel
theorem dX0_howManyMuted_20 : decode cX0_howManyMuted 20 = .ok (.iload 4, 2) := by decide +kernel
theorem dX0_howManyMuted_22 : decode cX0_howManyMuted 22 = .ok (.aaload, 1) := by decide +kernel
theorem dX0_howManyMuted_23 : decode cX0_howManyMuted 23 = .ok (.astore 5, 2) := by decide +kernel
theorem dX0_howManyMuted_25 : decode cX0_howManyMuted 25 = .ok (.iload_n 1, 1) := by decide +kernel
theorem dX0_howManyMuted_26 : decode cX0_howManyMuted 26 = .ok (.aload 5, 2) := by decide +kernel
theorem dX0_howManyMuted_28 : decode cX0_howManyMuted 28 = .ok (.getfield 108, 3) := by decide +kernel
theorem dX0_howManyMuted_31 : decode cX0_howManyMuted 31 = .ok (.ifCond .eq 7, 3) := by decide +kernel
theorem dX0_howManyMuted_34 : decode cX0_howManyMuted 34 = .ok (.iconst 1, 1) := by decide +kernel
theorem dX0_howManyMuted_35 : decode cX0_howManyMuted 35 = .ok (.goto 4, 3) := by decide +kernel
theorem dX0_howManyMuted_38 : decode cX0_howManyMuted 38 = .ok (.iconst 0, 1) := by decide +kernel
theorem dX0_howManyMuted_39 : decode cX0_howManyMuted 39 = .ok (.iadd, 1) := by decide +kernel
theorem dX0_howManyMuted_40 : decode cX0_howManyMuted 40 = .ok (.istore_n 1, 1) := by decide +kernel
theorem dX0_howManyMuted_41 : decode cX0_howManyMuted 41 = .ok (.iinc 4 1, 3) := by decide +kernel
theorem dX0_howManyMuted_44 : decode cX0_howManyMuted 44 = .ok (.goto (-31), 3) := by decide +kernel
theorem dX0_howManyMuted_47 : decode cX0_howManyMuted 47 = .ok (.iload_n 1, 1) := by decide +kernel
theorem dX0_howManyMuted_48 : decode cX0_howManyMuted 48 = .ok (.ireturn, 1) := by decide +kernel
set_option maxRecDepth 20000 in
theorem ggX0_bits_X5_isOf : GoodIn wsX0_bits wsX5_isOf := goodIn_r _ [6, 7, 8, 9, 10, 15, 16, 17, 18, 19, 20, 21, 22, 23, 24, 25, 26, 27, 28, 29, 30] (by decide +kernel) (by decide +kernel)
set_option maxRecDepth 20000 in
theorem gX0_bits_X5_isOf : GoodIn wsX0_bits (wsV RX0 111 RX5 yX5_isOf wsX5_isOf) := goodIn_app (goodIn_of _ (by decide +kernel)) ggX0_bits_X5_isOf
theorem dX0_bits_0 : decode cX0_bits 0 = .ok (.iconst 0, 1) := by decide +kernel
theorem dX0_bits_1 : decode cX0_bits 1 = .ok (.istore_n 2, 1) := by decide +kernel
theorem dX0_bits_2 : decode cX0_bits 2 = .ok (.iconst 0, 1) := by decide +kernel
theorem dX0_bits_3 : decode cX0_bits 3 = .ok (.istore_n 3, 1) := by decide +kernel
theorem dX0_bits_4 : decode cX0_bits 4 = .ok (.iload_n 3, 1) := by decide +kernel
theorem dX0_bits_5 : decode cX0_bits 5 = .ok (.aload_n 0, 1) := by decide +kernel
theorem dX0_bits_6 : decode cX0_bits 6 = .ok (.getfield 17, 3) := by decide +kernel
theorem dX0_bits_9 : decode cX0_bits 9 = .ok (.arraylength, 1) := by decide +kernel
theorem dX0_bits_10 : decode cX0_bits 10 = .ok (.if_icmp .ge 28, 3) := by decide +kernel
theorem dX0_bits_13 : decode cX0_bits 13 = .ok (.aload_n 0, 1) := by decide +kernel
theorem dX0_bits_14 : decode cX0_bits 14 = .ok (.getfield 17, 3) := by decide +kernel
theorem dX0_bits_17 : decode cX0_bits 17 = .ok (.iload_n 3, 1) := by decide +kernel
theorem dX0_bits_18 : decode cX0_bits 18 = .ok (.aaload, 1) := by decide +kernel
theorem dX0_bits_19 : decode cX0_bits 19 = .ok (.iload_n 1, 1) := by decide +kernel
theorem dX0_bits_20 : decode cX0_bits 20 = .ok (.invokevirtual 111, 3) := by decide +kernel
theorem dX0_bits_23 : decode cX0_bits 23 = .ok (.ifCond .eq 9, 3) := by decide +kernel
theorem dX0_bits_26 : decode cX0_bits 26 = .ok (.iload_n 2, 1) := by decide +kernel
theorem dX0_bits_27 : decode cX0_bits 27 = .ok (.iconst 1, 1) := by decide +kernel
theorem dX0_bits_28 : decode cX0_bits 28 = .ok (.iload_n 3, 1) := by decide +kernel
theorem dX0_bits_29 : decode cX0_bits 29 = .ok (.ishl, 1) := by decide +kernel
theorem dX0_bits_30 : decode cX0_bits 30 = .ok (.ior, 1) := by decide +kernel
theorem dX0_bits_31 : decode cX0_bits 31 = .ok (.istore_n 2, 1) := by decide +kernel
theorem dX0_bits_32 : decode cX0_bits 32 = .ok (.iinc 3 1, 3) := by decide +kernel
theorem dX0_bits_35 : decode cX0_bits 35 = .ok (.goto (-31), 3) := by decide +kernel
theorem dX0_bits_38 : decode cX0_bits 38 = .ok (.iload_n 2, 1) := by decide +kernel
theorem dX0_bits_39 : decode cX0_bits 39 = .ok (.ireturn, 1) := by decide +kernel
theorem dX1_init_0 : decode cX1_init 0 = .ok (.aload_n 0, 1) := by decide +kernel
theorem dX1_init_1 : decode cX1_init 1 = .ok (.invokespecial 3, 3) := by decide +kernel
theorem dX1_init_4 : decode cX1_init 4 = .ok (.return_, 1) := by decide +kernel
theorem dX1_clear_0 : decode cX1_clear 0 = .ok (.aload_n 0, 1) := by decide +kernel
theorem dX1_clear_1 : decode cX1_clear 1 = .ok (.bipush (-4), 2) := by decide +kernel
theorem dX1_clear_3 : decode cX1_clear 3 = .ok (.putfield 9, 3) := by decide +kernel
theorem dX1_clear_6 : decode cX1_clear 6 = .ok (.aload_n 0, 1) := by decide +kernel
theorem dX1_clear_7 : decode cX1_clear 7 = .ok (.iconst 0, 1) := by decide +kernel
theorem dX1_clear_8 : decode cX1_clear 8 = .ok (.putfield 15, 3) := by decide +kernel
theorem dX1_clear_11 : decode cX1_clear 11 = .ok (.return_, 1) := by decide +kernel
theorem dX1_copyFrom_0 : decode cX1_copyFrom 0 = .ok (.aload_n 0, 1) := by decide +kernel
theorem dX1_copyFrom_1 : decode cX1_copyFrom 1 = .ok (.aload_n 1, 1) := by decide +kernel
theorem dX1_copyFrom_2 : decode cX1_copyFrom 2 = .ok (.getfield 9, 3) := by decide +kernel
theorem dX1_copyFrom_5 : decode cX1_copyFrom 5 = .ok (.putfield 9, 3) := by decide +kernel
theorem dX1_copyFrom_8 : decode cX1_copyFrom 8 = .ok (.aload_n 0, 1) := by decide +kernel
theorem dX1_copyFrom_9 : decode cX1_copyFrom 9 = .ok (.aload_n 1, 1) := by decide +kernel
theorem dX1_copyFrom_10 : decode cX1_copyFrom 10 = .ok (.getfield 15, 3) := by decide +kernel
theorem dX1_copyFrom_13 : decode cX1_copyFrom 13 = .ok (.putfield 15, 3) := by decide +kernel
theorem dX1_copyFrom_16 : decode cX1_copyFrom 16 = .ok (.return_, 1) := by decide +kernel
theorem dX1_deal_0 : decode cX1_deal 0 = .ok (.aload_n 0, 1) := by decide +kernel
theorem dX1_deal_1 : decode cX1_deal 1 = .ok (.getfield 15, 3) := by decide +kernel
theorem dX1_deal_4 : decode cX1_deal 4 = .ok (.ifCond .le 28, 3) := by decide +kernel
theorem dX1_deal_7 : decode cX1_deal 7 = .ok (.aload_n 0, 1) := by decide +kernel
theorem dX1_deal_8 : decode cX1_deal 8 = .ok (.dup, 1) := by decide +kernel
theorem dX1_deal_9 : decode cX1_deal 9 = .ok (.getfield 15, 3) := by decide +kernel
theorem dX1_deal_12 : decode cX1_deal 12 = .ok (.iconst 1, 1) := by decide +kernel
theorem dX1_deal_13 : decode cX1_deal 13 = .ok (.isub, 1) := by decide +kernel
theorem dX1_deal_14 : decode cX1_deal 14 = .ok (.putfield 15, 3) := by decide +kernel
theorem dX1_deal_17 : decode cX1_deal 17 = .ok (.aload_n 0, 1) := by decide +kernel
theorem dX1_deal_18 : decode cX1_deal 18 = .ok (.getfield 15, 3) := by decide +kernel
theorem dX1_deal_21 : decode cX1_deal 21 = .ok (.ifCond .ne 51, 3) := by decide +kernel
theorem dX1_deal_24 : decode cX1_deal 24 = .ok (.aload_n 0, 1) := by decide +kernel
theorem dX1_deal_25 : decode cX1_deal 25 = .ok (.iload_n 1, 1) := by decide +kernel
theorem dX1_deal_26 : decode cX1_deal 26 = .ok (.putfield 9, 3) := by decide +kernel
theorem dX1_deal_29 : decode cX1_deal 29 = .ok (.goto 43, 3) := by decide +kernel
theorem dX1_deal_32 : decode cX1_deal 32 = .ok (.iload_n 1, 1) := by decide +kernel
theorem dX1_deal_33 : decode cX1_deal 33 = .ok (.aload_n 0, 1) := by decide +kernel
theorem dX1_deal_34 : decode cX1_deal 34 = .ok (.getfield 9, 3) := by decide +kernel
theorem dX1_deal_37 : decode cX1_deal 37 = .ok (.if_icmp .eq 35, 3) := by decide +kernel
theorem dX1_deal_40 : decode cX1_deal 40 = .ok (.aload_n 0, 1) := by decide +kernel
theorem dX1_deal_41 : decode cX1_deal 41 = .ok (.getfield 9, 3) := by decide +kernel
theorem dX1_deal_44 : decode cX1_deal 44 = .ok (.bipush (-4), 2) := by decide +kernel
theorem dX1_deal_46 : decode cX1_deal 46 = .ok (.if_icmp .eq 13, 3) := by decide +kernel
theorem dX1_deal_49 : decode cX1_deal 49 = .ok (.iload_n 1, 1) := by decide +kernel
theorem dX1_deal_50 : decode cX1_deal 50 = .ok (.bipush (-4), 2) := by decide +kernel
theorem dX1_deal_52 : decode cX1_deal 52 = .ok (.if_icmp .eq 7, 3) := by decide +kernel
theorem dX1_deal_55 : decode cX1_deal 55 = .ok (.iload_n 2, 1) := by decide +kernel
theorem dX1_deal_56 : decode cX1_deal 56 = .ok (.ifCond .ne 11, 3) := by decide +kernel
theorem dX1_deal_59 : decode cX1_deal 59 = .ok (.aload_n 0, 1) := by decide +kernel
theorem dX1_deal_60 : decode cX1_deal 60 = .ok (.iload_n 1, 1) := by decide +kernel
theorem dX1_deal_61 : decode cX1_deal 61 = .ok (.putfield 9, 3) := by decide +kernel
theorem dX1_deal_64 : decode cX1_deal 64 = .ok (.goto 8, 3) := by decide +kernel
theorem dX1_deal_67 : decode cX1_deal 67 = .ok (.aload_n 0, 1) := by decide +kernel
theorem dX1_deal_68 : decode cX1_deal 68 = .ok (.iload_n 2, 1) := by decide +kernel
theorem dX1_deal_69 : decode cX1_deal 69 = .ok (.putfield 15, 3) := by decide +kernel
theorem dX1_deal_72 : decode cX1_deal 72 = .ok (.return_, 1) := by decide +kernel
set_option maxRecDepth 20000 in
theorem ggX2_init_X4_init : GoodIn wsX2_init wsX4_init := goodIn_r _ [9, 10, 2, 3, 11, 12, 13, 14, 15, 16, 17, 18, 19, 20, 21, 22, 23, 24, 25, 26, 27, 28, 29, 30, 31, 32, 33, 34, 35, 36, 37, 38, 39, 40, 41, 42, 53, 54, 55, 56, 46, 47, 48, 49, 50, 51, 52, 57, 58, 59, 60, 61, 62, 63, 64, 65, 66, 67, 68, 69, 70, 71, 72, 73, 74] (by decide +kernel) (by decide +kernel)
set_option maxRecDepth 20000 in
theorem gX2_init_X4_init_n17 : GoodIn wsX2_init (wsX4_init) := ggX2_init_X4_init
theorem dX2_init_0 : decode cX2_init 0 = .ok (.aload_n 0, 1) := by decide +kernel
theorem dX2_init_1 : decode cX2_init 1 = .ok (.invokespecial 3, 3) := by decide +kernel
theorem dX2_init_4 : decode cX2_init 4 = .ok (.aload_n 0, 1) := by decide +kernel
theorem dX2_init_5 : decode cX2_init 5 = .ok (.bipush 6, 2) := by decide +kernel
theorem dX2_init_7 : decode cX2_init 7 = .ok (.anewarray 9, 3) := by decide +kernel
theorem dX2_init_10 : decode cX2_init 10 = .ok (.putfield 11, 3) := by decide +kernel
theorem dX2_init_13 : decode cX2_init 13 = .ok (.iconst 0, 1) := by decide +kernel
theorem dX2_init_14 : decode cX2_init 14 = .ok (.istore_n 1, 1) := by decide +kernel
theorem dX2_init_15 : decode cX2_init 15 = .ok (.iload_n 1, 1) := by decide +kernel
theorem dX2_init_16 : decode cX2_init 16 = .ok (.aload_n 0, 1) := by decide +kernel
theorem dX2_init_17 : decode cX2_init 17 = .ok (.getfield 11, 3) := by decide +kernel
theorem dX2_init_20 : decode cX2_init 20 = .ok (.arraylength, 1) := by decide +kernel
theorem dX2_init_21 : decode cX2_init 21 = .ok (.if_icmp .ge 22, 3) := by decide +kernel
theorem dX2_init_24 : decode cX2_init 24 = .ok (.aload_n 0, 1) := by decide +kernel
theorem dX2_init_25 : decode cX2_init 25 = .ok (.getfield 11, 3) := by decide +kernel
theorem dX2_init_28 : decode cX2_init 28 = .ok (.iload_n 1, 1) := by decide +kernel
theorem dX2_init_29 : decode cX2_init 29 = .ok (.new 9, 3) := by decide +kernel
theorem dX2_init_32 : decode cX2_init 32 = .ok (.dup, 1) := by decide +kernel
theorem dX2_init_33 : decode cX2_init 33 = .ok (.invokespecial 17, 3) := by decide +kernel
theorem dX2_init_36 : decode cX2_init 36 = .ok (.aastore, 1) := by decide +kernel
theorem dX2_init_37 : decode cX2_init 37 = .ok (.iinc 1 1, 3) := by decide +kernel
theorem dX2_init_40 : decode cX2_init 40 = .ok (.goto (-25), 3) := by decide +kernel
theorem dX2_init_43 : decode cX2_init 43 = .ok (.return_, 1) := by decide +kernel
theorem dX2_clear_0 : decode cX2_clear 0 = .ok (.aload_n 0, 1) := by decide +kernel
theorem dX2_clear_1 : decode cX2_clear 1 = .ok (.iconst 0, 1) := by decide +kernel
theorem dX2_clear_2 : decode cX2_clear 2 = .ok (.putfield 18, 3) := by decide +kernel
theorem dX2_clear_5 : decode cX2_clear 5 = .ok (.aload_n 0, 1) := by decide +kernel
theorem dX2_clear_6 : decode cX2_clear 6 = .ok (.iconst 0, 1) := by decide +kernel
theorem dX2_clear_7 : decode cX2_clear 7 = .ok (.putfield 22, 3) := by decide +kernel
theorem dX2_clear_10 : decode cX2_clear 10 = .ok (.return_, 1) := by decide +kernel
set_option maxRecDepth 20000 in
theorem ggX2_keep_X4_copyFrom : GoodIn wsX2_keep wsX4_copyFrom := goodIn_r _ [12, 13, 14, 15, 16, 17, 18, 19, 20, 21, 22, 23, 24, 25, 26, 27, 28, 29, 30, 31, 32, 33, 34, 35, 36, 37, 38, 39, 40, 41, 42, 43, 44, 45, 46, 47, 48, 49, 50, 51, 52, 53, 54, 55, 56, 57, 58, 59, 60, 64, 65, 66, 67, 68, 69, 70, 71, 72, 73, 74, 75, 76, 77, 78, 79, 80, 81, 82, 83, 84, 85, 86, 87, 88, 89, 90, 91, 92] (by decide +kernel) (by decide +kernel)
set_option maxRecDepth 20000 in
theorem gX2_keep_X4_copyFrom : GoodIn wsX2_keep (wsV RX2 25 RX4 yX4_copyFrom wsX4_copyFrom) := goodIn_app (goodIn_of _ (by decide +kernel)) ggX2_keep_X4_copyFrom
theorem dX2_keep_0 : decode cX2_keep 0 = .ok (.aload_n 0, 1) := by decide +kernel
theorem dX2_keep_1 : decode cX2_keep 1 = .ok (.getfield 18, 3) := by decide +kernel
theorem dX2_keep_4 : decode cX2_keep 4 = .ok (.ifCond .lt 15, 3) := by decide +kernel
theorem dX2_keep_7 : decode cX2_keep 7 = .ok (.aload_n 0, 1) := by decide +kernel
theorem dX2_keep_8 : decode cX2_keep 8 = .ok (.getfield 18, 3) := by decide +kernel
theorem dX2_keep_11 : decode cX2_keep 11 = .ok (.aload_n 0, 1) := by decide +kernel
theorem dX2_keep_12 : decode cX2_keep 12 = .ok (.getfield 11, 3) := by decide +kernel
theorem dX2_keep_15 : decode cX2_keep 15 = .ok (.arraylength, 1) := by decide +kernel
theorem dX2_keep_16 : decode cX2_keep 16 = .ok (.if_icmp .lt 4, 3) := by decide +kernel
theorem dX2_keep_19 : decode cX2_keep 19 = .ok (.return_, 1) := by decide +kernel
theorem dX2_keep_20 : decode cX2_keep 20 = .ok (.aload_n 0, 1) := by decide +kernel
theorem dX2_keep_21 : decode cX2_keep 21 = .ok (.getfield 11, 3) := by decide +kernel
theorem dX2_keep_24 : decode cX2_keep 24 = .ok (.aload_n 0, 1) := by decide +kernel
theorem dX2_keep_25 : decode cX2_keep 25 = .ok (.getfield 18, 3) := by decide +kernel
theorem dX2_keep_28 : decode cX2_keep 28 = .ok (.aaload, 1) := by decide +kernel
theorem dX2_keep_29 : decode cX2_keep 29 = .ok (.aload_n 1, 1) := by decide +kernel
theorem dX2_keep_30 : decode cX2_keep 30 = .ok (.invokevirtual 25, 3) := by decide +kernel
theorem dX2_keep_33 : decode cX2_keep 33 = .ok (.aload_n 0, 1) := by decide +kernel
theorem dX2_keep_34 : decode cX2_keep 34 = .ok (.aload_n 0, 1) := by decide +kernel
theorem dX2_keep_35 : decode cX2_keep 35 = .ok (.getfield 18, 3) := by decide +kernel
theorem dX2_keep_38 : decode cX2_keep 38 = .ok (.iconst 1, 1) := by decide +kernel
theorem dX2_keep_39 : decode cX2_keep 39 = .ok (.iadd, 1) := by decide +kernel
theorem dX2_keep_40 : decode cX2_keep 40 = .ok (.aload_n 0, 1) := by decide +kernel
theorem dX2_keep_41 : decode cX2_keep 41 = .ok (.getfield 11, 3) := by decide +kernel
theorem dX2_keep_44 : decode cX2_keep 44 = .ok (.arraylength, 1) := by decide +kernel
theorem dX2_keep_45 : decode cX2_keep 45 = .ok (.if_icmp .ge 12, 3) := by decide +kernel
theorem dX2_keep_48 : decode cX2_keep 48 = .ok (.aload_n 0, 1) := by decide +kernel
theorem dX2_keep_49 : decode cX2_keep 49 = .ok (.getfield 18, 3) := by decide +kernel
theorem dX2_keep_52 : decode cX2_keep 52 = .ok (.iconst 1, 1) := by decide +kernel
theorem dX2_keep_53 : decode cX2_keep 53 = .ok (.iadd, 1) := by decide +kernel
theorem dX2_keep_54 : decode cX2_keep 54 = .ok (.goto 4, 3) := by decide +kernel
theorem dX2_keep_57 : decode cX2_keep 57 = .ok (.iconst 0, 1) := by decide +kernel
theorem dX2_keep_58 : decode cX2_keep 58 = .ok (.putfield 18, 3) := by decide +kernel
theorem dX2_keep_61 : decode cX2_keep 61 = .ok (.aload_n 0, 1) := by decide +kernel
theorem dX2_keep_62 : decode cX2_keep 62 = .ok (.aload_n 0, 1) := by decide +kernel
theorem dX2_keep_63 : decode cX2_keep 63 = .ok (.getfield 22, 3) := by decide +kernel
theorem dX2_keep_66 : decode cX2_keep 66 = .ok (.iconst 1, 1) := by decide +kernel
theorem dX2_keep_67 : decode cX2_keep 67 = .ok (.iadd, 1) := by decide +kernel
theorem dX2_keep_68 : decode cX2_keep 68 = .ok (.aload_n 0, 1) := by decide +kernel
theorem dX2_keep_69 : decode cX2_keep 69 = .ok (.getfield 11, 3) := by decide +kernel
theorem dX2_keep_72 : decode cX2_keep 72 = .ok (.arraylength, 1) := by decide +kernel
theorem dX2_keep_73 : decode cX2_keep 73 = .ok (.invokestatic 29, 3) := by decide +kernel
theorem dX2_keep_76 : decode cX2_keep 76 = .ok (.putfield 22, 3) := by decide +kernel
theorem dX2_keep_79 : decode cX2_keep 79 = .ok (.return_, 1) := by decide +kernel
theorem dX2_takeLatest_0 : decode cX2_takeLatest 0 = .ok (.aload_n 0, 1) := by decide +kernel
theorem dX2_takeLatest_1 : decode cX2_takeLatest 1 = .ok (.getfield 18, 3) := by decide +kernel
theorem dX2_takeLatest_4 : decode cX2_takeLatest 4 = .ok (.ifCond .le 12, 3) := by decide +kernel
theorem dX2_takeLatest_7 : decode cX2_takeLatest 7 = .ok (.aload_n 0, 1) := by decide +kernel
theorem dX2_takeLatest_8 : decode cX2_takeLatest 8 = .ok (.getfield 18, 3) := by decide +kernel
theorem dX2_takeLatest_11 : decode cX2_takeLatest 11 = .ok (.iconst 1, 1) := by decide +kernel
theorem dX2_takeLatest_12 : decode cX2_takeLatest 12 = .ok (.isub, 1) := by decide +kernel
theorem dX2_takeLatest_13 : decode cX2_takeLatest 13 = .ok (.goto 10, 3) := by decide +kernel
theorem dX2_takeLatest_16 : decode cX2_takeLatest 16 = .ok (.aload_n 0, 1) := by decide +kernel
theorem dX2_takeLatest_17 : decode cX2_takeLatest 17 = .ok (.getfield 11, 3) := by decide +kernel
theorem dX2_takeLatest_20 : decode cX2_takeLatest 20 = .ok (.arraylength, 1) := by decide +kernel
theorem dX2_takeLatest_21 : decode cX2_takeLatest 21 = .ok (.iconst 1, 1) := by decide +kernel
theorem dX2_takeLatest_22 : decode cX2_takeLatest 22 = .ok (.isub, 1) := by decide +kernel
theorem dX2_takeLatest_23 : decode cX2_takeLatest 23 = .ok (.istore_n 1, 1) := by decide +kernel
theorem dX2_takeLatest_24 : decode cX2_takeLatest 24 = .ok (.aload_n 0, 1) := by decide +kernel
theorem dX2_takeLatest_25 : decode cX2_takeLatest 25 = .ok (.getfield 22, 3) := by decide +kernel
theorem dX2_takeLatest_28 : decode cX2_takeLatest 28 = .ok (.ifCond .eq 16, 3) := by decide +kernel
theorem dX2_takeLatest_31 : decode cX2_takeLatest 31 = .ok (.iload_n 1, 1) := by decide +kernel
theorem dX2_takeLatest_32 : decode cX2_takeLatest 32 = .ok (.ifCond .lt 12, 3) := by decide +kernel
theorem dX2_takeLatest_35 : decode cX2_takeLatest 35 = .ok (.iload_n 1, 1) := by decide +kernel
theorem dX2_takeLatest_36 : decode cX2_takeLatest 36 = .ok (.aload_n 0, 1) := by decide +kernel
theorem dX2_takeLatest_37 : decode cX2_takeLatest 37 = .ok (.getfield 11, 3) := by decide +kernel
theorem dX2_takeLatest_40 : decode cX2_takeLatest 40 = .ok (.arraylength, 1) := by decide +kernel
theorem dX2_takeLatest_41 : decode cX2_takeLatest 41 = .ok (.if_icmp .lt 5, 3) := by decide +kernel
theorem dX2_takeLatest_44 : decode cX2_takeLatest 44 = .ok (.aconst_null, 1) := by decide +kernel
theorem dX2_takeLatest_45 : decode cX2_takeLatest 45 = .ok (.areturn, 1) := by decide +kernel
theorem dX2_takeLatest_46 : decode cX2_takeLatest 46 = .ok (.aload_n 0, 1) := by decide +kernel
theorem dX2_takeLatest_47 : decode cX2_takeLatest 47 = .ok (.iload_n 1, 1) := by decide +kernel
theorem dX2_takeLatest_48 : decode cX2_takeLatest 48 = .ok (.putfield 18, 3) := by decide +kernel
theorem dX2_takeLatest_51 : decode cX2_takeLatest 51 = .ok (.aload_n 0, 1) := by decide +kernel
theorem dX2_takeLatest_52 : decode cX2_takeLatest 52 = .ok (.dup, 1) := by decide +kernel
theorem dX2_takeLatest_53 : decode cX2_takeLatest 53 = .ok (.getfield 22, 3) := by decide +kernel
theorem dX2_takeLatest_56 : decode cX2_takeLatest 56 = .ok (.iconst 1, 1) := by decide +kernel
theorem dX2_takeLatest_57 : decode cX2_takeLatest 57 = .ok (.isub, 1) := by decide +kernel
theorem dX2_takeLatest_58 : decode cX2_takeLatest 58 = .ok (.putfield 22, 3) := by decide +kernel
theorem dX2_takeLatest_61 : decode cX2_takeLatest 61 = .ok (.aload_n 0, 1) := by decide +kernel
theorem dX2_takeLatest_62 : decode cX2_takeLatest 62 = .ok (.getfield 11, 3) := by decide +kernel
theorem dX2_takeLatest_65 : decode cX2_takeLatest 65 = .ok (.iload_n 1, 1) := by decide +kernel
theorem dX2_takeLatest_66 : decode cX2_takeLatest 66 = .ok (.aaload, 1) := by decide +kernel
theorem dX2_takeLatest_67 : decode cX2_takeLatest 67 = .ok (.areturn, 1) := by decide +kernel
theorem dX3_init_0 : decode cX3_init 0 = .ok (.aload_n 0, 1) := by decide +kernel
theorem dX3_init_1 : decode cX3_init 1 = .ok (.invokespecial 1, 3) := by decide +kernel
theorem dX3_init_4 : decode cX3_init 4 = .ok (.return_, 1) := by decide +kernel
theorem dX3_clear_0 : decode cX3_clear 0 = .ok (.aload_n 0, 1) := by decide +kernel
theorem dX3_clear_1 : decode cX3_clear 1 = .ok (.iconst 0, 1) := by decide +kernel
theorem dX3_clear_2 : decode cX3_clear 2 = .ok (.putfield 7, 3) := by decide +kernel
theorem dX3_clear_5 : decode cX3_clear 5 = .ok (.aload_n 0, 1) := by decide +kernel
theorem dX3_clear_6 : decode cX3_clear 6 = .ok (.iconst 0, 1) := by decide +kernel
theorem dX3_clear_7 : decode cX3_clear 7 = .ok (.putfield 13, 3) := by decide +kernel
theorem dX3_clear_10 : decode cX3_clear 10 = .ok (.aload_n 0, 1) := by decide +kernel
theorem dX3_clear_11 : decode cX3_clear 11 = .ok (.iconst 0, 1) := by decide +kernel
theorem dX3_clear_12 : decode cX3_clear 12 = .ok (.putfield 17, 3) := by decide +kernel
theorem dX3_clear_15 : decode cX3_clear 15 = .ok (.aload_n 0, 1) := by decide +kernel
theorem dX3_clear_16 : decode cX3_clear 16 = .ok (.iconst 0, 1) := by decide +kernel
theorem dX3_clear_17 : decode cX3_clear 17 = .ok (.putfield 20, 3) := by decide +kernel
theorem dX3_clear_20 : decode cX3_clear 20 = .ok (.aload_n 0, 1) := by decide +kernel
theorem dX3_clear_21 : decode cX3_clear 21 = .ok (.iconst 0, 1) := by decide +kernel
theorem dX3_clear_22 : decode cX3_clear 22 = .ok (.putfield 23, 3) := by decide +kernel
theorem dX3_clear_25 : decode cX3_clear 25 = .ok (.return_, 1) := by decide +kernel
theorem dX3_copyFrom_0 : decode cX3_copyFrom 0 = .ok (.aload_n 0, 1) := by decide +kernel
theorem dX3_copyFrom_1 : decode cX3_copyFrom 1 = .ok (.aload_n 1, 1) := by decide +kernel
theorem dX3_copyFrom_2 : decode cX3_copyFrom 2 = .ok (.getfield 7, 3) := by decide +kernel
theorem dX3_copyFrom_5 : decode cX3_copyFrom 5 = .ok (.putfield 7, 3) := by decide +kernel
theorem dX3_copyFrom_8 : decode cX3_copyFrom 8 = .ok (.aload_n 0, 1) := by decide +kernel
theorem dX3_copyFrom_9 : decode cX3_copyFrom 9 = .ok (.aload_n 1, 1) := by decide +kernel
theorem dX3_copyFrom_10 : decode cX3_copyFrom 10 = .ok (.getfield 13, 3) := by decide +kernel
theorem dX3_copyFrom_13 : decode cX3_copyFrom 13 = .ok (.putfield 13, 3) := by decide +kernel
theorem dX3_copyFrom_16 : decode cX3_copyFrom 16 = .ok (.aload_n 0, 1) := by decide +kernel
theorem dX3_copyFrom_17 : decode cX3_copyFrom 17 = .ok (.aload_n 1, 1) := by decide +kernel
theorem dX3_copyFrom_18 : decode cX3_copyFrom 18 = .ok (.getfield 17, 3) := by decide +kernel
theorem dX3_copyFrom_21 : decode cX3_copyFrom 21 = .ok (.putfield 17, 3) := by decide +kernel
theorem dX3_copyFrom_24 : decode cX3_copyFrom 24 = .ok (.aload_n 0, 1) := by decide +kernel
theorem dX3_copyFrom_25 : decode cX3_copyFrom 25 = .ok (.aload_n 1, 1) := by decide +kernel
theorem dX3_copyFrom_26 : decode cX3_copyFrom 26 = .ok (.getfield 20, 3) := by decide +kernel
theorem dX3_copyFrom_29 : decode cX3_copyFrom 29 = .ok (.putfield 20, 3) := by decide +kernel
theorem dX3_copyFrom_32 : decode cX3_copyFrom 32 = .ok (.aload_n 0, 1) := by decide +kernel
theorem dX3_copyFrom_33 : decode cX3_copyFrom 33 = .ok (.aload_n 1, 1) := by decide +kernel
theorem dX3_copyFrom_34 : decode cX3_copyFrom 34 = .ok (.getfield 23, 3) := by decide +kernel
theorem dX3_copyFrom_37 : decode cX3_copyFrom 37 = .ok (.putfield 23, 3) := by decide +kernel
theorem dX3_copyFrom_40 : decode cX3_copyFrom 40 = .ok (.return_, 1) := by decide +kernel
set_option maxRecDepth 20000 in
theorem ggX4_init_X0_init : GoodIn wsX4_init wsX0_init := goodIn_r _ [11, 12, 2, 3, 13, 14, 15, 16, 17, 18, 19, 20, 21, 22, 23, 24, 25, 26, 27, 28, 29, 30, 31, 32, 33, 34, 35, 36, 37, 38, 39, 47, 48, 49, 50, 51, 52, 53, 54, 55, 56, 57, 58, 59, 60, 61, 62, 63, 64] (by decide +kernel) (by decide +kernel)
set_option maxRecDepth 20000 in
theorem gX4_init_X0_init : GoodIn wsX4_init (wsX0_init) := ggX4_init_X0_init
theorem dX4_init_0 : decode cX4_init 0 = .ok (.aload_n 0, 1) := by decide +kernel
theorem dX4_init_1 : decode cX4_init 1 = .ok (.invokespecial 3, 3) := by decide +kernel
theorem dX4_init_4 : decode cX4_init 4 = .ok (.aload_n 0, 1) := by decide +kernel
theorem dX4_init_5 : decode cX4_init 5 = .ok (.new 9, 3) := by decide +kernel
theorem dX4_init_8 : decode cX4_init 8 = .ok (.dup, 1) := by decide +kernel
theorem dX4_init_9 : decode cX4_init 9 = .ok (.iconst 0, 1) := by decide +kernel
theorem dX4_init_10 : decode cX4_init 10 = .ok (.invokespecial 11, 3) := by decide +kernel
theorem dX4_init_13 : decode cX4_init 13 = .ok (.putfield 14, 3) := by decide +kernel
theorem dX4_init_16 : decode cX4_init 16 = .ok (.aload_n 0, 1) := by decide +kernel
theorem dX4_init_17 : decode cX4_init 17 = .ok (.new 9, 3) := by decide +kernel
theorem dX4_init_20 : decode cX4_init 20 = .ok (.dup, 1) := by decide +kernel
theorem dX4_init_21 : decode cX4_init 21 = .ok (.iconst 1, 1) := by decide +kernel
theorem dX4_init_22 : decode cX4_init 22 = .ok (.invokespecial 11, 3) := by decide +kernel
theorem dX4_init_25 : decode cX4_init 25 = .ok (.putfield 20, 3) := by decide +kernel
theorem dX4_init_28 : decode cX4_init 28 = .ok (.return_, 1) := by decide +kernel
set_option maxRecDepth 20000 in
theorem ggX4_clear_X0_clear : GoodIn wsX4_clear wsX0_clear := goodIn_r _ [12, 13, 14, 15, 16, 17, 18, 19, 20, 21, 22, 23, 24, 25, 26, 27, 28, 29, 30, 31, 32, 33, 34, 35, 36, 37, 38, 39, 40, 41, 42, 43, 44, 45, 46, 47, 48, 56, 57, 58, 59, 60, 61, 62, 63, 64, 65, 66, 67, 68, 69, 70, 71, 72, 73, 74, 75, 76, 77] (by decide +kernel) (by decide +kernel)
set_option maxRecDepth 20000 in
theorem gX4_clear_X0_clear : GoodIn wsX4_clear (wsV RX4 23 RX0 yX0_clear wsX0_clear) := goodIn_app (goodIn_of _ (by decide +kernel)) ggX4_clear_X0_clear
theorem dX4_clear_0 : decode cX4_clear 0 = .ok (.aload_n 0, 1) := by decide +kernel
theorem dX4_clear_1 : decode cX4_clear 1 = .ok (.getfield 14, 3) := by decide +kernel
theorem dX4_clear_4 : decode cX4_clear 4 = .ok (.invokevirtual 23, 3) := by decide +kernel
theorem dX4_clear_7 : decode cX4_clear 7 = .ok (.aload_n 0, 1) := by decide +kernel
theorem dX4_clear_8 : decode cX4_clear 8 = .ok (.getfield 20, 3) := by decide +kernel
theorem dX4_clear_11 : decode cX4_clear 11 = .ok (.invokevirtual 23, 3) := by decide +kernel
theorem dX4_clear_14 : decode cX4_clear 14 = .ok (.aload_n 0, 1) := by decide +kernel
theorem dX4_clear_15 : decode cX4_clear 15 = .ok (.iconst 0, 1) := by decide +kernel
theorem dX4_clear_16 : decode cX4_clear 16 = .ok (.putfield 26, 3) := by decide +kernel
theorem dX4_clear_19 : decode cX4_clear 19 = .ok (.aload_n 0, 1) := by decide +kernel
theorem dX4_clear_20 : decode cX4_clear 20 = .ok (.iconst 4, 1) := by decide +kernel
theorem dX4_clear_21 : decode cX4_clear 21 = .ok (.putfield 30, 3) := by decide +kernel
theorem dX4_clear_24 : decode cX4_clear 24 = .ok (.aload_n 0, 1) := by decide +kernel
theorem dX4_clear_25 : decode cX4_clear 25 = .ok (.iconst 2, 1) := by decide +kernel
theorem dX4_clear_26 : decode cX4_clear 26 = .ok (.putfield 33, 3) := by decide +kernel
theorem dX4_clear_29 : decode cX4_clear 29 = .ok (.aload_n 0, 1) := by decide +kernel
theorem dX4_clear_30 : decode cX4_clear 30 = .ok (.iconst 1, 1) := by decide +kernel
theorem dX4_clear_31 : decode cX4_clear 31 = .ok (.putfield 36, 3) := by decide +kernel
theorem dX4_clear_34 : decode cX4_clear 34 = .ok (.aload_n 0, 1) := by decide +kernel
theorem dX4_clear_35 : decode cX4_clear 35 = .ok (.iconst 0, 1) := by decide +kernel
theorem dX4_clear_36 : decode cX4_clear 36 = .ok (.putfield 39, 3) := by decide +kernel
theorem dX4_clear_39 : decode cX4_clear 39 = .ok (.return_, 1) := by decide +kernel
set_option maxRecDepth 20000 in
theorem ggX4_copyFrom_X0_copyFrom : GoodIn wsX4_copyFrom wsX0_copyFrom := goodIn_r _ [12, 13, 14, 15, 16, 17, 18, 19, 20, 21, 22, 23, 24, 25, 26, 27, 28, 29, 30, 31, 32, 33, 34, 35, 36, 37, 38, 39, 40, 41, 42, 43, 44, 45, 46, 47, 48, 56, 57, 58, 59, 60, 61, 62, 63, 64, 65, 66, 67, 68, 69, 70, 71, 72, 73, 74, 75, 76, 77] (by decide +kernel) (by decide +kernel)
set_option maxRecDepth 20000 in
theorem gX4_copyFrom_X0_copyFrom : GoodIn wsX4_copyFrom (wsV RX4 42 RX0 yX0_copyFrom wsX0_copyFrom) := goodIn_app (goodIn_of _ (by decide +kernel)) ggX4_copyFrom_X0_copyFrom
theorem dX4_copyFrom_0 : decode cX4_copyFrom 0 = .ok (.aload_n 0, 1) := by decide +kernel
theorem dX4_copyFrom_1 : decode cX4_copyFrom 1 = .ok (.getfield 14, 3) := by decide +kernel
end
section
theorem dX4_copyFrom_4 : decode cX4_copyFrom 4 = .ok (.aload_n 1, 1) := by decide +kernel
theorem dX4_copyFrom_5 : decode cX4_copyFrom 5 = .ok (.getfield 14, 3) := by decide +kernel
theorem dX4_copyFrom_8 : decode cX4_copyFrom 8 = .ok (.invokevirtual 42, 3) := by decide +kernel
theorem dX4_copyFrom_11 : decode cX4_copyFrom 11 = .ok (.aload_n 0, 1) := by decide +kernel
theorem dX4_copyFrom_12 : decode cX4_copyFrom 12 = .ok (.getfield 20, 3) := by decide +kernel
theorem dX4_copyFrom_15 : decode cX4_copyFrom 15 = .ok (.aload_n 1, 1) := by decide +kernel
theorem dX4_copyFrom_16 : decode cX4_copyFrom 16 = .ok (.getfield 20, 3) := by decide +kernel
theorem dX4_copyFrom_19 : decode cX4_copyFrom 19 = .ok (.invokevirtual 42, 3) := by decide +kernel
theorem dX4_copyFrom_22 : decode cX4_copyFrom 22 = .ok (.aload_n 0, 1) := by decide +kernel
theorem dX4_copyFrom_23 : decode cX4_copyFrom 23 = .ok (.aload_n 1, 1) := by decide +kernel
theorem dX4_copyFrom_24 : decode cX4_copyFrom 24 = .ok (.getfield 26, 3) := by decide +kernel
theorem dX4_copyFrom_27 : decode cX4_copyFrom 27 = .ok (.putfield 26, 3) := by decide +kernel
theorem dX4_copyFrom_30 : decode cX4_copyFrom 30 = .ok (.aload_n 0, 1) := by decide +kernel
theorem dX4_copyFrom_31 : decode cX4_copyFrom 31 = .ok (.aload_n 1, 1) := by decide +kernel
theorem dX4_copyFrom_32 : decode cX4_copyFrom 32 = .ok (.getfield 30, 3) := by decide +kernel
theorem dX4_copyFrom_35 : decode cX4_copyFrom 35 = .ok (.putfield 30, 3) := by decide +kernel
theorem dX4_copyFrom_38 : decode cX4_copyFrom 38 = .ok (.aload_n 0, 1) := by decide +kernel
theorem dX4_copyFrom_39 : decode cX4_copyFrom 39 = .ok (.aload_n 1, 1) := by decide +kernel
theorem dX4_copyFrom_40 : decode cX4_copyFrom 40 = .ok (.getfield 33, 3) := by decide +kernel
theorem dX4_copyFrom_43 : decode cX4_copyFrom 43 = .ok (.putfield 33, 3) := by decide +kernel
theorem dX4_copyFrom_46 : decode cX4_copyFrom 46 = .ok (.aload_n 0, 1) := by decide +kernel
theorem dX4_copyFrom_47 : decode cX4_copyFrom 47 = .ok (.aload_n 1, 1) := by decide +kernel
theorem dX4_copyFrom_48 : decode cX4_copyFrom 48 = .ok (.getfield 36, 3) := by decide +kernel
theorem dX4_copyFrom_51 : decode cX4_copyFrom 51 = .ok (.putfield 36, 3) := by decide +kernel
theorem dX4_copyFrom_54 : decode cX4_copyFrom 54 = .ok (.aload_n 0, 1) := by decide +kernel
theorem dX4_copyFrom_55 : decode cX4_copyFrom 55 = .ok (.aload_n 1, 1) := by decide +kernel
theorem dX4_copyFrom_56 : decode cX4_copyFrom 56 = .ok (.getfield 39, 3) := by decide +kernel
theorem dX4_copyFrom_59 : decode cX4_copyFrom 59 = .ok (.putfield 39, 3) := by decide +kernel
theorem dX4_copyFrom_62 : decode cX4_copyFrom 62 = .ok (.return_, 1) := by decide +kernel
set_option maxRecDepth 20000 in
theorem ggX4_looksLike_X0_looksLike : GoodIn wsX4_looksLike wsX0_looksLike := goodIn_r _ [7, 8, 9, 10, 11, 19, 20, 21, 22, 23, 24, 25, 26, 27, 28, 29, 30, 31, 32, 33, 34, 35] (by decide +kernel) (by decide +kernel)
set_option maxRecDepth 20000 in
theorem gX4_looksLike_X0_looksLike : GoodIn wsX4_looksLike (wsV RX4 46 RX0 yX0_looksLike wsX0_looksLike) := goodIn_app (goodIn_of _ (by decide +kernel)) ggX4_looksLike_X0_looksLike
theorem dX4_looksLike_0 : decode cX4_looksLike 0 = .ok (.aload_n 0, 1) := by decide +kernel
theorem dX4_looksLike_1 : decode cX4_looksLike 1 = .ok (.getfield 14, 3) := by decide +kernel
theorem dX4_looksLike_4 : decode cX4_looksLike 4 = .ok (.aload_n 1, 1) := by decide +kernel
theorem dX4_looksLike_5 : decode cX4_looksLike 5 = .ok (.getfield 14, 3) := by decide +kernel
theorem dX4_looksLike_8 : decode cX4_looksLike 8 = .ok (.invokevirtual 46, 3) := by decide +kernel
theorem dX4_looksLike_11 : decode cX4_looksLike 11 = .ok (.ifCond .eq 21, 3) := by decide +kernel
theorem dX4_looksLike_14 : decode cX4_looksLike 14 = .ok (.aload_n 0, 1) := by decide +kernel
theorem dX4_looksLike_15 : decode cX4_looksLike 15 = .ok (.getfield 20, 3) := by decide +kernel
theorem dX4_looksLike_18 : decode cX4_looksLike 18 = .ok (.aload_n 1, 1) := by decide +kernel
theorem dX4_looksLike_19 : decode cX4_looksLike 19 = .ok (.getfield 20, 3) := by decide +kernel
theorem dX4_looksLike_22 : decode cX4_looksLike 22 = .ok (.invokevirtual 46, 3) := by decide +kernel
theorem dX4_looksLike_25 : decode cX4_looksLike 25 = .ok (.ifCond .eq 7, 3) := by decide +kernel
theorem dX4_looksLike_28 : decode cX4_looksLike 28 = .ok (.iconst 1, 1) := by decide +kernel
theorem dX4_looksLike_29 : decode cX4_looksLike 29 = .ok (.goto 4, 3) := by decide +kernel
theorem dX4_looksLike_32 : decode cX4_looksLike 32 = .ok (.iconst 0, 1) := by decide +kernel
theorem dX4_looksLike_33 : decode cX4_looksLike 33 = .ok (.ireturn, 1) := by decide +kernel
theorem dX4_endOf_0 : decode cX4_endOf 0 = .ok (.iload_n 1, 1) := by decide +kernel
theorem dX4_endOf_1 : decode cX4_endOf 1 = .ok (.ifCond .ne 8, 3) := by decide +kernel
theorem dX4_endOf_4 : decode cX4_endOf 4 = .ok (.aload_n 0, 1) := by decide +kernel
theorem dX4_endOf_5 : decode cX4_endOf 5 = .ok (.getfield 14, 3) := by decide +kernel
theorem dX4_endOf_8 : decode cX4_endOf 8 = .ok (.areturn, 1) := by decide +kernel
theorem dX4_endOf_9 : decode cX4_endOf 9 = .ok (.iload_n 1, 1) := by decide +kernel
theorem dX4_endOf_10 : decode cX4_endOf 10 = .ok (.iconst 1, 1) := by decide +kernel
theorem dX4_endOf_11 : decode cX4_endOf 11 = .ok (.if_icmp .ne 10, 3) := by decide +kernel
theorem dX4_endOf_14 : decode cX4_endOf 14 = .ok (.aload_n 0, 1) := by decide +kernel
theorem dX4_endOf_15 : decode cX4_endOf 15 = .ok (.getfield 20, 3) := by decide +kernel
theorem dX4_endOf_18 : decode cX4_endOf 18 = .ok (.goto 4, 3) := by decide +kernel
theorem dX4_endOf_21 : decode cX4_endOf 21 = .ok (.aconst_null, 1) := by decide +kernel
theorem dX4_endOf_22 : decode cX4_endOf 22 = .ok (.areturn, 1) := by decide +kernel
set_option maxRecDepth 20000 in
theorem ggX4_portOf_X4_endOf : GoodIn wsX4_portOf wsX4_endOf := goodIn_r _ [6, 7, 8, 15, 16, 17, 18, 19, 20, 21] (by decide +kernel) (by decide +kernel)
set_option maxRecDepth 20000 in
theorem gX4_portOf_X4_endOf : GoodIn wsX4_portOf (wsV RX4 50 RX4 yX4_endOf wsX4_endOf) := goodIn_app (goodIn_of _ (by decide +kernel)) ggX4_portOf_X4_endOf
set_option maxRecDepth 20000 in
theorem ggX4_portOf_X0_portAt : GoodIn wsX4_portOf wsX0_portAt := goodIn_r _ [13, 14, 22, 23, 24, 25] (by decide +kernel) (by decide +kernel)
set_option maxRecDepth 20000 in
theorem gX4_portOf_X0_portAt : GoodIn wsX4_portOf (wsV RX4 54 RX0 yX0_portAt wsX0_portAt) := goodIn_app (goodIn_of _ (by decide +kernel)) ggX4_portOf_X0_portAt
theorem dX4_portOf_0 : decode cX4_portOf 0 = .ok (.aload_n 0, 1) := by decide +kernel
theorem dX4_portOf_1 : decode cX4_portOf 1 = .ok (.iload_n 1, 1) := by decide +kernel
theorem dX4_portOf_2 : decode cX4_portOf 2 = .ok (.invokevirtual 50, 3) := by decide +kernel
theorem dX4_portOf_5 : decode cX4_portOf 5 = .ok (.astore_n 3, 1) := by decide +kernel
theorem dX4_portOf_6 : decode cX4_portOf 6 = .ok (.aload_n 3, 1) := by decide +kernel
theorem dX4_portOf_7 : decode cX4_portOf 7 = .ok (.ifnull 11, 3) := by decide +kernel
theorem dX4_portOf_10 : decode cX4_portOf 10 = .ok (.iload_n 2, 1) := by decide +kernel
theorem dX4_portOf_11 : decode cX4_portOf 11 = .ok (.aload_n 0, 1) := by decide +kernel
theorem dX4_portOf_12 : decode cX4_portOf 12 = .ok (.getfield 26, 3) := by decide +kernel
theorem dX4_portOf_15 : decode cX4_portOf 15 = .ok (.if_icmp .lt 7, 3) := by decide +kernel
theorem dX4_portOf_18 : decode cX4_portOf 18 = .ok (.aconst_null, 1) := by decide +kernel
theorem dX4_portOf_19 : decode cX4_portOf 19 = .ok (.goto 8, 3) := by decide +kernel
theorem dX4_portOf_22 : decode cX4_portOf 22 = .ok (.aload_n 3, 1) := by decide +kernel
theorem dX4_portOf_23 : decode cX4_portOf 23 = .ok (.iload_n 2, 1) := by decide +kernel
theorem dX4_portOf_24 : decode cX4_portOf 24 = .ok (.invokevirtual 54, 3) := by decide +kernel
theorem dX4_portOf_27 : decode cX4_portOf 27 = .ok (.areturn, 1) := by decide +kernel
set_option maxRecDepth 20000 in
theorem ggX4_flowOf_X4_endOf : GoodIn wsX4_flowOf wsX4_endOf := goodIn_r _ [5, 6, 7, 14, 15, 16, 17, 18, 19, 20] (by decide +kernel) (by decide +kernel)
set_option maxRecDepth 20000 in
theorem gX4_flowOf_X4_endOf : GoodIn wsX4_flowOf (wsV RX4 50 RX4 yX4_endOf wsX4_endOf) := goodIn_app (goodIn_of _ (by decide +kernel)) ggX4_flowOf_X4_endOf
set_option maxRecDepth 20000 in
theorem ggX4_flowOf_X0_flowAt : GoodIn wsX4_flowOf wsX0_flowAt := goodIn_r _ [12, 13, 21, 22, 23, 24] (by decide +kernel) (by decide +kernel)
set_option maxRecDepth 20000 in
theorem gX4_flowOf_X0_flowAt : GoodIn wsX4_flowOf (wsV RX4 58 RX0 yX0_flowAt wsX0_flowAt) := goodIn_app (goodIn_of _ (by decide +kernel)) ggX4_flowOf_X0_flowAt
theorem dX4_flowOf_0 : decode cX4_flowOf 0 = .ok (.aload_n 0, 1) := by decide +kernel
theorem dX4_flowOf_1 : decode cX4_flowOf 1 = .ok (.iload_n 1, 1) := by decide +kernel
theorem dX4_flowOf_2 : decode cX4_flowOf 2 = .ok (.invokevirtual 50, 3) := by decide +kernel
theorem dX4_flowOf_5 : decode cX4_flowOf 5 = .ok (.astore_n 3, 1) := by decide +kernel
theorem dX4_flowOf_6 : decode cX4_flowOf 6 = .ok (.aload_n 3, 1) := by decide +kernel
theorem dX4_flowOf_7 : decode cX4_flowOf 7 = .ok (.ifnonnull 7, 3) := by decide +kernel
theorem dX4_flowOf_10 : decode cX4_flowOf 10 = .ok (.aconst_null, 1) := by decide +kernel
theorem dX4_flowOf_11 : decode cX4_flowOf 11 = .ok (.goto 8, 3) := by decide +kernel
theorem dX4_flowOf_14 : decode cX4_flowOf 14 = .ok (.aload_n 3, 1) := by decide +kernel
theorem dX4_flowOf_15 : decode cX4_flowOf 15 = .ok (.iload_n 2, 1) := by decide +kernel
theorem dX4_flowOf_16 : decode cX4_flowOf 16 = .ok (.invokevirtual 58, 3) := by decide +kernel
theorem dX4_flowOf_19 : decode cX4_flowOf 19 = .ok (.areturn, 1) := by decide +kernel
set_option maxRecDepth 20000 in
theorem ggX4_plugLink_X4_portOf : GoodIn wsX4_plugLink wsX4_portOf := goodIn_r _ [6, 7, 8, 9, 10, 5, 11, 12, 13, 14, 15, 16, 17, 18, 19, 31, 32, 33, 34, 35, 36, 37, 38, 39, 40, 41] (by decide +kernel) (by decide +kernel)
set_option maxRecDepth 20000 in
theorem gX4_plugLink_X4_portOf : GoodIn wsX4_plugLink (wsV RX4 62 RX4 yX4_portOf wsX4_portOf) := goodIn_app (goodIn_of _ (by decide +kernel)) ggX4_plugLink_X4_portOf
theorem dX4_plugLink_0 : decode cX4_plugLink 0 = .ok (.aload_n 0, 1) := by decide +kernel
theorem dX4_plugLink_1 : decode cX4_plugLink 1 = .ok (.iconst 0, 1) := by decide +kernel
theorem dX4_plugLink_2 : decode cX4_plugLink 2 = .ok (.iload_n 1, 1) := by decide +kernel
theorem dX4_plugLink_3 : decode cX4_plugLink 3 = .ok (.invokevirtual 62, 3) := by decide +kernel
theorem dX4_plugLink_6 : decode cX4_plugLink 6 = .ok (.astore_n 3, 1) := by decide +kernel
theorem dX4_plugLink_7 : decode cX4_plugLink 7 = .ok (.aload_n 0, 1) := by decide +kernel
theorem dX4_plugLink_8 : decode cX4_plugLink 8 = .ok (.iconst 1, 1) := by decide +kernel
theorem dX4_plugLink_9 : decode cX4_plugLink 9 = .ok (.iload_n 1, 1) := by decide +kernel
theorem dX4_plugLink_10 : decode cX4_plugLink 10 = .ok (.invokevirtual 62, 3) := by decide +kernel
theorem dX4_plugLink_13 : decode cX4_plugLink 13 = .ok (.astore 4, 2) := by decide +kernel
theorem dX4_plugLink_15 : decode cX4_plugLink 15 = .ok (.aload_n 3, 1) := by decide +kernel
theorem dX4_plugLink_16 : decode cX4_plugLink 16 = .ok (.ifnull 19, 3) := by decide +kernel
theorem dX4_plugLink_19 : decode cX4_plugLink 19 = .ok (.aload 4, 2) := by decide +kernel
theorem dX4_plugLink_21 : decode cX4_plugLink 21 = .ok (.ifnull 14, 3) := by decide +kernel
theorem dX4_plugLink_24 : decode cX4_plugLink 24 = .ok (.aload_n 3, 1) := by decide +kernel
theorem dX4_plugLink_25 : decode cX4_plugLink 25 = .ok (.iload_n 2, 1) := by decide +kernel
theorem dX4_plugLink_26 : decode cX4_plugLink 26 = .ok (.putfield 66, 3) := by decide +kernel
theorem dX4_plugLink_29 : decode cX4_plugLink 29 = .ok (.aload 4, 2) := by decide +kernel
theorem dX4_plugLink_31 : decode cX4_plugLink 31 = .ok (.iload_n 2, 1) := by decide +kernel
theorem dX4_plugLink_32 : decode cX4_plugLink 32 = .ok (.putfield 66, 3) := by decide +kernel
theorem dX4_plugLink_35 : decode cX4_plugLink 35 = .ok (.return_, 1) := by decide +kernel
theorem dX4_setting_0 : decode cX4_setting 0 = .ok (.iload_n 1, 1) := by decide +kernel
theorem dX4_setting_1 : decode cX4_setting 1 = .ok (.lookupswitch 43 #[(0, 27), (1, 35)], 27) := by decide +kernel
theorem dX4_setting_28 : decode cX4_setting 28 = .ok (.aload_n 0, 1) := by decide +kernel
theorem dX4_setting_29 : decode cX4_setting 29 = .ok (.getfield 14, 3) := by decide +kernel
theorem dX4_setting_32 : decode cX4_setting 32 = .ok (.getfield 72, 3) := by decide +kernel
theorem dX4_setting_35 : decode cX4_setting 35 = .ok (.ireturn, 1) := by decide +kernel
theorem dX4_setting_36 : decode cX4_setting 36 = .ok (.aload_n 0, 1) := by decide +kernel
theorem dX4_setting_37 : decode cX4_setting 37 = .ok (.getfield 20, 3) := by decide +kernel
theorem dX4_setting_40 : decode cX4_setting 40 = .ok (.getfield 72, 3) := by decide +kernel
theorem dX4_setting_43 : decode cX4_setting 43 = .ok (.ireturn, 1) := by decide +kernel
theorem dX4_setting_44 : decode cX4_setting 44 = .ok (.aload_n 0, 1) := by decide +kernel
theorem dX4_setting_45 : decode cX4_setting 45 = .ok (.getfield 30, 3) := by decide +kernel
theorem dX4_setting_48 : decode cX4_setting 48 = .ok (.ireturn, 1) := by decide +kernel
theorem dX4_changeSetting_0 : decode cX4_changeSetting 0 = .ok (.iload_n 1, 1) := by decide +kernel
theorem dX4_changeSetting_1 : decode cX4_changeSetting 1 = .ok (.lookupswitch 49 #[(0, 27), (1, 38)], 27) := by decide +kernel
theorem dX4_changeSetting_28 : decode cX4_changeSetting 28 = .ok (.aload_n 0, 1) := by decide +kernel
theorem dX4_changeSetting_29 : decode cX4_changeSetting 29 = .ok (.getfield 14, 3) := by decide +kernel
theorem dX4_changeSetting_32 : decode cX4_changeSetting 32 = .ok (.iload_n 2, 1) := by decide +kernel
theorem dX4_changeSetting_33 : decode cX4_changeSetting 33 = .ok (.putfield 72, 3) := by decide +kernel
theorem dX4_changeSetting_36 : decode cX4_changeSetting 36 = .ok (.goto 19, 3) := by decide +kernel
theorem dX4_changeSetting_39 : decode cX4_changeSetting 39 = .ok (.aload_n 0, 1) := by decide +kernel
theorem dX4_changeSetting_40 : decode cX4_changeSetting 40 = .ok (.getfield 20, 3) := by decide +kernel
theorem dX4_changeSetting_43 : decode cX4_changeSetting 43 = .ok (.iload_n 2, 1) := by decide +kernel
theorem dX4_changeSetting_44 : decode cX4_changeSetting 44 = .ok (.putfield 72, 3) := by decide +kernel
theorem dX4_changeSetting_47 : decode cX4_changeSetting 47 = .ok (.goto 8, 3) := by decide +kernel
theorem dX4_changeSetting_50 : decode cX4_changeSetting 50 = .ok (.aload_n 0, 1) := by decide +kernel
theorem dX4_changeSetting_51 : decode cX4_changeSetting 51 = .ok (.iload_n 2, 1) := by decide +kernel
theorem dX4_changeSetting_52 : decode cX4_changeSetting 52 = .ok (.putfield 30, 3) := by decide +kernel
theorem dX4_changeSetting_55 : decode cX4_changeSetting 55 = .ok (.return_, 1) := by decide +kernel
set_option maxRecDepth 20000 in
theorem ggX4_step_X0_hearFrom : GoodIn wsX4_step wsX0_hearFrom := goodIn_r _ [8, 9, 10, 11, 12, 13, 14, 15, 16, 17, 18, 19, 20, 21, 22, 23, 24, 25, 26, 27, 28, 29, 120, 121, 122, 123, 124, 125, 126, 127, 128, 129, 130, 131, 132, 133, 134, 135, 136, 137, 138, 139] (by decide +kernel) (by decide +kernel)
set_option maxRecDepth 20000 in
theorem gX4_step_X0_hearFrom : GoodIn wsX4_step (wsV RX4 75 RX0 yX0_hearFrom wsX0_hearFrom) := goodIn_app (goodIn_of _ (by decide +kernel)) ggX4_step_X0_hearFrom
set_option maxRecDepth 20000 in
theorem ggX4_step_X4_stepOf : GoodIn wsX4_step wsX4_stepOf := goodIn_r _ [34, 35, 36, 37, 38, 39, 40, 7, 41, 9, 42, 43, 44, 45, 46, 47, 48, 49, 50, 51, 52, 53, 54, 55, 56, 57, 58, 14, 59, 60, 17, 61, 62, 63, 64, 65, 66, 67, 68, 69, 70, 71, 72, 73, 74, 75, 76, 77, 78, 79, 80, 81, 82, 83, 16, 18, 84, 85, 86, 87, 88, 89, 90, 91, 92, 93, 94, 95, 96, 97, 98, 99, 100, 101, 102, 103, 104, 105, 106, 107, 108, 109, 110, 111, 112, 113, 114, 115, 116, 117, 118, 119, 120, 121, 122, 123, 124, 125, 126, 127, 128, 129, 130, 131, 132, 133, 134, 135, 136, 137, 138, 139, 140, 141] (by decide +kernel) (by decide +kernel)
set_option maxRecDepth 20000 in
theorem gX4_step_X4_stepOf : GoodIn wsX4_step (wsV RX4 78 RX4 yX4_stepOf wsX4_stepOf) := goodIn_app (goodIn_of _ (by decide +kernel)) ggX4_step_X4_stepOf
theorem dX4_step_0 : decode cX4_step 0 = .ok (.aload_n 0, 1) := by decide +kernel
theorem dX4_step_1 : decode cX4_step 1 = .ok (.getfield 14, 3) := by decide +kernel
theorem dX4_step_4 : decode cX4_step 4 = .ok (.aload_n 0, 1) := by decide +kernel
theorem dX4_step_5 : decode cX4_step 5 = .ok (.getfield 20, 3) := by decide +kernel
theorem dX4_step_8 : decode cX4_step 8 = .ok (.invokevirtual 75, 3) := by decide +kernel
theorem dX4_step_11 : decode cX4_step 11 = .ok (.aload_n 0, 1) := by decide +kernel
theorem dX4_step_12 : decode cX4_step 12 = .ok (.getfield 20, 3) := by decide +kernel
theorem dX4_step_15 : decode cX4_step 15 = .ok (.aload_n 0, 1) := by decide +kernel
theorem dX4_step_16 : decode cX4_step 16 = .ok (.getfield 14, 3) := by decide +kernel
theorem dX4_step_19 : decode cX4_step 19 = .ok (.invokevirtual 75, 3) := by decide +kernel
theorem dX4_step_22 : decode cX4_step 22 = .ok (.aload_n 0, 1) := by decide +kernel
theorem dX4_step_23 : decode cX4_step 23 = .ok (.aload_n 0, 1) := by decide +kernel
theorem dX4_step_24 : decode cX4_step 24 = .ok (.getfield 14, 3) := by decide +kernel
theorem dX4_step_27 : decode cX4_step 27 = .ok (.invokevirtual 78, 3) := by decide +kernel
theorem dX4_step_30 : decode cX4_step 30 = .ok (.aload_n 0, 1) := by decide +kernel
theorem dX4_step_31 : decode cX4_step 31 = .ok (.aload_n 0, 1) := by decide +kernel
theorem dX4_step_32 : decode cX4_step 32 = .ok (.getfield 20, 3) := by decide +kernel
theorem dX4_step_35 : decode cX4_step 35 = .ok (.invokevirtual 78, 3) := by decide +kernel
theorem dX4_step_38 : decode cX4_step 38 = .ok (.aload_n 0, 1) := by decide +kernel
theorem dX4_step_39 : decode cX4_step 39 = .ok (.dup, 1) := by decide +kernel
theorem dX4_step_40 : decode cX4_step 40 = .ok (.getfield 39, 3) := by decide +kernel
theorem dX4_step_43 : decode cX4_step 43 = .ok (.iconst 1, 1) := by decide +kernel
theorem dX4_step_44 : decode cX4_step 44 = .ok (.iadd, 1) := by decide +kernel
theorem dX4_step_45 : decode cX4_step 45 = .ok (.putfield 39, 3) := by decide +kernel
theorem dX4_step_48 : decode cX4_step 48 = .ok (.return_, 1) := by decide +kernel
set_option maxRecDepth 20000 in
theorem ggX4_stepOf_X0_choose : GoodIn wsX4_stepOf wsX0_choose := goodIn_r _ [8, 9, 10, 11, 12, 13, 7, 14, 15, 16, 17, 18, 19, 20, 21, 22, 23, 24, 25, 26, 27, 28, 29, 30, 31, 32, 33, 34, 35, 36, 37, 92, 93, 94, 95, 96, 97, 98, 99, 100, 101, 102, 103, 104, 105, 106, 107, 108, 109, 110, 111] (by decide +kernel) (by decide +kernel)
set_option maxRecDepth 20000 in
theorem gX4_stepOf_X0_choose : GoodIn wsX4_stepOf (wsV RX4 81 RX0 yX0_choose wsX0_choose) := goodIn_app (goodIn_of _ (by decide +kernel)) ggX4_stepOf_X0_choose
set_option maxRecDepth 20000 in
theorem ggX4_stepOf_X0_judgeAndSay : GoodIn wsX4_stepOf wsX0_judgeAndSay := goodIn_r _ [41, 9, 19, 42, 43, 44, 27, 45, 46, 47, 48, 49, 50, 51, 52, 53, 54, 30, 55, 56, 57, 58, 59, 60, 61, 62, 29, 31, 36, 37, 63, 92, 93, 94, 95, 96, 97, 98, 99, 100, 101, 102, 103, 104, 105, 106, 107, 108, 109, 110, 111] (by decide +kernel) (by decide +kernel)
set_option maxRecDepth 20000 in
theorem gX4_stepOf_X0_judgeAndSay : GoodIn wsX4_stepOf (wsV RX4 84 RX0 yX0_judgeAndSay wsX0_judgeAndSay) := goodIn_app (goodIn_of _ (by decide +kernel)) ggX4_stepOf_X0_judgeAndSay
set_option maxRecDepth 20000 in
theorem ggX4_stepOf_X0_dealFlows : GoodIn wsX4_stepOf wsX0_dealFlows := goodIn_r _ [67, 68, 69, 70, 71, 7, 72, 9, 73, 74, 75, 76, 77, 78, 79, 80, 81, 82, 83, 84, 92, 93, 94, 95, 96, 97, 98, 99, 100, 101, 102, 103, 104, 105, 106, 112, 113] (by decide +kernel) (by decide +kernel)
set_option maxRecDepth 20000 in
theorem gX4_stepOf_X0_dealFlows : GoodIn wsX4_stepOf (wsV RX4 87 RX0 yX0_dealFlows wsX0_dealFlows) := goodIn_app (goodIn_of _ (by decide +kernel)) ggX4_stepOf_X0_dealFlows
theorem dX4_stepOf_0 : decode cX4_stepOf 0 = .ok (.aload_n 1, 1) := by decide +kernel
theorem dX4_stepOf_1 : decode cX4_stepOf 1 = .ok (.aload_n 0, 1) := by decide +kernel
theorem dX4_stepOf_2 : decode cX4_stepOf 2 = .ok (.getfield 30, 3) := by decide +kernel
theorem dX4_stepOf_5 : decode cX4_stepOf 5 = .ok (.invokevirtual 81, 3) := by decide +kernel
theorem dX4_stepOf_8 : decode cX4_stepOf 8 = .ok (.aload_n 1, 1) := by decide +kernel
theorem dX4_stepOf_9 : decode cX4_stepOf 9 = .ok (.aload_n 0, 1) := by decide +kernel
theorem dX4_stepOf_10 : decode cX4_stepOf 10 = .ok (.getfield 33, 3) := by decide +kernel
theorem dX4_stepOf_13 : decode cX4_stepOf 13 = .ok (.invokevirtual 84, 3) := by decide +kernel
theorem dX4_stepOf_16 : decode cX4_stepOf 16 = .ok (.aload_n 1, 1) := by decide +kernel
theorem dX4_stepOf_17 : decode cX4_stepOf 17 = .ok (.aload_n 0, 1) := by decide +kernel
theorem dX4_stepOf_18 : decode cX4_stepOf 18 = .ok (.getfield 36, 3) := by decide +kernel
theorem dX4_stepOf_21 : decode cX4_stepOf 21 = .ok (.invokevirtual 87, 3) := by decide +kernel
theorem dX4_stepOf_24 : decode cX4_stepOf 24 = .ok (.return_, 1) := by decide +kernel
set_option maxRecDepth 20000 in
theorem ggX4_layOut_X4_clear : GoodIn wsX4_layOut wsX4_clear := goodIn_r _ [6, 7, 8, 9, 10, 11, 12, 13, 14, 15, 16, 17, 18, 19, 20, 21, 22, 23, 24, 25, 26, 27, 28, 29, 30, 31, 32, 33, 34, 35, 36, 37, 38, 39, 40, 41, 42, 43, 44, 45, 46, 47, 48, 49, 50, 51, 52, 53, 54, 94, 95, 96, 97, 98, 99, 100, 101, 102, 103, 104, 105, 106, 107, 108, 109, 110, 111, 112, 113, 114, 115, 116, 117, 118, 119, 120, 121, 122] (by decide +kernel) (by decide +kernel)
set_option maxRecDepth 20000 in
theorem gX4_layOut_X4_clear : GoodIn wsX4_layOut (wsV RX4 90 RX4 yX4_clear wsX4_clear) := goodIn_app (goodIn_of _ (by decide +kernel)) ggX4_layOut_X4_clear
set_option maxRecDepth 20000 in
theorem ggX4_layOut_X4_layItem : GoodIn wsX4_layOut wsX4_layItem := goodIn_r _ [58, 7, 59, 8, 10, 11, 12, 60, 61, 62, 63, 64, 65, 66, 67, 68, 69, 5, 70, 9, 71, 72, 73, 17, 74, 20, 75, 76, 77, 78, 79, 80, 81, 82, 25, 83, 27, 34, 29, 30, 94, 95, 96, 97, 98, 99, 100, 101, 102, 103, 104, 92, 93, 105, 106, 107, 108, 109, 110, 111, 112, 113, 114, 115] (by decide +kernel) (by decide +kernel)
set_option maxRecDepth 20000 in
theorem gX4_layOut_X4_layItem : GoodIn wsX4_layOut (wsV RX4 96 RX4 yX4_layItem wsX4_layItem) := goodIn_app (goodIn_of _ (by decide +kernel)) ggX4_layOut_X4_layItem
set_option maxRecDepth 20000 in
theorem ggX4_layOut_X6_lengthOfItem : GoodIn wsX4_layOut wsX6_lengthOfItem := goodIn_r _ [87, 88, 89, 90, 63, 91, 79, 61, 62, 64, 65, 66, 92, 93] (by decide +kernel) (by decide +kernel)
set_option maxRecDepth 20000 in
theorem gX4_layOut_X6_lengthOfItem : GoodIn wsX4_layOut (wsV RX4 100 RX6 yX6_lengthOfItem wsX6_lengthOfItem) := goodIn_app (goodIn_of _ (by decide +kernel)) ggX4_layOut_X6_lengthOfItem
theorem dX4_layOut_0 : decode cX4_layOut 0 = .ok (.aload_n 0, 1) := by decide +kernel
theorem dX4_layOut_1 : decode cX4_layOut 1 = .ok (.invokevirtual 90, 3) := by decide +kernel
theorem dX4_layOut_4 : decode cX4_layOut 4 = .ok (.iconst 0, 1) := by decide +kernel
theorem dX4_layOut_5 : decode cX4_layOut 5 = .ok (.istore_n 2, 1) := by decide +kernel
theorem dX4_layOut_6 : decode cX4_layOut 6 = .ok (.iconst 0, 1) := by decide +kernel
theorem dX4_layOut_7 : decode cX4_layOut 7 = .ok (.istore_n 3, 1) := by decide +kernel
theorem dX4_layOut_8 : decode cX4_layOut 8 = .ok (.iload_n 3, 1) := by decide +kernel
theorem dX4_layOut_9 : decode cX4_layOut 9 = .ok (.sipush 200, 3) := by decide +kernel
theorem dX4_layOut_12 : decode cX4_layOut 12 = .ok (.if_icmp .ge 31, 3) := by decide +kernel
theorem dX4_layOut_15 : decode cX4_layOut 15 = .ok (.iload_n 2, 1) := by decide +kernel
theorem dX4_layOut_16 : decode cX4_layOut 16 = .ok (.aload_n 1, 1) := by decide +kernel
theorem dX4_layOut_17 : decode cX4_layOut 17 = .ok (.getfield 91, 3) := by decide +kernel
theorem dX4_layOut_20 : decode cX4_layOut 20 = .ok (.if_icmp .ge 23, 3) := by decide +kernel
theorem dX4_layOut_23 : decode cX4_layOut 23 = .ok (.aload_n 0, 1) := by decide +kernel
theorem dX4_layOut_24 : decode cX4_layOut 24 = .ok (.aload_n 1, 1) := by decide +kernel
theorem dX4_layOut_25 : decode cX4_layOut 25 = .ok (.iload_n 2, 1) := by decide +kernel
theorem dX4_layOut_26 : decode cX4_layOut 26 = .ok (.invokevirtual 96, 3) := by decide +kernel
theorem dX4_layOut_29 : decode cX4_layOut 29 = .ok (.iload_n 2, 1) := by decide +kernel
theorem dX4_layOut_30 : decode cX4_layOut 30 = .ok (.aload_n 1, 1) := by decide +kernel
theorem dX4_layOut_31 : decode cX4_layOut 31 = .ok (.iload_n 2, 1) := by decide +kernel
theorem dX4_layOut_32 : decode cX4_layOut 32 = .ok (.invokevirtual 100, 3) := by decide +kernel
theorem dX4_layOut_35 : decode cX4_layOut 35 = .ok (.iadd, 1) := by decide +kernel
theorem dX4_layOut_36 : decode cX4_layOut 36 = .ok (.istore_n 2, 1) := by decide +kernel
theorem dX4_layOut_37 : decode cX4_layOut 37 = .ok (.iinc 3 1, 3) := by decide +kernel
theorem dX4_layOut_40 : decode cX4_layOut 40 = .ok (.goto (-32), 3) := by decide +kernel
theorem dX4_layOut_43 : decode cX4_layOut 43 = .ok (.return_, 1) := by decide +kernel
set_option maxRecDepth 20000 in
theorem ggX4_layItem_X6_letterAt : GoodIn wsX4_layItem wsX6_letterAt := goodIn_r _ [11, 12, 13, 51, 52] (by decide +kernel) (by decide +kernel)
set_option maxRecDepth 20000 in
theorem gX4_layItem_X6_letterAt : GoodIn wsX4_layItem (wsV RX4 104 RX6 yX6_letterAt wsX6_letterAt) := goodIn_app (goodIn_of _ (by decide +kernel)) ggX4_layItem_X6_letterAt
set_option maxRecDepth 20000 in
theorem ggX4_layItem_X4_addLink : GoodIn wsX4_layItem wsX4_addLink := goodIn_r _ [18, 1, 19, 3, 20, 21, 22, 23, 24, 25, 26, 27, 28, 10, 29, 30, 8, 9, 11, 12, 13, 31, 32, 33, 34, 35, 36, 37, 38, 39, 40, 41, 42, 43, 44, 45, 46, 47, 48, 49, 50, 51, 52, 53, 54, 55, 56, 57, 58, 59, 60, 61, 62, 63] (by decide +kernel) (by decide +kernel)
set_option maxRecDepth 20000 in
theorem gX4_layItem_X4_addLink : GoodIn wsX4_layItem (wsV RX4 107 RX4 yX4_addLink wsX4_addLink) := goodIn_app (goodIn_of _ (by decide +kernel)) ggX4_layItem_X4_addLink
set_option maxRecDepth 20000 in
theorem ggX4_layItem_X6_number : GoodIn wsX4_layItem wsX6_number := goodIn_r _ [29, 30, 8, 9, 10, 11, 12, 13, 51, 52] (by decide +kernel) (by decide +kernel)
set_option maxRecDepth 20000 in
theorem gX4_layItem_X6_number : GoodIn wsX4_layItem (wsV RX4 110 RX6 yX6_number wsX6_number) := goodIn_app (goodIn_of _ (by decide +kernel)) ggX4_layItem_X6_number
theorem dX4_layItem_0 : decode cX4_layItem 0 = .ok (.aload_n 1, 1) := by decide +kernel
theorem dX4_layItem_1 : decode cX4_layItem 1 = .ok (.iload_n 2, 1) := by decide +kernel
theorem dX4_layItem_2 : decode cX4_layItem 2 = .ok (.invokevirtual 104, 3) := by decide +kernel
theorem dX4_layItem_5 : decode cX4_layItem 5 = .ok (.lookupswitch 106 #[(108, 35), (109, 73), (120, 44)], 35) := by decide +kernel
theorem dX4_layItem_40 : decode cX4_layItem 40 = .ok (.aload_n 0, 1) := by decide +kernel
theorem dX4_layItem_41 : decode cX4_layItem 41 = .ok (.aload_n 1, 1) := by decide +kernel
theorem dX4_layItem_42 : decode cX4_layItem 42 = .ok (.iload_n 2, 1) := by decide +kernel
theorem dX4_layItem_43 : decode cX4_layItem 43 = .ok (.invokevirtual 107, 3) := by decide +kernel
theorem dX4_layItem_46 : decode cX4_layItem 46 = .ok (.goto 65, 3) := by decide +kernel
theorem dX4_layItem_49 : decode cX4_layItem 49 = .ok (.aload_n 0, 1) := by decide +kernel
theorem dX4_layItem_50 : decode cX4_layItem 50 = .ok (.getfield 14, 3) := by decide +kernel
theorem dX4_layItem_53 : decode cX4_layItem 53 = .ok (.aload_n 1, 1) := by decide +kernel
theorem dX4_layItem_54 : decode cX4_layItem 54 = .ok (.iload_n 2, 1) := by decide +kernel
theorem dX4_layItem_55 : decode cX4_layItem 55 = .ok (.iconst 0, 1) := by decide +kernel
theorem dX4_layItem_56 : decode cX4_layItem 56 = .ok (.invokevirtual 110, 3) := by decide +kernel
theorem dX4_layItem_59 : decode cX4_layItem 59 = .ok (.putfield 72, 3) := by decide +kernel
theorem dX4_layItem_62 : decode cX4_layItem 62 = .ok (.aload_n 0, 1) := by decide +kernel
theorem dX4_layItem_63 : decode cX4_layItem 63 = .ok (.getfield 20, 3) := by decide +kernel
theorem dX4_layItem_66 : decode cX4_layItem 66 = .ok (.aload_n 1, 1) := by decide +kernel
theorem dX4_layItem_67 : decode cX4_layItem 67 = .ok (.iload_n 2, 1) := by decide +kernel
theorem dX4_layItem_68 : decode cX4_layItem 68 = .ok (.iconst 1, 1) := by decide +kernel
theorem dX4_layItem_69 : decode cX4_layItem 69 = .ok (.invokevirtual 110, 3) := by decide +kernel
theorem dX4_layItem_72 : decode cX4_layItem 72 = .ok (.putfield 72, 3) := by decide +kernel
theorem dX4_layItem_75 : decode cX4_layItem 75 = .ok (.goto 36, 3) := by decide +kernel
theorem dX4_layItem_78 : decode cX4_layItem 78 = .ok (.aload_n 0, 1) := by decide +kernel
theorem dX4_layItem_79 : decode cX4_layItem 79 = .ok (.aload_n 1, 1) := by decide +kernel
theorem dX4_layItem_80 : decode cX4_layItem 80 = .ok (.iload_n 2, 1) := by decide +kernel
theorem dX4_layItem_81 : decode cX4_layItem 81 = .ok (.iconst 0, 1) := by decide +kernel
theorem dX4_layItem_82 : decode cX4_layItem 82 = .ok (.invokevirtual 110, 3) := by decide +kernel
theorem dX4_layItem_85 : decode cX4_layItem 85 = .ok (.putfield 30, 3) := by decide +kernel
theorem dX4_layItem_88 : decode cX4_layItem 88 = .ok (.aload_n 0, 1) := by decide +kernel
theorem dX4_layItem_89 : decode cX4_layItem 89 = .ok (.aload_n 1, 1) := by decide +kernel
theorem dX4_layItem_90 : decode cX4_layItem 90 = .ok (.iload_n 2, 1) := by decide +kernel
theorem dX4_layItem_91 : decode cX4_layItem 91 = .ok (.iconst 1, 1) := by decide +kernel
theorem dX4_layItem_92 : decode cX4_layItem 92 = .ok (.invokevirtual 110, 3) := by decide +kernel
theorem dX4_layItem_95 : decode cX4_layItem 95 = .ok (.putfield 33, 3) := by decide +kernel
theorem dX4_layItem_98 : decode cX4_layItem 98 = .ok (.aload_n 0, 1) := by decide +kernel
theorem dX4_layItem_99 : decode cX4_layItem 99 = .ok (.aload_n 1, 1) := by decide +kernel
theorem dX4_layItem_100 : decode cX4_layItem 100 = .ok (.iload_n 2, 1) := by decide +kernel
theorem dX4_layItem_101 : decode cX4_layItem 101 = .ok (.iconst 2, 1) := by decide +kernel
theorem dX4_layItem_102 : decode cX4_layItem 102 = .ok (.invokevirtual 110, 3) := by decide +kernel
theorem dX4_layItem_105 : decode cX4_layItem 105 = .ok (.putfield 36, 3) := by decide +kernel
theorem dX4_layItem_108 : decode cX4_layItem 108 = .ok (.goto 3, 3) := by decide +kernel
theorem dX4_layItem_111 : decode cX4_layItem 111 = .ok (.return_, 1) := by decide +kernel
set_option maxRecDepth 20000 in
theorem ggX4_addLink_X0_portAt : GoodIn wsX4_addLink wsX0_portAt := goodIn_r _ [8, 9, 37, 38, 39, 40] (by decide +kernel) (by decide +kernel)
set_option maxRecDepth 20000 in
theorem gX4_addLink_X0_portAt : GoodIn wsX4_addLink (wsV RX4 54 RX0 yX0_portAt wsX0_portAt) := goodIn_app (goodIn_of _ (by decide +kernel)) ggX4_addLink_X0_portAt
set_option maxRecDepth 20000 in
theorem ggX4_addLink_X6_number : GoodIn wsX4_addLink wsX6_number := goodIn_r _ [14, 15, 16, 17, 13, 18, 19, 20, 41, 42] (by decide +kernel) (by decide +kernel)
set_option maxRecDepth 20000 in
theorem gX4_addLink_X6_number : GoodIn wsX4_addLink (wsV RX4 110 RX6 yX6_number wsX6_number) := goodIn_app (goodIn_of _ (by decide +kernel)) ggX4_addLink_X6_number
set_option maxRecDepth 20000 in
theorem ggX4_addLink_X5_begin : GoodIn wsX4_addLink wsX5_begin := goodIn_r _ [25, 26, 27, 28, 29, 43, 44, 45, 46, 47, 48, 49, 50, 51, 52, 53] (by decide +kernel) (by decide +kernel)
set_option maxRecDepth 20000 in
theorem gX4_addLink_X5_begin : GoodIn wsX4_addLink (wsV RX4 114 RX5 yX5_begin wsX5_begin) := goodIn_app (goodIn_of _ (by decide +kernel)) ggX4_addLink_X5_begin
theorem dX4_addLink_0 : decode cX4_addLink 0 = .ok (.aload_n 0, 1) := by decide +kernel
theorem dX4_addLink_1 : decode cX4_addLink 1 = .ok (.getfield 14, 3) := by decide +kernel
theorem dX4_addLink_4 : decode cX4_addLink 4 = .ok (.aload_n 0, 1) := by decide +kernel
theorem dX4_addLink_5 : decode cX4_addLink 5 = .ok (.getfield 26, 3) := by decide +kernel
theorem dX4_addLink_8 : decode cX4_addLink 8 = .ok (.invokevirtual 54, 3) := by decide +kernel
theorem dX4_addLink_11 : decode cX4_addLink 11 = .ok (.astore_n 3, 1) := by decide +kernel
theorem dX4_addLink_12 : decode cX4_addLink 12 = .ok (.aload_n 0, 1) := by decide +kernel
theorem dX4_addLink_13 : decode cX4_addLink 13 = .ok (.getfield 20, 3) := by decide +kernel
theorem dX4_addLink_16 : decode cX4_addLink 16 = .ok (.aload_n 0, 1) := by decide +kernel
theorem dX4_addLink_17 : decode cX4_addLink 17 = .ok (.getfield 26, 3) := by decide +kernel
theorem dX4_addLink_20 : decode cX4_addLink 20 = .ok (.invokevirtual 54, 3) := by decide +kernel
theorem dX4_addLink_23 : decode cX4_addLink 23 = .ok (.astore 4, 2) := by decide +kernel
theorem dX4_addLink_25 : decode cX4_addLink 25 = .ok (.aload_n 3, 1) := by decide +kernel
theorem dX4_addLink_26 : decode cX4_addLink 26 = .ok (.ifnull 51, 3) := by decide +kernel
theorem dX4_addLink_29 : decode cX4_addLink 29 = .ok (.aload 4, 2) := by decide +kernel
theorem dX4_addLink_31 : decode cX4_addLink 31 = .ok (.ifnull 46, 3) := by decide +kernel
theorem dX4_addLink_34 : decode cX4_addLink 34 = .ok (.aload_n 3, 1) := by decide +kernel
theorem dX4_addLink_35 : decode cX4_addLink 35 = .ok (.aload_n 1, 1) := by decide +kernel
theorem dX4_addLink_36 : decode cX4_addLink 36 = .ok (.iload_n 2, 1) := by decide +kernel
theorem dX4_addLink_37 : decode cX4_addLink 37 = .ok (.iconst 0, 1) := by decide +kernel
theorem dX4_addLink_38 : decode cX4_addLink 38 = .ok (.invokevirtual 110, 3) := by decide +kernel
theorem dX4_addLink_41 : decode cX4_addLink 41 = .ok (.aload_n 1, 1) := by decide +kernel
theorem dX4_addLink_42 : decode cX4_addLink 42 = .ok (.iload_n 2, 1) := by decide +kernel
theorem dX4_addLink_43 : decode cX4_addLink 43 = .ok (.iconst 1, 1) := by decide +kernel
theorem dX4_addLink_44 : decode cX4_addLink 44 = .ok (.invokevirtual 110, 3) := by decide +kernel
theorem dX4_addLink_47 : decode cX4_addLink 47 = .ok (.invokevirtual 114, 3) := by decide +kernel
theorem dX4_addLink_50 : decode cX4_addLink 50 = .ok (.aload 4, 2) := by decide +kernel
theorem dX4_addLink_52 : decode cX4_addLink 52 = .ok (.aload_n 1, 1) := by decide +kernel
theorem dX4_addLink_53 : decode cX4_addLink 53 = .ok (.iload_n 2, 1) := by decide +kernel
theorem dX4_addLink_54 : decode cX4_addLink 54 = .ok (.iconst 2, 1) := by decide +kernel
theorem dX4_addLink_55 : decode cX4_addLink 55 = .ok (.invokevirtual 110, 3) := by decide +kernel
theorem dX4_addLink_58 : decode cX4_addLink 58 = .ok (.aload_n 1, 1) := by decide +kernel
theorem dX4_addLink_59 : decode cX4_addLink 59 = .ok (.iload_n 2, 1) := by decide +kernel
theorem dX4_addLink_60 : decode cX4_addLink 60 = .ok (.iconst 3, 1) := by decide +kernel
theorem dX4_addLink_61 : decode cX4_addLink 61 = .ok (.invokevirtual 110, 3) := by decide +kernel
theorem dX4_addLink_64 : decode cX4_addLink 64 = .ok (.invokevirtual 114, 3) := by decide +kernel
theorem dX4_addLink_67 : decode cX4_addLink 67 = .ok (.aload_n 0, 1) := by decide +kernel
theorem dX4_addLink_68 : decode cX4_addLink 68 = .ok (.dup, 1) := by decide +kernel
theorem dX4_addLink_69 : decode cX4_addLink 69 = .ok (.getfield 26, 3) := by decide +kernel
theorem dX4_addLink_72 : decode cX4_addLink 72 = .ok (.iconst 1, 1) := by decide +kernel
theorem dX4_addLink_73 : decode cX4_addLink 73 = .ok (.iadd, 1) := by decide +kernel
theorem dX4_addLink_74 : decode cX4_addLink 74 = .ok (.putfield 26, 3) := by decide +kernel
theorem dX4_addLink_77 : decode cX4_addLink 77 = .ok (.return_, 1) := by decide +kernel
set_option maxRecDepth 20000 in
theorem ggX5_init_X3_init : GoodIn wsX5_init wsX3_init := goodIn_r _ [10, 11, 2, 3] (by decide +kernel) (by decide +kernel)
set_option maxRecDepth 20000 in
theorem gX5_init_X3_init_n11 : GoodIn wsX5_init (wsX3_init) := ggX5_init_X3_init
theorem dX5_init_0 : decode cX5_init 0 = .ok (.aload_n 0, 1) := by decide +kernel
theorem dX5_init_1 : decode cX5_init 1 = .ok (.invokespecial 3, 3) := by decide +kernel
theorem dX5_init_4 : decode cX5_init 4 = .ok (.aload_n 0, 1) := by decide +kernel
theorem dX5_init_5 : decode cX5_init 5 = .ok (.new 9, 3) := by decide +kernel
theorem dX5_init_8 : decode cX5_init 8 = .ok (.dup, 1) := by decide +kernel
theorem dX5_init_9 : decode cX5_init 9 = .ok (.invokespecial 11, 3) := by decide +kernel
theorem dX5_init_12 : decode cX5_init 12 = .ok (.putfield 12, 3) := by decide +kernel
theorem dX5_init_15 : decode cX5_init 15 = .ok (.aload_n 0, 1) := by decide +kernel
theorem dX5_init_16 : decode cX5_init 16 = .ok (.new 9, 3) := by decide +kernel
theorem dX5_init_19 : decode cX5_init 19 = .ok (.dup, 1) := by decide +kernel
theorem dX5_init_20 : decode cX5_init 20 = .ok (.invokespecial 11, 3) := by decide +kernel
theorem dX5_init_23 : decode cX5_init 23 = .ok (.putfield 18, 3) := by decide +kernel
theorem dX5_init_26 : decode cX5_init 26 = .ok (.return_, 1) := by decide +kernel
set_option maxRecDepth 20000 in
theorem ggX5_clear_X3_clear : GoodIn wsX5_clear wsX3_clear := goodIn_r _ [16, 17, 18, 19, 20, 21, 33, 34, 35, 36, 37] (by decide +kernel) (by decide +kernel)
set_option maxRecDepth 20000 in
theorem gX5_clear_X3_clear : GoodIn wsX5_clear (wsV RX5 35 RX3 yX3_clear wsX3_clear) := goodIn_app (goodIn_of _ (by decide +kernel)) ggX5_clear_X3_clear
theorem dX5_clear_0 : decode cX5_clear 0 = .ok (.aload_n 0, 1) := by decide +kernel
theorem dX5_clear_1 : decode cX5_clear 1 = .ok (.iconst 0, 1) := by decide +kernel
theorem dX5_clear_2 : decode cX5_clear 2 = .ok (.putfield 21, 3) := by decide +kernel
theorem dX5_clear_5 : decode cX5_clear 5 = .ok (.aload_n 0, 1) := by decide +kernel
theorem dX5_clear_6 : decode cX5_clear 6 = .ok (.iconst 0, 1) := by decide +kernel
theorem dX5_clear_7 : decode cX5_clear 7 = .ok (.putfield 25, 3) := by decide +kernel
theorem dX5_clear_10 : decode cX5_clear 10 = .ok (.aload_n 0, 1) := by decide +kernel
theorem dX5_clear_11 : decode cX5_clear 11 = .ok (.iconst 0, 1) := by decide +kernel
theorem dX5_clear_12 : decode cX5_clear 12 = .ok (.putfield 28, 3) := by decide +kernel
theorem dX5_clear_15 : decode cX5_clear 15 = .ok (.aload_n 0, 1) := by decide +kernel
theorem dX5_clear_16 : decode cX5_clear 16 = .ok (.iconst 0, 1) := by decide +kernel
theorem dX5_clear_17 : decode cX5_clear 17 = .ok (.putfield 32, 3) := by decide +kernel
theorem dX5_clear_20 : decode cX5_clear 20 = .ok (.aload_n 0, 1) := by decide +kernel
theorem dX5_clear_21 : decode cX5_clear 21 = .ok (.getfield 12, 3) := by decide +kernel
theorem dX5_clear_24 : decode cX5_clear 24 = .ok (.invokevirtual 35, 3) := by decide +kernel
theorem dX5_clear_27 : decode cX5_clear 27 = .ok (.aload_n 0, 1) := by decide +kernel
theorem dX5_clear_28 : decode cX5_clear 28 = .ok (.getfield 18, 3) := by decide +kernel
theorem dX5_clear_31 : decode cX5_clear 31 = .ok (.invokevirtual 35, 3) := by decide +kernel
theorem dX5_clear_34 : decode cX5_clear 34 = .ok (.aload_n 0, 1) := by decide +kernel
theorem dX5_clear_35 : decode cX5_clear 35 = .ok (.iconst 0, 1) := by decide +kernel
theorem dX5_clear_36 : decode cX5_clear 36 = .ok (.putfield 38, 3) := by decide +kernel
theorem dX5_clear_39 : decode cX5_clear 39 = .ok (.aload_n 0, 1) := by decide +kernel
theorem dX5_clear_40 : decode cX5_clear 40 = .ok (.iconst 0, 1) := by decide +kernel
theorem dX5_clear_41 : decode cX5_clear 41 = .ok (.putfield 41, 3) := by decide +kernel
theorem dX5_clear_44 : decode cX5_clear 44 = .ok (.aload_n 0, 1) := by decide +kernel
theorem dX5_clear_45 : decode cX5_clear 45 = .ok (.iconst 0, 1) := by decide +kernel
theorem dX5_clear_46 : decode cX5_clear 46 = .ok (.putfield 44, 3) := by decide +kernel
theorem dX5_clear_49 : decode cX5_clear 49 = .ok (.aload_n 0, 1) := by decide +kernel
theorem dX5_clear_50 : decode cX5_clear 50 = .ok (.iconst (-1), 1) := by decide +kernel
theorem dX5_clear_51 : decode cX5_clear 51 = .ok (.putfield 47, 3) := by decide +kernel
theorem dX5_clear_54 : decode cX5_clear 54 = .ok (.aload_n 0, 1) := by decide +kernel
theorem dX5_clear_55 : decode cX5_clear 55 = .ok (.iconst 0, 1) := by decide +kernel
theorem dX5_clear_56 : decode cX5_clear 56 = .ok (.putfield 50, 3) := by decide +kernel
theorem dX5_clear_59 : decode cX5_clear 59 = .ok (.return_, 1) := by decide +kernel
theorem dX5_begin_0 : decode cX5_begin 0 = .ok (.aload_n 0, 1) := by decide +kernel
theorem dX5_begin_1 : decode cX5_begin 1 = .ok (.iconst 1, 1) := by decide +kernel
theorem dX5_begin_2 : decode cX5_begin 2 = .ok (.putfield 21, 3) := by decide +kernel
theorem dX5_begin_5 : decode cX5_begin 5 = .ok (.aload_n 0, 1) := by decide +kernel
theorem dX5_begin_6 : decode cX5_begin 6 = .ok (.iconst 1, 1) := by decide +kernel
theorem dX5_begin_7 : decode cX5_begin 7 = .ok (.putfield 41, 3) := by decide +kernel
theorem dX5_begin_10 : decode cX5_begin 10 = .ok (.aload_n 0, 1) := by decide +kernel
theorem dX5_begin_11 : decode cX5_begin 11 = .ok (.iload_n 1, 1) := by decide +kernel
theorem dX5_begin_12 : decode cX5_begin 12 = .ok (.putfield 28, 3) := by decide +kernel
theorem dX5_begin_15 : decode cX5_begin 15 = .ok (.aload_n 0, 1) := by decide +kernel
theorem dX5_begin_16 : decode cX5_begin 16 = .ok (.iload_n 2, 1) := by decide +kernel
theorem dX5_begin_17 : decode cX5_begin 17 = .ok (.putfield 32, 3) := by decide +kernel
theorem dX5_begin_20 : decode cX5_begin 20 = .ok (.return_, 1) := by decide +kernel
set_option maxRecDepth 20000 in
theorem ggX5_copyFrom_X3_copyFrom : GoodIn wsX5_copyFrom wsX3_copyFrom := goodIn_r _ [16, 17, 18, 19, 20, 21, 33, 34, 35, 36, 37] (by decide +kernel) (by decide +kernel)
set_option maxRecDepth 20000 in
theorem gX5_copyFrom_X3_copyFrom : GoodIn wsX5_copyFrom (wsV RX5 53 RX3 yX3_copyFrom wsX3_copyFrom) := goodIn_app (goodIn_of _ (by decide +kernel)) ggX5_copyFrom_X3_copyFrom
theorem dX5_copyFrom_0 : decode cX5_copyFrom 0 = .ok (.aload_n 0, 1) := by decide +kernel
theorem dX5_copyFrom_1 : decode cX5_copyFrom 1 = .ok (.aload_n 1, 1) := by decide +kernel
theorem dX5_copyFrom_2 : decode cX5_copyFrom 2 = .ok (.getfield 21, 3) := by decide +kernel
theorem dX5_copyFrom_5 : decode cX5_copyFrom 5 = .ok (.putfield 21, 3) := by decide +kernel
theorem dX5_copyFrom_8 : decode cX5_copyFrom 8 = .ok (.aload_n 0, 1) := by decide +kernel
theorem dX5_copyFrom_9 : decode cX5_copyFrom 9 = .ok (.aload_n 1, 1) := by decide +kernel
theorem dX5_copyFrom_10 : decode cX5_copyFrom 10 = .ok (.getfield 25, 3) := by decide +kernel
theorem dX5_copyFrom_13 : decode cX5_copyFrom 13 = .ok (.putfield 25, 3) := by decide +kernel
theorem dX5_copyFrom_16 : decode cX5_copyFrom 16 = .ok (.aload_n 0, 1) := by decide +kernel
theorem dX5_copyFrom_17 : decode cX5_copyFrom 17 = .ok (.aload_n 1, 1) := by decide +kernel
theorem dX5_copyFrom_18 : decode cX5_copyFrom 18 = .ok (.getfield 28, 3) := by decide +kernel
theorem dX5_copyFrom_21 : decode cX5_copyFrom 21 = .ok (.putfield 28, 3) := by decide +kernel
theorem dX5_copyFrom_24 : decode cX5_copyFrom 24 = .ok (.aload_n 0, 1) := by decide +kernel
theorem dX5_copyFrom_25 : decode cX5_copyFrom 25 = .ok (.aload_n 1, 1) := by decide +kernel
theorem dX5_copyFrom_26 : decode cX5_copyFrom 26 = .ok (.getfield 32, 3) := by decide +kernel
theorem dX5_copyFrom_29 : decode cX5_copyFrom 29 = .ok (.putfield 32, 3) := by decide +kernel
theorem dX5_copyFrom_32 : decode cX5_copyFrom 32 = .ok (.aload_n 0, 1) := by decide +kernel
theorem dX5_copyFrom_33 : decode cX5_copyFrom 33 = .ok (.getfield 12, 3) := by decide +kernel
theorem dX5_copyFrom_36 : decode cX5_copyFrom 36 = .ok (.aload_n 1, 1) := by decide +kernel
theorem dX5_copyFrom_37 : decode cX5_copyFrom 37 = .ok (.getfield 12, 3) := by decide +kernel
theorem dX5_copyFrom_40 : decode cX5_copyFrom 40 = .ok (.invokevirtual 53, 3) := by decide +kernel
theorem dX5_copyFrom_43 : decode cX5_copyFrom 43 = .ok (.aload_n 0, 1) := by decide +kernel
theorem dX5_copyFrom_44 : decode cX5_copyFrom 44 = .ok (.getfield 18, 3) := by decide +kernel
theorem dX5_copyFrom_47 : decode cX5_copyFrom 47 = .ok (.aload_n 1, 1) := by decide +kernel
theorem dX5_copyFrom_48 : decode cX5_copyFrom 48 = .ok (.getfield 18, 3) := by decide +kernel
theorem dX5_copyFrom_51 : decode cX5_copyFrom 51 = .ok (.invokevirtual 53, 3) := by decide +kernel
theorem dX5_copyFrom_54 : decode cX5_copyFrom 54 = .ok (.aload_n 0, 1) := by decide +kernel
theorem dX5_copyFrom_55 : decode cX5_copyFrom 55 = .ok (.aload_n 1, 1) := by decide +kernel
theorem dX5_copyFrom_56 : decode cX5_copyFrom 56 = .ok (.getfield 38, 3) := by decide +kernel
theorem dX5_copyFrom_59 : decode cX5_copyFrom 59 = .ok (.putfield 38, 3) := by decide +kernel
theorem dX5_copyFrom_62 : decode cX5_copyFrom 62 = .ok (.aload_n 0, 1) := by decide +kernel
theorem dX5_copyFrom_63 : decode cX5_copyFrom 63 = .ok (.aload_n 1, 1) := by decide +kernel
theorem dX5_copyFrom_64 : decode cX5_copyFrom 64 = .ok (.getfield 41, 3) := by decide +kernel
theorem dX5_copyFrom_67 : decode cX5_copyFrom 67 = .ok (.putfield 41, 3) := by decide +kernel
theorem dX5_copyFrom_70 : decode cX5_copyFrom 70 = .ok (.aload_n 0, 1) := by decide +kernel
theorem dX5_copyFrom_71 : decode cX5_copyFrom 71 = .ok (.aload_n 1, 1) := by decide +kernel
theorem dX5_copyFrom_72 : decode cX5_copyFrom 72 = .ok (.getfield 44, 3) := by decide +kernel
theorem dX5_copyFrom_75 : decode cX5_copyFrom 75 = .ok (.putfield 44, 3) := by decide +kernel
theorem dX5_copyFrom_78 : decode cX5_copyFrom 78 = .ok (.aload_n 0, 1) := by decide +kernel
theorem dX5_copyFrom_79 : decode cX5_copyFrom 79 = .ok (.aload_n 1, 1) := by decide +kernel
theorem dX5_copyFrom_80 : decode cX5_copyFrom 80 = .ok (.getfield 47, 3) := by decide +kernel
theorem dX5_copyFrom_83 : decode cX5_copyFrom 83 = .ok (.putfield 47, 3) := by decide +kernel
theorem dX5_copyFrom_86 : decode cX5_copyFrom 86 = .ok (.aload_n 0, 1) := by decide +kernel
theorem dX5_copyFrom_87 : decode cX5_copyFrom 87 = .ok (.aload_n 1, 1) := by decide +kernel
theorem dX5_copyFrom_88 : decode cX5_copyFrom 88 = .ok (.getfield 50, 3) := by decide +kernel
theorem dX5_copyFrom_91 : decode cX5_copyFrom 91 = .ok (.putfield 50, 3) := by decide +kernel
theorem dX5_copyFrom_94 : decode cX5_copyFrom 94 = .ok (.return_, 1) := by decide +kernel
set_option maxRecDepth 20000 in
theorem ggX5_hear_X3_copyFrom : GoodIn wsX5_hear wsX3_copyFrom := goodIn_r _ [9, 10, 11, 12, 13, 14, 26, 27, 28, 29, 30] (by decide +kernel) (by decide +kernel)
set_option maxRecDepth 20000 in
theorem gX5_hear_X3_copyFrom : GoodIn wsX5_hear (wsV RX5 53 RX3 yX3_copyFrom wsX3_copyFrom) := goodIn_app (goodIn_of _ (by decide +kernel)) ggX5_hear_X3_copyFrom
theorem dX5_hear_0 : decode cX5_hear 0 = .ok (.aload_n 0, 1) := by decide +kernel
theorem dX5_hear_1 : decode cX5_hear 1 = .ok (.getfield 21, 3) := by decide +kernel
theorem dX5_hear_4 : decode cX5_hear 4 = .ok (.ifCond .ne 14, 3) := by decide +kernel
theorem dX5_hear_7 : decode cX5_hear 7 = .ok (.aload_n 0, 1) := by decide +kernel
theorem dX5_hear_8 : decode cX5_hear 8 = .ok (.getfield 12, 3) := by decide +kernel
theorem dX5_hear_11 : decode cX5_hear 11 = .ok (.iconst 0, 1) := by decide +kernel
theorem dX5_hear_12 : decode cX5_hear 12 = .ok (.putfield 57, 3) := by decide +kernel
theorem dX5_hear_15 : decode cX5_hear 15 = .ok (.goto 66, 3) := by decide +kernel
theorem dX5_hear_18 : decode cX5_hear 18 = .ok (.aload_n 1, 1) := by decide +kernel
theorem dX5_hear_19 : decode cX5_hear 19 = .ok (.getfield 57, 3) := by decide +kernel
theorem dX5_hear_22 : decode cX5_hear 22 = .ok (.ifCond .eq 19, 3) := by decide +kernel
theorem dX5_hear_25 : decode cX5_hear 25 = .ok (.aload_n 0, 1) := by decide +kernel
theorem dX5_hear_26 : decode cX5_hear 26 = .ok (.getfield 12, 3) := by decide +kernel
theorem dX5_hear_29 : decode cX5_hear 29 = .ok (.aload_n 1, 1) := by decide +kernel
theorem dX5_hear_30 : decode cX5_hear 30 = .ok (.invokevirtual 53, 3) := by decide +kernel
theorem dX5_hear_33 : decode cX5_hear 33 = .ok (.aload_n 0, 1) := by decide +kernel
theorem dX5_hear_34 : decode cX5_hear 34 = .ok (.iconst 0, 1) := by decide +kernel
theorem dX5_hear_35 : decode cX5_hear 35 = .ok (.putfield 38, 3) := by decide +kernel
theorem dX5_hear_38 : decode cX5_hear 38 = .ok (.goto 43, 3) := by decide +kernel
theorem dX5_hear_41 : decode cX5_hear 41 = .ok (.aload_n 0, 1) := by decide +kernel
theorem dX5_hear_42 : decode cX5_hear 42 = .ok (.getfield 12, 3) := by decide +kernel
theorem dX5_hear_45 : decode cX5_hear 45 = .ok (.getfield 57, 3) := by decide +kernel
theorem dX5_hear_48 : decode cX5_hear 48 = .ok (.ifCond .eq 33, 3) := by decide +kernel
theorem dX5_hear_51 : decode cX5_hear 51 = .ok (.aload_n 0, 1) := by decide +kernel
theorem dX5_hear_52 : decode cX5_hear 52 = .ok (.dup, 1) := by decide +kernel
theorem dX5_hear_53 : decode cX5_hear 53 = .ok (.getfield 38, 3) := by decide +kernel
theorem dX5_hear_56 : decode cX5_hear 56 = .ok (.iconst 1, 1) := by decide +kernel
theorem dX5_hear_57 : decode cX5_hear 57 = .ok (.iadd, 1) := by decide +kernel
theorem dX5_hear_58 : decode cX5_hear 58 = .ok (.putfield 38, 3) := by decide +kernel
theorem dX5_hear_61 : decode cX5_hear 61 = .ok (.aload_n 0, 1) := by decide +kernel
theorem dX5_hear_62 : decode cX5_hear 62 = .ok (.getfield 12, 3) := by decide +kernel
theorem dX5_hear_65 : decode cX5_hear 65 = .ok (.aload_n 0, 1) := by decide +kernel
theorem dX5_hear_66 : decode cX5_hear 66 = .ok (.getfield 38, 3) := by decide +kernel
theorem dX5_hear_69 : decode cX5_hear 69 = .ok (.iconst 3, 1) := by decide +kernel
theorem dX5_hear_70 : decode cX5_hear 70 = .ok (.if_icmp .ge 7, 3) := by decide +kernel
theorem dX5_hear_73 : decode cX5_hear 73 = .ok (.iconst 1, 1) := by decide +kernel
theorem dX5_hear_74 : decode cX5_hear 74 = .ok (.goto 4, 3) := by decide +kernel
theorem dX5_hear_77 : decode cX5_hear 77 = .ok (.iconst 0, 1) := by decide +kernel
theorem dX5_hear_78 : decode cX5_hear 78 = .ok (.putfield 57, 3) := by decide +kernel
theorem dX5_hear_81 : decode cX5_hear 81 = .ok (.return_, 1) := by decide +kernel
theorem dX5_priorityBy_0 : decode cX5_priorityBy 0 = .ok (.iload_n 1, 1) := by decide +kernel
theorem dX5_priorityBy_1 : decode cX5_priorityBy 1 = .ok (.ifCond .eq 10, 3) := by decide +kernel
theorem dX5_priorityBy_4 : decode cX5_priorityBy 4 = .ok (.aload_n 0, 1) := by decide +kernel
theorem dX5_priorityBy_5 : decode cX5_priorityBy 5 = .ok (.getfield 32, 3) := by decide +kernel
theorem dX5_priorityBy_8 : decode cX5_priorityBy 8 = .ok (.goto 10, 3) := by decide +kernel
theorem dX5_priorityBy_11 : decode cX5_priorityBy 11 = .ok (.aload_n 0, 1) := by decide +kernel
theorem dX5_priorityBy_12 : decode cX5_priorityBy 12 = .ok (.getfield 12, 3) := by decide +kernel
theorem dX5_priorityBy_15 : decode cX5_priorityBy 15 = .ok (.getfield 60, 3) := by decide +kernel
theorem dX5_priorityBy_18 : decode cX5_priorityBy 18 = .ok (.ireturn, 1) := by decide +kernel
theorem dX5_hasPairOf_0 : decode cX5_hasPairOf 0 = .ok (.aload_n 0, 1) := by decide +kernel
theorem dX5_hasPairOf_1 : decode cX5_hasPairOf 1 = .ok (.getfield 28, 3) := by decide +kernel
theorem dX5_hasPairOf_4 : decode cX5_hasPairOf 4 = .ok (.aload_n 1, 1) := by decide +kernel
theorem dX5_hasPairOf_5 : decode cX5_hasPairOf 5 = .ok (.getfield 28, 3) := by decide +kernel
theorem dX5_hasPairOf_8 : decode cX5_hasPairOf 8 = .ok (.if_icmp .ne 24, 3) := by decide +kernel
theorem dX5_hasPairOf_11 : decode cX5_hasPairOf 11 = .ok (.aload_n 0, 1) := by decide +kernel
theorem dX5_hasPairOf_12 : decode cX5_hasPairOf 12 = .ok (.getfield 12, 3) := by decide +kernel
theorem dX5_hasPairOf_15 : decode cX5_hasPairOf 15 = .ok (.getfield 61, 3) := by decide +kernel
theorem dX5_hasPairOf_18 : decode cX5_hasPairOf 18 = .ok (.aload_n 1, 1) := by decide +kernel
theorem dX5_hasPairOf_19 : decode cX5_hasPairOf 19 = .ok (.getfield 12, 3) := by decide +kernel
theorem dX5_hasPairOf_22 : decode cX5_hasPairOf 22 = .ok (.getfield 61, 3) := by decide +kernel
theorem dX5_hasPairOf_25 : decode cX5_hasPairOf 25 = .ok (.if_icmp .ne 7, 3) := by decide +kernel
theorem dX5_hasPairOf_28 : decode cX5_hasPairOf 28 = .ok (.iconst 1, 1) := by decide +kernel
theorem dX5_hasPairOf_29 : decode cX5_hasPairOf 29 = .ok (.goto 4, 3) := by decide +kernel
theorem dX5_hasPairOf_32 : decode cX5_hasPairOf 32 = .ok (.iconst 0, 1) := by decide +kernel
theorem dX5_hasPairOf_33 : decode cX5_hasPairOf 33 = .ok (.ireturn, 1) := by decide +kernel
set_option maxRecDepth 20000 in
theorem ggX5_judge_X5_howNow : GoodIn wsX5_judge wsX5_howNow := goodIn_r _ [9, 10, 11, 12, 1, 2, 13, 14, 15, 16, 17, 18, 19, 20, 21, 22, 23, 24, 25, 26, 27, 28, 29] (by decide +kernel) (by decide +kernel)
set_option maxRecDepth 20000 in
theorem gX5_judge_X5_howNow : GoodIn wsX5_judge (wsV RX5 62 RX5 yX5_howNow wsX5_howNow) := goodIn_app (goodIn_of _ (by decide +kernel)) ggX5_judge_X5_howNow
theorem dX5_judge_0 : decode cX5_judge 0 = .ok (.aload_n 0, 1) := by decide +kernel
theorem dX5_judge_1 : decode cX5_judge 1 = .ok (.aload_n 0, 1) := by decide +kernel
theorem dX5_judge_2 : decode cX5_judge 2 = .ok (.getfield 44, 3) := by decide +kernel
theorem dX5_judge_5 : decode cX5_judge 5 = .ok (.ifCond .eq 12, 3) := by decide +kernel
theorem dX5_judge_8 : decode cX5_judge 8 = .ok (.aload_n 0, 1) := by decide +kernel
theorem dX5_judge_9 : decode cX5_judge 9 = .ok (.getfield 47, 3) := by decide +kernel
theorem dX5_judge_12 : decode cX5_judge 12 = .ok (.iconst 1, 1) := by decide +kernel
theorem dX5_judge_13 : decode cX5_judge 13 = .ok (.iadd, 1) := by decide +kernel
theorem dX5_judge_14 : decode cX5_judge 14 = .ok (.goto 4, 3) := by decide +kernel
theorem dX5_judge_17 : decode cX5_judge 17 = .ok (.iconst (-1), 1) := by decide +kernel
theorem dX5_judge_18 : decode cX5_judge 18 = .ok (.putfield 47, 3) := by decide +kernel
theorem dX5_judge_21 : decode cX5_judge 21 = .ok (.aload_n 0, 1) := by decide +kernel
theorem dX5_judge_22 : decode cX5_judge 22 = .ok (.getfield 41, 3) := by decide +kernel
theorem dX5_judge_25 : decode cX5_judge 25 = .ok (.istore_n 2, 1) := by decide +kernel
theorem dX5_judge_26 : decode cX5_judge 26 = .ok (.aload_n 0, 1) := by decide +kernel
theorem dX5_judge_27 : decode cX5_judge 27 = .ok (.aload_n 0, 1) := by decide +kernel
theorem dX5_judge_28 : decode cX5_judge 28 = .ok (.iload_n 1, 1) := by decide +kernel
theorem dX5_judge_29 : decode cX5_judge 29 = .ok (.invokevirtual 62, 3) := by decide +kernel
theorem dX5_judge_32 : decode cX5_judge 32 = .ok (.putfield 41, 3) := by decide +kernel
theorem dX5_judge_35 : decode cX5_judge 35 = .ok (.aload_n 0, 1) := by decide +kernel
theorem dX5_judge_36 : decode cX5_judge 36 = .ok (.getfield 41, 3) := by decide +kernel
theorem dX5_judge_39 : decode cX5_judge 39 = .ok (.iconst 5, 1) := by decide +kernel
theorem dX5_judge_40 : decode cX5_judge 40 = .ok (.if_icmp .ne 18, 3) := by decide +kernel
theorem dX5_judge_43 : decode cX5_judge 43 = .ok (.iload_n 2, 1) := by decide +kernel
theorem dX5_judge_44 : decode cX5_judge 44 = .ok (.iconst 5, 1) := by decide +kernel
theorem dX5_judge_45 : decode cX5_judge 45 = .ok (.if_icmp .eq 13, 3) := by decide +kernel
theorem dX5_judge_48 : decode cX5_judge 48 = .ok (.aload_n 0, 1) := by decide +kernel
theorem dX5_judge_49 : decode cX5_judge 49 = .ok (.dup, 1) := by decide +kernel
theorem dX5_judge_50 : decode cX5_judge 50 = .ok (.getfield 50, 3) := by decide +kernel
theorem dX5_judge_53 : decode cX5_judge 53 = .ok (.iconst 1, 1) := by decide +kernel
theorem dX5_judge_54 : decode cX5_judge 54 = .ok (.iadd, 1) := by decide +kernel
theorem dX5_judge_55 : decode cX5_judge 55 = .ok (.putfield 50, 3) := by decide +kernel
theorem dX5_judge_58 : decode cX5_judge 58 = .ok (.return_, 1) := by decide +kernel
theorem dX5_howNow_0 : decode cX5_howNow 0 = .ok (.aload_n 0, 1) := by decide +kernel
theorem dX5_howNow_1 : decode cX5_howNow 1 = .ok (.getfield 21, 3) := by decide +kernel
theorem dX5_howNow_4 : decode cX5_howNow 4 = .ok (.ifCond .ne 5, 3) := by decide +kernel
theorem dX5_howNow_7 : decode cX5_howNow 7 = .ok (.iconst 0, 1) := by decide +kernel
theorem dX5_howNow_8 : decode cX5_howNow 8 = .ok (.ireturn, 1) := by decide +kernel
theorem dX5_howNow_9 : decode cX5_howNow 9 = .ok (.aload_n 0, 1) := by decide +kernel
theorem dX5_howNow_10 : decode cX5_howNow 10 = .ok (.getfield 12, 3) := by decide +kernel
theorem dX5_howNow_13 : decode cX5_howNow 13 = .ok (.getfield 57, 3) := by decide +kernel
theorem dX5_howNow_16 : decode cX5_howNow 16 = .ok (.ifCond .ne 5, 3) := by decide +kernel
theorem dX5_howNow_19 : decode cX5_howNow 19 = .ok (.iconst 1, 1) := by decide +kernel
theorem dX5_howNow_20 : decode cX5_howNow 20 = .ok (.ireturn, 1) := by decide +kernel
theorem dX5_howNow_21 : decode cX5_howNow 21 = .ok (.aload_n 0, 1) := by decide +kernel
theorem dX5_howNow_22 : decode cX5_howNow 22 = .ok (.getfield 44, 3) := by decide +kernel
theorem dX5_howNow_25 : decode cX5_howNow 25 = .ok (.ifCond .ne 5, 3) := by decide +kernel
theorem dX5_howNow_28 : decode cX5_howNow 28 = .ok (.iconst 2, 1) := by decide +kernel
theorem dX5_howNow_29 : decode cX5_howNow 29 = .ok (.ireturn, 1) := by decide +kernel
theorem dX5_howNow_30 : decode cX5_howNow 30 = .ok (.aload_n 0, 1) := by decide +kernel
theorem dX5_howNow_31 : decode cX5_howNow 31 = .ok (.getfield 47, 3) := by decide +kernel
theorem dX5_howNow_34 : decode cX5_howNow 34 = .ok (.iload_n 1, 1) := by decide +kernel
theorem dX5_howNow_35 : decode cX5_howNow 35 = .ok (.if_icmp .ge 5, 3) := by decide +kernel
theorem dX5_howNow_38 : decode cX5_howNow 38 = .ok (.iconst 3, 1) := by decide +kernel
theorem dX5_howNow_39 : decode cX5_howNow 39 = .ok (.ireturn, 1) := by decide +kernel
theorem dX5_howNow_40 : decode cX5_howNow 40 = .ok (.aload_n 0, 1) := by decide +kernel
theorem dX5_howNow_41 : decode cX5_howNow 41 = .ok (.getfield 12, 3) := by decide +kernel
theorem dX5_howNow_44 : decode cX5_howNow 44 = .ok (.getfield 66, 3) := by decide +kernel
theorem dX5_howNow_47 : decode cX5_howNow 47 = .ok (.ifCond .eq 7, 3) := by decide +kernel
theorem dX5_howNow_50 : decode cX5_howNow 50 = .ok (.iconst 5, 1) := by decide +kernel
theorem dX5_howNow_51 : decode cX5_howNow 51 = .ok (.goto 4, 3) := by decide +kernel
theorem dX5_howNow_54 : decode cX5_howNow 54 = .ok (.iconst 4, 1) := by decide +kernel
theorem dX5_howNow_55 : decode cX5_howNow 55 = .ok (.ireturn, 1) := by decide +kernel
theorem dX5_say_0 : decode cX5_say 0 = .ok (.aload_n 0, 1) := by decide +kernel
theorem dX5_say_1 : decode cX5_say 1 = .ok (.getfield 18, 3) := by decide +kernel
theorem dX5_say_4 : decode cX5_say 4 = .ok (.aload_n 0, 1) := by decide +kernel
theorem dX5_say_5 : decode cX5_say 5 = .ok (.getfield 21, 3) := by decide +kernel
theorem dX5_say_8 : decode cX5_say 8 = .ok (.ifCond .eq 14, 3) := by decide +kernel
theorem dX5_say_11 : decode cX5_say 11 = .ok (.aload_n 0, 1) := by decide +kernel
theorem dX5_say_12 : decode cX5_say 12 = .ok (.getfield 25, 3) := by decide +kernel
theorem dX5_say_15 : decode cX5_say 15 = .ok (.ifCond .ne 7, 3) := by decide +kernel
theorem dX5_say_18 : decode cX5_say 18 = .ok (.iconst 1, 1) := by decide +kernel
theorem dX5_say_19 : decode cX5_say 19 = .ok (.goto 4, 3) := by decide +kernel
theorem dX5_say_22 : decode cX5_say 22 = .ok (.iconst 0, 1) := by decide +kernel
theorem dX5_say_23 : decode cX5_say 23 = .ok (.putfield 57, 3) := by decide +kernel
theorem dX5_say_26 : decode cX5_say 26 = .ok (.aload_n 0, 1) := by decide +kernel
theorem dX5_say_27 : decode cX5_say 27 = .ok (.getfield 18, 3) := by decide +kernel
theorem dX5_say_30 : decode cX5_say 30 = .ok (.aload_n 0, 1) := by decide +kernel
theorem dX5_say_31 : decode cX5_say 31 = .ok (.getfield 28, 3) := by decide +kernel
theorem dX5_say_34 : decode cX5_say 34 = .ok (.putfield 61, 3) := by decide +kernel
theorem dX5_say_37 : decode cX5_say 37 = .ok (.aload_n 0, 1) := by decide +kernel
theorem dX5_say_38 : decode cX5_say 38 = .ok (.getfield 18, 3) := by decide +kernel
theorem dX5_say_41 : decode cX5_say 41 = .ok (.aload_n 0, 1) := by decide +kernel
theorem dX5_say_42 : decode cX5_say 42 = .ok (.getfield 32, 3) := by decide +kernel
theorem dX5_say_45 : decode cX5_say 45 = .ok (.putfield 60, 3) := by decide +kernel
theorem dX5_say_48 : decode cX5_say 48 = .ok (.aload_n 0, 1) := by decide +kernel
theorem dX5_say_49 : decode cX5_say 49 = .ok (.getfield 18, 3) := by decide +kernel
theorem dX5_say_52 : decode cX5_say 52 = .ok (.iload_n 1, 1) := by decide +kernel
theorem dX5_say_53 : decode cX5_say 53 = .ok (.putfield 69, 3) := by decide +kernel
theorem dX5_say_56 : decode cX5_say 56 = .ok (.aload_n 0, 1) := by decide +kernel
theorem dX5_say_57 : decode cX5_say 57 = .ok (.getfield 18, 3) := by decide +kernel
theorem dX5_say_60 : decode cX5_say 60 = .ok (.aload_n 0, 1) := by decide +kernel
theorem dX5_say_61 : decode cX5_say 61 = .ok (.getfield 41, 3) := by decide +kernel
theorem dX5_say_64 : decode cX5_say 64 = .ok (.iconst 4, 1) := by decide +kernel
theorem dX5_say_65 : decode cX5_say 65 = .ok (.if_icmp .eq 11, 3) := by decide +kernel
theorem dX5_say_68 : decode cX5_say 68 = .ok (.aload_n 0, 1) := by decide +kernel
theorem dX5_say_69 : decode cX5_say 69 = .ok (.getfield 41, 3) := by decide +kernel
theorem dX5_say_72 : decode cX5_say 72 = .ok (.iconst 5, 1) := by decide +kernel
theorem dX5_say_73 : decode cX5_say 73 = .ok (.if_icmp .ne 7, 3) := by decide +kernel
theorem dX5_say_76 : decode cX5_say 76 = .ok (.iconst 1, 1) := by decide +kernel
theorem dX5_say_77 : decode cX5_say 77 = .ok (.goto 4, 3) := by decide +kernel
theorem dX5_say_80 : decode cX5_say 80 = .ok (.iconst 0, 1) := by decide +kernel
theorem dX5_say_81 : decode cX5_say 81 = .ok (.putfield 66, 3) := by decide +kernel
theorem dX5_say_84 : decode cX5_say 84 = .ok (.return_, 1) := by decide +kernel
set_option maxRecDepth 20000 in
theorem ggX5_look_X5_known : GoodIn wsX5_look wsX5_known := goodIn_r _ [18, 5, 19, 20, 21, 22, 23, 24, 25, 26, 27, 28, 29, 30, 31, 32, 33, 34, 35] (by decide +kernel) (by decide +kernel)
set_option maxRecDepth 20000 in
theorem gX5_look_X5_known : GoodIn wsX5_look (wsV RX5 72 RX5 yX5_known wsX5_known) := goodIn_app (goodIn_of _ (by decide +kernel)) ggX5_look_X5_known
theorem dX5_look_0 : decode cX5_look 0 = .ok (.iload_n 1, 1) := by decide +kernel
theorem dX5_look_1 : decode cX5_look 1 = .ok (.tableswitch 174 0 10 #[59, 64, 69, 74, 83, 95, 107, 119, 139, 156, 161], 59) := by decide +kernel
theorem dX5_look_60 : decode cX5_look 60 = .ok (.aload_n 0, 1) := by decide +kernel
theorem dX5_look_61 : decode cX5_look 61 = .ok (.getfield 28, 3) := by decide +kernel
theorem dX5_look_64 : decode cX5_look 64 = .ok (.ireturn, 1) := by decide +kernel
theorem dX5_look_65 : decode cX5_look 65 = .ok (.aload_n 0, 1) := by decide +kernel
theorem dX5_look_66 : decode cX5_look 66 = .ok (.getfield 32, 3) := by decide +kernel
theorem dX5_look_69 : decode cX5_look 69 = .ok (.ireturn, 1) := by decide +kernel
theorem dX5_look_70 : decode cX5_look 70 = .ok (.aload_n 0, 1) := by decide +kernel
theorem dX5_look_71 : decode cX5_look 71 = .ok (.getfield 41, 3) := by decide +kernel
theorem dX5_look_74 : decode cX5_look 74 = .ok (.ireturn, 1) := by decide +kernel
theorem dX5_look_75 : decode cX5_look 75 = .ok (.aload_n 0, 1) := by decide +kernel
theorem dX5_look_76 : decode cX5_look 76 = .ok (.aload_n 0, 1) := by decide +kernel
theorem dX5_look_77 : decode cX5_look 77 = .ok (.getfield 38, 3) := by decide +kernel
theorem dX5_look_80 : decode cX5_look 80 = .ok (.invokevirtual 72, 3) := by decide +kernel
theorem dX5_look_83 : decode cX5_look 83 = .ok (.ireturn, 1) := by decide +kernel
theorem dX5_look_84 : decode cX5_look 84 = .ok (.aload_n 0, 1) := by decide +kernel
theorem dX5_look_85 : decode cX5_look 85 = .ok (.aload_n 0, 1) := by decide +kernel
theorem dX5_look_86 : decode cX5_look 86 = .ok (.getfield 12, 3) := by decide +kernel
theorem dX5_look_89 : decode cX5_look 89 = .ok (.getfield 61, 3) := by decide +kernel
theorem dX5_look_92 : decode cX5_look 92 = .ok (.invokevirtual 72, 3) := by decide +kernel
theorem dX5_look_95 : decode cX5_look 95 = .ok (.ireturn, 1) := by decide +kernel
theorem dX5_look_96 : decode cX5_look 96 = .ok (.aload_n 0, 1) := by decide +kernel
theorem dX5_look_97 : decode cX5_look 97 = .ok (.aload_n 0, 1) := by decide +kernel
theorem dX5_look_98 : decode cX5_look 98 = .ok (.getfield 12, 3) := by decide +kernel
theorem dX5_look_101 : decode cX5_look 101 = .ok (.getfield 60, 3) := by decide +kernel
theorem dX5_look_104 : decode cX5_look 104 = .ok (.invokevirtual 72, 3) := by decide +kernel
theorem dX5_look_107 : decode cX5_look 107 = .ok (.ireturn, 1) := by decide +kernel
theorem dX5_look_108 : decode cX5_look 108 = .ok (.aload_n 0, 1) := by decide +kernel
theorem dX5_look_109 : decode cX5_look 109 = .ok (.aload_n 0, 1) := by decide +kernel
theorem dX5_look_110 : decode cX5_look 110 = .ok (.getfield 12, 3) := by decide +kernel
theorem dX5_look_113 : decode cX5_look 113 = .ok (.getfield 69, 3) := by decide +kernel
theorem dX5_look_116 : decode cX5_look 116 = .ok (.invokevirtual 72, 3) := by decide +kernel
theorem dX5_look_119 : decode cX5_look 119 = .ok (.ireturn, 1) := by decide +kernel
theorem dX5_look_120 : decode cX5_look 120 = .ok (.aload_n 0, 1) := by decide +kernel
theorem dX5_look_121 : decode cX5_look 121 = .ok (.aload_n 0, 1) := by decide +kernel
theorem dX5_look_122 : decode cX5_look 122 = .ok (.getfield 12, 3) := by decide +kernel
theorem dX5_look_125 : decode cX5_look 125 = .ok (.getfield 66, 3) := by decide +kernel
theorem dX5_look_128 : decode cX5_look 128 = .ok (.ifCond .eq 7, 3) := by decide +kernel
theorem dX5_look_131 : decode cX5_look 131 = .ok (.iconst 1, 1) := by decide +kernel
theorem dX5_look_132 : decode cX5_look 132 = .ok (.goto 4, 3) := by decide +kernel
theorem dX5_look_135 : decode cX5_look 135 = .ok (.iconst 0, 1) := by decide +kernel
theorem dX5_look_136 : decode cX5_look 136 = .ok (.invokevirtual 72, 3) := by decide +kernel
theorem dX5_look_139 : decode cX5_look 139 = .ok (.ireturn, 1) := by decide +kernel
theorem dX5_look_140 : decode cX5_look 140 = .ok (.aload_n 0, 1) := by decide +kernel
theorem dX5_look_141 : decode cX5_look 141 = .ok (.getfield 44, 3) := by decide +kernel
theorem dX5_look_144 : decode cX5_look 144 = .ok (.ifCond .eq 10, 3) := by decide +kernel
theorem dX5_look_147 : decode cX5_look 147 = .ok (.aload_n 0, 1) := by decide +kernel
theorem dX5_look_148 : decode cX5_look 148 = .ok (.getfield 47, 3) := by decide +kernel
theorem dX5_look_151 : decode cX5_look 151 = .ok (.goto 5, 3) := by decide +kernel
theorem dX5_look_154 : decode cX5_look 154 = .ok (.bipush (-4), 2) := by decide +kernel
theorem dX5_look_156 : decode cX5_look 156 = .ok (.ireturn, 1) := by decide +kernel
theorem dX5_look_157 : decode cX5_look 157 = .ok (.aload_n 0, 1) := by decide +kernel
theorem dX5_look_158 : decode cX5_look 158 = .ok (.getfield 50, 3) := by decide +kernel
theorem dX5_look_161 : decode cX5_look 161 = .ok (.ireturn, 1) := by decide +kernel
theorem dX5_look_162 : decode cX5_look 162 = .ok (.aload_n 0, 1) := by decide +kernel
theorem dX5_look_163 : decode cX5_look 163 = .ok (.getfield 25, 3) := by decide +kernel
theorem dX5_look_166 : decode cX5_look 166 = .ok (.ifCond .eq 7, 3) := by decide +kernel
theorem dX5_look_169 : decode cX5_look 169 = .ok (.iconst 1, 1) := by decide +kernel
theorem dX5_look_170 : decode cX5_look 170 = .ok (.goto 4, 3) := by decide +kernel
theorem dX5_look_173 : decode cX5_look 173 = .ok (.iconst 0, 1) := by decide +kernel
theorem dX5_look_174 : decode cX5_look 174 = .ok (.ireturn, 1) := by decide +kernel
theorem dX5_look_175 : decode cX5_look 175 = .ok (.iconst (-1), 1) := by decide +kernel
theorem dX5_look_176 : decode cX5_look 176 = .ok (.ireturn, 1) := by decide +kernel
theorem dX5_known_0 : decode cX5_known 0 = .ok (.aload_n 0, 1) := by decide +kernel
theorem dX5_known_1 : decode cX5_known 1 = .ok (.getfield 12, 3) := by decide +kernel
theorem dX5_known_4 : decode cX5_known 4 = .ok (.getfield 57, 3) := by decide +kernel
theorem dX5_known_7 : decode cX5_known 7 = .ok (.ifCond .eq 7, 3) := by decide +kernel
theorem dX5_known_10 : decode cX5_known 10 = .ok (.iload_n 1, 1) := by decide +kernel
theorem dX5_known_11 : decode cX5_known 11 = .ok (.goto 5, 3) := by decide +kernel
theorem dX5_known_14 : decode cX5_known 14 = .ok (.bipush (-4), 2) := by decide +kernel
theorem dX5_known_16 : decode cX5_known 16 = .ok (.ireturn, 1) := by decide +kernel
theorem dX5_isOf_0 : decode cX5_isOf 0 = .ok (.iload_n 1, 1) := by decide +kernel
theorem dX5_isOf_1 : decode cX5_isOf 1 = .ok (.lookupswitch 40 #[(0, 27), (1, 35)], 27) := by decide +kernel
theorem dX5_isOf_28 : decode cX5_isOf 28 = .ok (.aload_n 0, 1) := by decide +kernel
theorem dX5_isOf_29 : decode cX5_isOf 29 = .ok (.getfield 12, 3) := by decide +kernel
theorem dX5_isOf_32 : decode cX5_isOf 32 = .ok (.getfield 57, 3) := by decide +kernel
theorem dX5_isOf_35 : decode cX5_isOf 35 = .ok (.ireturn, 1) := by decide +kernel
theorem dX5_isOf_36 : decode cX5_isOf 36 = .ok (.aload_n 0, 1) := by decide +kernel
theorem dX5_isOf_37 : decode cX5_isOf 37 = .ok (.getfield 44, 3) := by decide +kernel
theorem dX5_isOf_40 : decode cX5_isOf 40 = .ok (.ireturn, 1) := by decide +kernel
theorem dX5_isOf_41 : decode cX5_isOf 41 = .ok (.aload_n 0, 1) := by decide +kernel
theorem dX5_isOf_42 : decode cX5_isOf 42 = .ok (.getfield 41, 3) := by decide +kernel
theorem dX5_isOf_45 : decode cX5_isOf 45 = .ok (.iconst 5, 1) := by decide +kernel
theorem dX5_isOf_46 : decode cX5_isOf 46 = .ok (.if_icmp .ne 7, 3) := by decide +kernel
theorem dX5_isOf_49 : decode cX5_isOf 49 = .ok (.iconst 1, 1) := by decide +kernel
theorem dX5_isOf_50 : decode cX5_isOf 50 = .ok (.goto 4, 3) := by decide +kernel
theorem dX5_isOf_53 : decode cX5_isOf 53 = .ok (.iconst 0, 1) := by decide +kernel
theorem dX5_isOf_54 : decode cX5_isOf 54 = .ok (.ireturn, 1) := by decide +kernel
theorem dX6_init_0 : decode cX6_init 0 = .ok (.aload_n 0, 1) := by decide +kernel
theorem dX6_init_1 : decode cX6_init 1 = .ok (.invokespecial 3, 3) := by decide +kernel
theorem dX6_init_4 : decode cX6_init 4 = .ok (.aload_n 0, 1) := by decide +kernel
theorem dX6_init_5 : decode cX6_init 5 = .ok (.sipush 200, 3) := by decide +kernel
theorem dX6_init_8 : decode cX6_init 8 = .ok (.newarray .int, 2) := by decide +kernel
theorem dX6_init_10 : decode cX6_init 10 = .ok (.putfield 9, 3) := by decide +kernel
theorem dX6_init_13 : decode cX6_init 13 = .ok (.return_, 1) := by decide +kernel
theorem dX6_add_0 : decode cX6_add 0 = .ok (.aload_n 0, 1) := by decide +kernel
theorem dX6_add_1 : decode cX6_add 1 = .ok (.getfield 15, 3) := by decide +kernel
theorem dX6_add_4 : decode cX6_add 4 = .ok (.ifCond .lt 15, 3) := by decide +kernel
theorem dX6_add_7 : decode cX6_add 7 = .ok (.aload_n 0, 1) := by decide +kernel
theorem dX6_add_8 : decode cX6_add 8 = .ok (.getfield 15, 3) := by decide +kernel
theorem dX6_add_11 : decode cX6_add 11 = .ok (.aload_n 0, 1) := by decide +kernel
theorem dX6_add_12 : decode cX6_add 12 = .ok (.getfield 9, 3) := by decide +kernel
theorem dX6_add_15 : decode cX6_add 15 = .ok (.arraylength, 1) := by decide +kernel
theorem dX6_add_16 : decode cX6_add 16 = .ok (.if_icmp .lt 5, 3) := by decide +kernel
theorem dX6_add_19 : decode cX6_add 19 = .ok (.iconst 0, 1) := by decide +kernel
theorem dX6_add_20 : decode cX6_add 20 = .ok (.ireturn, 1) := by decide +kernel
theorem dX6_add_21 : decode cX6_add 21 = .ok (.aload_n 0, 1) := by decide +kernel
theorem dX6_add_22 : decode cX6_add 22 = .ok (.getfield 9, 3) := by decide +kernel
theorem dX6_add_25 : decode cX6_add 25 = .ok (.aload_n 0, 1) := by decide +kernel
theorem dX6_add_26 : decode cX6_add 26 = .ok (.getfield 15, 3) := by decide +kernel
theorem dX6_add_29 : decode cX6_add 29 = .ok (.iload_n 1, 1) := by decide +kernel
theorem dX6_add_30 : decode cX6_add 30 = .ok (.iastore, 1) := by decide +kernel
theorem dX6_add_31 : decode cX6_add 31 = .ok (.aload_n 0, 1) := by decide +kernel
theorem dX6_add_32 : decode cX6_add 32 = .ok (.dup, 1) := by decide +kernel
theorem dX6_add_33 : decode cX6_add 33 = .ok (.getfield 15, 3) := by decide +kernel
theorem dX6_add_36 : decode cX6_add 36 = .ok (.iconst 1, 1) := by decide +kernel
theorem dX6_add_37 : decode cX6_add 37 = .ok (.iadd, 1) := by decide +kernel
theorem dX6_add_38 : decode cX6_add 38 = .ok (.putfield 15, 3) := by decide +kernel
theorem dX6_add_41 : decode cX6_add 41 = .ok (.iconst 1, 1) := by decide +kernel
theorem dX6_add_42 : decode cX6_add 42 = .ok (.ireturn, 1) := by decide +kernel
theorem dX6_clear_0 : decode cX6_clear 0 = .ok (.aload_n 0, 1) := by decide +kernel
theorem dX6_clear_1 : decode cX6_clear 1 = .ok (.iconst 0, 1) := by decide +kernel
theorem dX6_clear_2 : decode cX6_clear 2 = .ok (.putfield 15, 3) := by decide +kernel
theorem dX6_clear_5 : decode cX6_clear 5 = .ok (.return_, 1) := by decide +kernel
theorem dX6_letterAt_0 : decode cX6_letterAt 0 = .ok (.iload_n 1, 1) := by decide +kernel
theorem dX6_letterAt_1 : decode cX6_letterAt 1 = .ok (.ifCond .lt 29, 3) := by decide +kernel
theorem dX6_letterAt_4 : decode cX6_letterAt 4 = .ok (.iload_n 1, 1) := by decide +kernel
theorem dX6_letterAt_5 : decode cX6_letterAt 5 = .ok (.aload_n 0, 1) := by decide +kernel
theorem dX6_letterAt_6 : decode cX6_letterAt 6 = .ok (.getfield 15, 3) := by decide +kernel
theorem dX6_letterAt_9 : decode cX6_letterAt 9 = .ok (.if_icmp .ge 21, 3) := by decide +kernel
theorem dX6_letterAt_12 : decode cX6_letterAt 12 = .ok (.iload_n 1, 1) := by decide +kernel
theorem dX6_letterAt_13 : decode cX6_letterAt 13 = .ok (.aload_n 0, 1) := by decide +kernel
theorem dX6_letterAt_14 : decode cX6_letterAt 14 = .ok (.getfield 9, 3) := by decide +kernel
theorem dX6_letterAt_17 : decode cX6_letterAt 17 = .ok (.arraylength, 1) := by decide +kernel
theorem dX6_letterAt_18 : decode cX6_letterAt 18 = .ok (.if_icmp .ge 12, 3) := by decide +kernel
theorem dX6_letterAt_21 : decode cX6_letterAt 21 = .ok (.aload_n 0, 1) := by decide +kernel
theorem dX6_letterAt_22 : decode cX6_letterAt 22 = .ok (.getfield 9, 3) := by decide +kernel
theorem dX6_letterAt_25 : decode cX6_letterAt 25 = .ok (.iload_n 1, 1) := by decide +kernel
theorem dX6_letterAt_26 : decode cX6_letterAt 26 = .ok (.iaload, 1) := by decide +kernel
theorem dX6_letterAt_27 : decode cX6_letterAt 27 = .ok (.goto 4, 3) := by decide +kernel
theorem dX6_letterAt_30 : decode cX6_letterAt 30 = .ok (.iconst 0, 1) := by decide +kernel
theorem dX6_letterAt_31 : decode cX6_letterAt 31 = .ok (.ireturn, 1) := by decide +kernel
set_option maxRecDepth 20000 in
theorem ggX6_firstFault_X6_letterAt : GoodIn wsX6_firstFault wsX6_letterAt := goodIn_r _ [6, 1, 7, 29, 30] (by decide +kernel) (by decide +kernel)
set_option maxRecDepth 20000 in
theorem gX6_firstFault_X6_letterAt : GoodIn wsX6_firstFault (wsV RX6 19 RX6 yX6_letterAt wsX6_letterAt) := goodIn_app (goodIn_of _ (by decide +kernel)) ggX6_firstFault_X6_letterAt
set_option maxRecDepth 20000 in
theorem ggX6_firstFault_X6_isItem : GoodIn wsX6_firstFault wsX6_isItem := goodIn_r _ [11, 12, 13, 14, 5, 15, 2, 3, 4, 6, 1, 7, 16, 17, 18, 19, 20, 21, 22, 23, 24, 29, 30] (by decide +kernel) (by decide +kernel)
set_option maxRecDepth 20000 in
theorem gX6_firstFault_X6_isItem : GoodIn wsX6_firstFault (wsV RX6 23 RX6 yX6_isItem wsX6_isItem) := goodIn_app (goodIn_of _ (by decide +kernel)) ggX6_firstFault_X6_isItem
set_option maxRecDepth 20000 in
theorem ggX6_firstFault_X6_lengthOfItem : GoodIn wsX6_firstFault wsX6_lengthOfItem := goodIn_r _ [28, 12, 13, 14, 5, 15, 2, 3, 4, 6, 1, 7, 29, 30] (by decide +kernel) (by decide +kernel)
set_option maxRecDepth 20000 in
theorem gX6_firstFault_X6_lengthOfItem : GoodIn wsX6_firstFault (wsV RX6 27 RX6 yX6_lengthOfItem wsX6_lengthOfItem) := goodIn_app (goodIn_of _ (by decide +kernel)) ggX6_firstFault_X6_lengthOfItem
theorem dX6_firstFault_0 : decode cX6_firstFault 0 = .ok (.iconst 0, 1) := by decide +kernel
theorem dX6_firstFault_1 : decode cX6_firstFault 1 = .ok (.istore_n 1, 1) := by decide +kernel
theorem dX6_firstFault_2 : decode cX6_firstFault 2 = .ok (.iconst 0, 1) := by decide +kernel
theorem dX6_firstFault_3 : decode cX6_firstFault 3 = .ok (.istore_n 2, 1) := by decide +kernel
theorem dX6_firstFault_4 : decode cX6_firstFault 4 = .ok (.iconst 0, 1) := by decide +kernel
theorem dX6_firstFault_5 : decode cX6_firstFault 5 = .ok (.istore_n 3, 1) := by decide +kernel
theorem dX6_firstFault_6 : decode cX6_firstFault 6 = .ok (.iload_n 3, 1) := by decide +kernel
theorem dX6_firstFault_7 : decode cX6_firstFault 7 = .ok (.sipush 200, 3) := by decide +kernel
theorem dX6_firstFault_10 : decode cX6_firstFault 10 = .ok (.if_icmp .ge 54, 3) := by decide +kernel
theorem dX6_firstFault_13 : decode cX6_firstFault 13 = .ok (.iload_n 2, 1) := by decide +kernel
theorem dX6_firstFault_14 : decode cX6_firstFault 14 = .ok (.aload_n 0, 1) := by decide +kernel
theorem dX6_firstFault_15 : decode cX6_firstFault 15 = .ok (.getfield 15, 3) := by decide +kernel
theorem dX6_firstFault_18 : decode cX6_firstFault 18 = .ok (.if_icmp .ge 46, 3) := by decide +kernel
theorem dX6_firstFault_21 : decode cX6_firstFault 21 = .ok (.aload_n 0, 1) := by decide +kernel
theorem dX6_firstFault_22 : decode cX6_firstFault 22 = .ok (.iload_n 2, 1) := by decide +kernel
theorem dX6_firstFault_23 : decode cX6_firstFault 23 = .ok (.invokevirtual 19, 3) := by decide +kernel
theorem dX6_firstFault_26 : decode cX6_firstFault 26 = .ok (.bipush 108, 2) := by decide +kernel
theorem dX6_firstFault_28 : decode cX6_firstFault 28 = .ok (.if_icmp .ne 6, 3) := by decide +kernel
theorem dX6_firstFault_31 : decode cX6_firstFault 31 = .ok (.iinc 1 1, 3) := by decide +kernel
theorem dX6_firstFault_34 : decode cX6_firstFault 34 = .ok (.aload_n 0, 1) := by decide +kernel
theorem dX6_firstFault_35 : decode cX6_firstFault 35 = .ok (.iload_n 2, 1) := by decide +kernel
theorem dX6_firstFault_36 : decode cX6_firstFault 36 = .ok (.invokevirtual 23, 3) := by decide +kernel
theorem dX6_firstFault_39 : decode cX6_firstFault 39 = .ok (.ifCond .eq 9, 3) := by decide +kernel
theorem dX6_firstFault_42 : decode cX6_firstFault 42 = .ok (.iload_n 1, 1) := by decide +kernel
theorem dX6_firstFault_43 : decode cX6_firstFault 43 = .ok (.bipush 6, 2) := by decide +kernel
theorem dX6_firstFault_45 : decode cX6_firstFault 45 = .ok (.if_icmp .le 5, 3) := by decide +kernel
theorem dX6_firstFault_48 : decode cX6_firstFault 48 = .ok (.iload_n 2, 1) := by decide +kernel
theorem dX6_firstFault_49 : decode cX6_firstFault 49 = .ok (.ireturn, 1) := by decide +kernel
theorem dX6_firstFault_50 : decode cX6_firstFault 50 = .ok (.iload_n 2, 1) := by decide +kernel
theorem dX6_firstFault_51 : decode cX6_firstFault 51 = .ok (.aload_n 0, 1) := by decide +kernel
theorem dX6_firstFault_52 : decode cX6_firstFault 52 = .ok (.iload_n 2, 1) := by decide +kernel
theorem dX6_firstFault_53 : decode cX6_firstFault 53 = .ok (.invokevirtual 27, 3) := by decide +kernel
theorem dX6_firstFault_56 : decode cX6_firstFault 56 = .ok (.iadd, 1) := by decide +kernel
theorem dX6_firstFault_57 : decode cX6_firstFault 57 = .ok (.istore_n 2, 1) := by decide +kernel
theorem dX6_firstFault_58 : decode cX6_firstFault 58 = .ok (.iinc 3 1, 3) := by decide +kernel
theorem dX6_firstFault_61 : decode cX6_firstFault 61 = .ok (.goto (-55), 3) := by decide +kernel
theorem dX6_firstFault_64 : decode cX6_firstFault 64 = .ok (.bipush (-4), 2) := by decide +kernel
theorem dX6_firstFault_66 : decode cX6_firstFault 66 = .ok (.ireturn, 1) := by decide +kernel
set_option maxRecDepth 20000 in
theorem ggX6_tellsLink_X6_letterAt : GoodIn wsX6_tellsLink wsX6_letterAt := goodIn_r _ [6, 1, 7, 8, 9] (by decide +kernel) (by decide +kernel)
set_option maxRecDepth 20000 in
theorem gX6_tellsLink_X6_letterAt : GoodIn wsX6_tellsLink (wsV RX6 19 RX6 yX6_letterAt wsX6_letterAt) := goodIn_app (goodIn_of _ (by decide +kernel)) ggX6_tellsLink_X6_letterAt
theorem dX6_tellsLink_0 : decode cX6_tellsLink 0 = .ok (.iconst 0, 1) := by decide +kernel
theorem dX6_tellsLink_1 : decode cX6_tellsLink 1 = .ok (.istore_n 1, 1) := by decide +kernel
theorem dX6_tellsLink_2 : decode cX6_tellsLink 2 = .ok (.iload_n 1, 1) := by decide +kernel
theorem dX6_tellsLink_3 : decode cX6_tellsLink 3 = .ok (.aload_n 0, 1) := by decide +kernel
theorem dX6_tellsLink_4 : decode cX6_tellsLink 4 = .ok (.getfield 15, 3) := by decide +kernel
theorem dX6_tellsLink_7 : decode cX6_tellsLink 7 = .ok (.if_icmp .ge 21, 3) := by decide +kernel
theorem dX6_tellsLink_10 : decode cX6_tellsLink 10 = .ok (.aload_n 0, 1) := by decide +kernel
theorem dX6_tellsLink_11 : decode cX6_tellsLink 11 = .ok (.iload_n 1, 1) := by decide +kernel
theorem dX6_tellsLink_12 : decode cX6_tellsLink 12 = .ok (.invokevirtual 19, 3) := by decide +kernel
theorem dX6_tellsLink_15 : decode cX6_tellsLink 15 = .ok (.bipush 108, 2) := by decide +kernel
theorem dX6_tellsLink_17 : decode cX6_tellsLink 17 = .ok (.if_icmp .ne 5, 3) := by decide +kernel
theorem dX6_tellsLink_20 : decode cX6_tellsLink 20 = .ok (.iconst 1, 1) := by decide +kernel
theorem dX6_tellsLink_21 : decode cX6_tellsLink 21 = .ok (.ireturn, 1) := by decide +kernel
theorem dX6_tellsLink_22 : decode cX6_tellsLink 22 = .ok (.iinc 1 1, 3) := by decide +kernel
theorem dX6_tellsLink_25 : decode cX6_tellsLink 25 = .ok (.goto (-23), 3) := by decide +kernel
theorem dX6_tellsLink_28 : decode cX6_tellsLink 28 = .ok (.iconst 0, 1) := by decide +kernel
theorem dX6_tellsLink_29 : decode cX6_tellsLink 29 = .ok (.ireturn, 1) := by decide +kernel
set_option maxRecDepth 20000 in
theorem ggX6_isItem_X6_numbersOfItem : GoodIn wsX6_isItem wsX6_numbersOfItem := goodIn_r _ [5, 6, 7, 8, 4, 9, 10, 11, 21, 22] (by decide +kernel) (by decide +kernel)
set_option maxRecDepth 20000 in
theorem gX6_isItem_X6_numbersOfItem : GoodIn wsX6_isItem (wsV RX6 30 RX6 yX6_numbersOfItem wsX6_numbersOfItem) := goodIn_app (goodIn_of _ (by decide +kernel)) ggX6_isItem_X6_numbersOfItem
set_option maxRecDepth 20000 in
theorem ggX6_isItem_X6_letterAt : GoodIn wsX6_isItem wsX6_letterAt := goodIn_r _ [9, 10, 11, 21, 22] (by decide +kernel) (by decide +kernel)
set_option maxRecDepth 20000 in
theorem gX6_isItem_X6_letterAt : GoodIn wsX6_isItem (wsV RX6 19 RX6 yX6_letterAt wsX6_letterAt) := goodIn_app (goodIn_of _ (by decide +kernel)) ggX6_isItem_X6_letterAt
set_option maxRecDepth 20000 in
theorem ggX6_isItem_X6_number : GoodIn wsX6_isItem wsX6_number := goodIn_r _ [15, 6, 7, 8, 4, 9, 10, 11, 21, 22] (by decide +kernel) (by decide +kernel)
set_option maxRecDepth 20000 in
theorem gX6_isItem_X6_number : GoodIn wsX6_isItem (wsV RX6 33 RX6 yX6_number wsX6_number) := goodIn_app (goodIn_of _ (by decide +kernel)) ggX6_isItem_X6_number
set_option maxRecDepth 20000 in
theorem ggX6_isItem_X7_isFigure : GoodIn wsX6_isItem wsX7_isFigure := goodIn_r _ [18] (by decide +kernel) (by decide +kernel)
set_option maxRecDepth 20000 in
theorem gX6_isItem_X7_isFigure_n37 : GoodIn wsX6_isItem (wsX7_isFigure) := ggX6_isItem_X7_isFigure
set_option maxRecDepth 20000 in
theorem ggX6_isItem_X7_isMost : GoodIn wsX6_isItem wsX7_isMost := goodIn_r _ [20] (by decide +kernel) (by decide +kernel)
set_option maxRecDepth 20000 in
theorem gX6_isItem_X7_isMost_n40 : GoodIn wsX6_isItem (wsX7_isMost) := ggX6_isItem_X7_isMost
end
section
theorem dX6_isItem_0 : decode cX6_isItem 0 = .ok (.aload_n 0, 1) := by decide +kernel
theorem dX6_isItem_1 : decode cX6_isItem 1 = .ok (.iload_n 1, 1) := by decide +kernel
theorem dX6_isItem_2 : decode cX6_isItem 2 = .ok (.invokevirtual 30, 3) := by decide +kernel
theorem dX6_isItem_5 : decode cX6_isItem 5 = .ok (.istore_n 2, 1) := by decide +kernel
theorem dX6_isItem_6 : decode cX6_isItem 6 = .ok (.iconst 0, 1) := by decide +kernel
theorem dX6_isItem_7 : decode cX6_isItem 7 = .ok (.istore_n 3, 1) := by decide +kernel
theorem dX6_isItem_8 : decode cX6_isItem 8 = .ok (.iload_n 3, 1) := by decide +kernel
theorem dX6_isItem_9 : decode cX6_isItem 9 = .ok (.iload_n 2, 1) := by decide +kernel
theorem dX6_isItem_10 : decode cX6_isItem 10 = .ok (.if_icmp .ge 55, 3) := by decide +kernel
theorem dX6_isItem_13 : decode cX6_isItem 13 = .ok (.aload_n 0, 1) := by decide +kernel
theorem dX6_isItem_14 : decode cX6_isItem 14 = .ok (.iload_n 1, 1) := by decide +kernel
theorem dX6_isItem_15 : decode cX6_isItem 15 = .ok (.iconst 2, 1) := by decide +kernel
theorem dX6_isItem_16 : decode cX6_isItem 16 = .ok (.iload_n 3, 1) := by decide +kernel
theorem dX6_isItem_17 : decode cX6_isItem 17 = .ok (.imul, 1) := by decide +kernel
theorem dX6_isItem_18 : decode cX6_isItem 18 = .ok (.iadd, 1) := by decide +kernel
theorem dX6_isItem_19 : decode cX6_isItem 19 = .ok (.iconst 2, 1) := by decide +kernel
theorem dX6_isItem_20 : decode cX6_isItem 20 = .ok (.iadd, 1) := by decide +kernel
theorem dX6_isItem_21 : decode cX6_isItem 21 = .ok (.invokevirtual 19, 3) := by decide +kernel
theorem dX6_isItem_24 : decode cX6_isItem 24 = .ok (.istore 4, 2) := by decide +kernel
theorem dX6_isItem_26 : decode cX6_isItem 26 = .ok (.aload_n 0, 1) := by decide +kernel
theorem dX6_isItem_27 : decode cX6_isItem 27 = .ok (.iload_n 1, 1) := by decide +kernel
theorem dX6_isItem_28 : decode cX6_isItem 28 = .ok (.iload_n 3, 1) := by decide +kernel
theorem dX6_isItem_29 : decode cX6_isItem 29 = .ok (.invokevirtual 33, 3) := by decide +kernel
theorem dX6_isItem_32 : decode cX6_isItem 32 = .ok (.invokestatic 37, 3) := by decide +kernel
theorem dX6_isItem_35 : decode cX6_isItem 35 = .ok (.ifCond .eq 22, 3) := by decide +kernel
theorem dX6_isItem_38 : decode cX6_isItem 38 = .ok (.iload 4, 2) := by decide +kernel
theorem dX6_isItem_40 : decode cX6_isItem 40 = .ok (.iload_n 3, 1) := by decide +kernel
theorem dX6_isItem_41 : decode cX6_isItem 41 = .ok (.iconst 1, 1) := by decide +kernel
theorem dX6_isItem_42 : decode cX6_isItem 42 = .ok (.iadd, 1) := by decide +kernel
theorem dX6_isItem_43 : decode cX6_isItem 43 = .ok (.iload_n 2, 1) := by decide +kernel
theorem dX6_isItem_44 : decode cX6_isItem 44 = .ok (.if_icmp .ge 8, 3) := by decide +kernel
theorem dX6_isItem_47 : decode cX6_isItem 47 = .ok (.bipush 44, 2) := by decide +kernel
theorem dX6_isItem_49 : decode cX6_isItem 49 = .ok (.goto 5, 3) := by decide +kernel
theorem dX6_isItem_52 : decode cX6_isItem 52 = .ok (.bipush 59, 2) := by decide +kernel
theorem dX6_isItem_54 : decode cX6_isItem 54 = .ok (.if_icmp .eq 5, 3) := by decide +kernel
theorem dX6_isItem_57 : decode cX6_isItem 57 = .ok (.iconst 0, 1) := by decide +kernel
theorem dX6_isItem_58 : decode cX6_isItem 58 = .ok (.ireturn, 1) := by decide +kernel
theorem dX6_isItem_59 : decode cX6_isItem 59 = .ok (.iinc 3 1, 3) := by decide +kernel
theorem dX6_isItem_62 : decode cX6_isItem 62 = .ok (.goto (-54), 3) := by decide +kernel
theorem dX6_isItem_65 : decode cX6_isItem 65 = .ok (.iload_n 2, 1) := by decide +kernel
theorem dX6_isItem_66 : decode cX6_isItem 66 = .ok (.ifCond .le 29, 3) := by decide +kernel
theorem dX6_isItem_69 : decode cX6_isItem 69 = .ok (.aload_n 0, 1) := by decide +kernel
theorem dX6_isItem_70 : decode cX6_isItem 70 = .ok (.iload_n 1, 1) := by decide +kernel
theorem dX6_isItem_71 : decode cX6_isItem 71 = .ok (.invokevirtual 19, 3) := by decide +kernel
theorem dX6_isItem_74 : decode cX6_isItem 74 = .ok (.bipush 109, 2) := by decide +kernel
theorem dX6_isItem_76 : decode cX6_isItem 76 = .ok (.if_icmp .ne 15, 3) := by decide +kernel
theorem dX6_isItem_79 : decode cX6_isItem 79 = .ok (.aload_n 0, 1) := by decide +kernel
theorem dX6_isItem_80 : decode cX6_isItem 80 = .ok (.iload_n 1, 1) := by decide +kernel
theorem dX6_isItem_81 : decode cX6_isItem 81 = .ok (.iconst 0, 1) := by decide +kernel
theorem dX6_isItem_82 : decode cX6_isItem 82 = .ok (.invokevirtual 33, 3) := by decide +kernel
theorem dX6_isItem_85 : decode cX6_isItem 85 = .ok (.invokestatic 40, 3) := by decide +kernel
theorem dX6_isItem_88 : decode cX6_isItem 88 = .ok (.ifCond .eq 7, 3) := by decide +kernel
theorem dX6_isItem_91 : decode cX6_isItem 91 = .ok (.iconst 1, 1) := by decide +kernel
theorem dX6_isItem_92 : decode cX6_isItem 92 = .ok (.goto 4, 3) := by decide +kernel
theorem dX6_isItem_95 : decode cX6_isItem 95 = .ok (.iconst 0, 1) := by decide +kernel
theorem dX6_isItem_96 : decode cX6_isItem 96 = .ok (.ireturn, 1) := by decide +kernel
set_option maxRecDepth 20000 in
theorem ggX6_numbersOfItem_X6_letterAt : GoodIn wsX6_numbersOfItem wsX6_letterAt := goodIn_r _ [5, 6, 7, 8, 9] (by decide +kernel) (by decide +kernel)
set_option maxRecDepth 20000 in
theorem gX6_numbersOfItem_X6_letterAt : GoodIn wsX6_numbersOfItem (wsV RX6 19 RX6 yX6_letterAt wsX6_letterAt) := goodIn_app (goodIn_of _ (by decide +kernel)) ggX6_numbersOfItem_X6_letterAt
theorem dX6_numbersOfItem_0 : decode cX6_numbersOfItem 0 = .ok (.aload_n 0, 1) := by decide +kernel
theorem dX6_numbersOfItem_1 : decode cX6_numbersOfItem 1 = .ok (.iload_n 1, 1) := by decide +kernel
theorem dX6_numbersOfItem_2 : decode cX6_numbersOfItem 2 = .ok (.invokevirtual 19, 3) := by decide +kernel
theorem dX6_numbersOfItem_5 : decode cX6_numbersOfItem 5 = .ok (.lookupswitch 41 #[(108, 35), (109, 39), (120, 37)], 35) := by decide +kernel
theorem dX6_numbersOfItem_40 : decode cX6_numbersOfItem 40 = .ok (.iconst 4, 1) := by decide +kernel
theorem dX6_numbersOfItem_41 : decode cX6_numbersOfItem 41 = .ok (.ireturn, 1) := by decide +kernel
theorem dX6_numbersOfItem_42 : decode cX6_numbersOfItem 42 = .ok (.iconst 2, 1) := by decide +kernel
theorem dX6_numbersOfItem_43 : decode cX6_numbersOfItem 43 = .ok (.ireturn, 1) := by decide +kernel
theorem dX6_numbersOfItem_44 : decode cX6_numbersOfItem 44 = .ok (.iconst 3, 1) := by decide +kernel
theorem dX6_numbersOfItem_45 : decode cX6_numbersOfItem 45 = .ok (.ireturn, 1) := by decide +kernel
theorem dX6_numbersOfItem_46 : decode cX6_numbersOfItem 46 = .ok (.iconst 0, 1) := by decide +kernel
theorem dX6_numbersOfItem_47 : decode cX6_numbersOfItem 47 = .ok (.ireturn, 1) := by decide +kernel
set_option maxRecDepth 20000 in
theorem ggX6_lengthOfItem_X6_numbersOfItem : GoodIn wsX6_lengthOfItem wsX6_numbersOfItem := goodIn_r _ [5, 6, 7, 8, 4, 9, 10, 11, 12, 13] (by decide +kernel) (by decide +kernel)
set_option maxRecDepth 20000 in
theorem gX6_lengthOfItem_X6_numbersOfItem : GoodIn wsX6_lengthOfItem (wsV RX6 30 RX6 yX6_numbersOfItem wsX6_numbersOfItem) := goodIn_app (goodIn_of _ (by decide +kernel)) ggX6_lengthOfItem_X6_numbersOfItem
theorem dX6_lengthOfItem_0 : decode cX6_lengthOfItem 0 = .ok (.iconst 1, 1) := by decide +kernel
theorem dX6_lengthOfItem_1 : decode cX6_lengthOfItem 1 = .ok (.iconst 2, 1) := by decide +kernel
theorem dX6_lengthOfItem_2 : decode cX6_lengthOfItem 2 = .ok (.aload_n 0, 1) := by decide +kernel
theorem dX6_lengthOfItem_3 : decode cX6_lengthOfItem 3 = .ok (.iload_n 1, 1) := by decide +kernel
theorem dX6_lengthOfItem_4 : decode cX6_lengthOfItem 4 = .ok (.invokevirtual 30, 3) := by decide +kernel
theorem dX6_lengthOfItem_7 : decode cX6_lengthOfItem 7 = .ok (.imul, 1) := by decide +kernel
theorem dX6_lengthOfItem_8 : decode cX6_lengthOfItem 8 = .ok (.iadd, 1) := by decide +kernel
theorem dX6_lengthOfItem_9 : decode cX6_lengthOfItem 9 = .ok (.ireturn, 1) := by decide +kernel
set_option maxRecDepth 20000 in
theorem ggX6_number_X6_letterAt : GoodIn wsX6_number wsX6_letterAt := goodIn_r _ [5, 6, 7, 8, 9] (by decide +kernel) (by decide +kernel)
set_option maxRecDepth 20000 in
theorem gX6_number_X6_letterAt : GoodIn wsX6_number (wsV RX6 19 RX6 yX6_letterAt wsX6_letterAt) := goodIn_app (goodIn_of _ (by decide +kernel)) ggX6_number_X6_letterAt
theorem dX6_number_0 : decode cX6_number 0 = .ok (.aload_n 0, 1) := by decide +kernel
theorem dX6_number_1 : decode cX6_number 1 = .ok (.iload_n 1, 1) := by decide +kernel
theorem dX6_number_2 : decode cX6_number 2 = .ok (.iconst 2, 1) := by decide +kernel
theorem dX6_number_3 : decode cX6_number 3 = .ok (.iload_n 2, 1) := by decide +kernel
theorem dX6_number_4 : decode cX6_number 4 = .ok (.imul, 1) := by decide +kernel
theorem dX6_number_5 : decode cX6_number 5 = .ok (.iadd, 1) := by decide +kernel
theorem dX6_number_6 : decode cX6_number 6 = .ok (.iconst 1, 1) := by decide +kernel
theorem dX6_number_7 : decode cX6_number 7 = .ok (.iadd, 1) := by decide +kernel
theorem dX6_number_8 : decode cX6_number 8 = .ok (.invokevirtual 19, 3) := by decide +kernel
theorem dX6_number_11 : decode cX6_number 11 = .ok (.bipush 48, 2) := by decide +kernel
theorem dX6_number_13 : decode cX6_number 13 = .ok (.isub, 1) := by decide +kernel
theorem dX6_number_14 : decode cX6_number 14 = .ok (.ireturn, 1) := by decide +kernel
set_option maxRecDepth 20000 in
theorem ggX7_init_X6_init : GoodIn wsX7_init wsX6_init := goodIn_r _ [21, 22, 2, 3, 16, 23, 204, 205] (by decide +kernel) (by decide +kernel)
set_option maxRecDepth 20000 in
theorem gX7_init_X6_init_n9 : GoodIn wsX7_init (wsX6_init) := ggX7_init_X6_init
set_option maxRecDepth 20000 in
theorem ggX7_init_X4_init : GoodIn wsX7_init wsX4_init := goodIn_r _ [25, 26, 2, 3, 27, 28, 29, 30, 31, 32, 33, 34, 35, 36, 37, 38, 39, 40, 41, 42, 43, 44, 45, 46, 47, 48, 49, 50, 51, 52, 53, 54, 55, 56, 57, 58, 222, 223, 224, 225, 212, 213, 214, 215, 216, 217, 218, 226, 227, 228, 229, 230, 231, 232, 233, 234, 235, 236, 237, 238, 239, 240, 241, 242, 243] (by decide +kernel) (by decide +kernel)
set_option maxRecDepth 20000 in
theorem gX7_init_X4_init_n18 : GoodIn wsX7_init (wsX4_init) := ggX7_init_X4_init
set_option maxRecDepth 20000 in
theorem ggX7_init_X2_init : GoodIn wsX7_init wsX2_init := goodIn_r _ [61, 62, 2, 3, 63, 64, 9, 10, 24, 25, 26, 27, 28, 29, 30, 31, 32, 33, 34, 35, 36, 37, 38, 39, 40, 41, 42, 43, 44, 45, 46, 47, 48, 49, 50, 51, 52, 53, 54, 55, 56, 57, 58, 219, 220, 221, 212, 213, 214, 215, 216, 217, 218, 222, 223, 224, 225, 226, 227, 228, 229, 230, 231, 232, 233, 234, 235, 236, 237, 238, 239, 240, 241, 242, 243] (by decide +kernel) (by decide +kernel)
set_option maxRecDepth 20000 in
theorem gX7_init_X2_init : GoodIn wsX7_init (wsX2_init) := ggX7_init_X2_init
set_option maxRecDepth 20000 in
theorem ggX7_init_J0_length_8abf5 : GoodIn wsX7_init wsJ0_length_8abf5 := goodIn_r _ [69, 70, 71, 72, 73, 68, 74, 75, 76] (by decide +kernel) (by decide +kernel)
set_option maxRecDepth 20000 in
theorem gX7_init_J0_length_8abf5 : GoodIn wsX7_init (wsV RX7 42 RJ0 yJ0_length_8abf5 wsJ0_length_8abf5) := goodIn_app (goodIn_of _ (by decide +kernel)) ggX7_init_J0_length_8abf5
set_option maxRecDepth 20000 in
theorem ggX7_init_J0_charAt_5068e : GoodIn wsX7_init wsJ0_charAt_5068e := goodIn_r _ [80, 70, 81, 82, 83, 68, 84, 75, 76, 85, 86, 87, 88, 89, 90, 91, 92, 93, 94, 95, 96, 97, 98, 99, 100, 101, 102, 103, 104, 105, 106, 107, 108, 109, 110, 111, 112, 113] (by decide +kernel) (by decide +kernel)
set_option maxRecDepth 20000 in
theorem gX7_init_J0_charAt_5068e : GoodIn wsX7_init (wsV RX7 48 RJ0 yJ0_charAt_5068e wsJ0_charAt_5068e) := goodIn_app (goodIn_of _ (by decide +kernel)) ggX7_init_J0_charAt_5068e
set_option maxRecDepth 20000 in
theorem ggX7_init_X6_add : GoodIn wsX7_init wsX6_add := goodIn_r _ [117, 118, 23, 204, 205] (by decide +kernel) (by decide +kernel)
set_option maxRecDepth 20000 in
theorem gX7_init_X6_add : GoodIn wsX7_init (wsV RX7 52 RX6 yX6_add wsX6_add) := goodIn_app (goodIn_of _ (by decide +kernel)) ggX7_init_X6_add
set_option maxRecDepth 20000 in
theorem ggX7_init_X4_layOut : GoodIn wsX7_init wsX4_layOut := goodIn_r _ [122, 123, 124, 125, 126, 10, 127, 30, 31, 128, 129, 130, 131, 132, 133, 134, 135, 29, 136, 137, 38, 42, 138, 139, 140, 40, 141, 142, 143, 144, 145, 51, 52, 146, 147, 148, 149, 150, 151, 152, 153, 50, 154, 155, 156, 157, 158, 159, 160, 161, 162, 44, 163, 164, 165, 166, 167, 168, 169, 170, 171, 172, 173, 6, 174, 118, 23, 175, 176, 177, 178, 179, 180, 181, 182, 183, 184, 185, 186, 187, 188, 189, 190, 191, 192, 193, 194, 195, 196, 197, 198, 199, 204, 205, 212, 213, 214, 215, 216, 217, 218, 222, 223, 224, 225, 226, 227, 228, 229, 230, 231, 232, 233, 234, 235, 236, 239, 240, 241, 242, 243, 237, 238] (by decide +kernel) (by decide +kernel)
set_option maxRecDepth 20000 in
theorem gX7_init_X4_layOut : GoodIn wsX7_init (wsV RX7 56 RX4 yX4_layOut wsX4_layOut) := goodIn_app (goodIn_of _ (by decide +kernel)) ggX7_init_X4_layOut
set_option maxRecDepth 20000 in
theorem ggX7_init_X6_clear : GoodIn wsX7_init wsX6_clear := goodIn_r _ [203, 118, 204, 205] (by decide +kernel) (by decide +kernel)
set_option maxRecDepth 20000 in
theorem gX7_init_X6_clear : GoodIn wsX7_init (wsV RX7 60 RX6 yX6_clear wsX6_clear) := goodIn_app (goodIn_of _ (by decide +kernel)) ggX7_init_X6_clear
theorem dX7_init_0 : decode cX7_init 0 = .ok (.aload_n 0, 1) := by decide +kernel
theorem dX7_init_1 : decode cX7_init 1 = .ok (.invokespecial 1, 3) := by decide +kernel
theorem dX7_init_4 : decode cX7_init 4 = .ok (.aload_n 0, 1) := by decide +kernel
theorem dX7_init_5 : decode cX7_init 5 = .ok (.new 7, 3) := by decide +kernel
theorem dX7_init_8 : decode cX7_init 8 = .ok (.dup, 1) := by decide +kernel
theorem dX7_init_9 : decode cX7_init 9 = .ok (.invokespecial 9, 3) := by decide +kernel
theorem dX7_init_12 : decode cX7_init 12 = .ok (.putfield 10, 3) := by decide +kernel
theorem dX7_init_15 : decode cX7_init 15 = .ok (.aload_n 0, 1) := by decide +kernel
theorem dX7_init_16 : decode cX7_init 16 = .ok (.new 16, 3) := by decide +kernel
theorem dX7_init_19 : decode cX7_init 19 = .ok (.dup, 1) := by decide +kernel
theorem dX7_init_20 : decode cX7_init 20 = .ok (.invokespecial 18, 3) := by decide +kernel
theorem dX7_init_23 : decode cX7_init 23 = .ok (.putfield 19, 3) := by decide +kernel
theorem dX7_init_26 : decode cX7_init 26 = .ok (.aload_n 0, 1) := by decide +kernel
theorem dX7_init_27 : decode cX7_init 27 = .ok (.new 23, 3) := by decide +kernel
theorem dX7_init_30 : decode cX7_init 30 = .ok (.dup, 1) := by decide +kernel
theorem dX7_init_31 : decode cX7_init 31 = .ok (.invokespecial 25, 3) := by decide +kernel
theorem dX7_init_34 : decode cX7_init 34 = .ok (.putfield 26, 3) := by decide +kernel
theorem dX7_init_37 : decode cX7_init 37 = .ok (.aload_n 0, 1) := by decide +kernel
theorem dX7_init_38 : decode cX7_init 38 = .ok (.bipush 12, 2) := by decide +kernel
theorem dX7_init_40 : decode cX7_init 40 = .ok (.newarray .int, 2) := by decide +kernel
theorem dX7_init_42 : decode cX7_init 42 = .ok (.putfield 30, 3) := by decide +kernel
theorem dX7_init_45 : decode cX7_init 45 = .ok (.aload_n 0, 1) := by decide +kernel
theorem dX7_init_46 : decode cX7_init 46 = .ok (.new 16, 3) := by decide +kernel
theorem dX7_init_49 : decode cX7_init 49 = .ok (.dup, 1) := by decide +kernel
theorem dX7_init_50 : decode cX7_init 50 = .ok (.invokespecial 18, 3) := by decide +kernel
theorem dX7_init_53 : decode cX7_init 53 = .ok (.putfield 34, 3) := by decide +kernel
theorem dX7_init_56 : decode cX7_init 56 = .ok (.aload_n 0, 1) := by decide +kernel
theorem dX7_init_57 : decode cX7_init 57 = .ok (.new 16, 3) := by decide +kernel
theorem dX7_init_60 : decode cX7_init 60 = .ok (.dup, 1) := by decide +kernel
theorem dX7_init_61 : decode cX7_init 61 = .ok (.invokespecial 18, 3) := by decide +kernel
theorem dX7_init_64 : decode cX7_init 64 = .ok (.putfield 37, 3) := by decide +kernel
theorem dX7_init_67 : decode cX7_init 67 = .ok (.iconst 0, 1) := by decide +kernel
theorem dX7_init_68 : decode cX7_init 68 = .ok (.istore_n 1, 1) := by decide +kernel
theorem dX7_init_69 : decode cX7_init 69 = .ok (.iload_n 1, 1) := by decide +kernel
theorem dX7_init_70 : decode cX7_init 70 = .ok (.ldc 40, 2) := by decide +kernel
theorem dX7_init_72 : decode cX7_init 72 = .ok (.invokevirtual 42, 3) := by decide +kernel
theorem dX7_init_75 : decode cX7_init 75 = .ok (.if_icmp .ge 23, 3) := by decide +kernel
theorem dX7_init_78 : decode cX7_init 78 = .ok (.aload_n 0, 1) := by decide +kernel
theorem dX7_init_79 : decode cX7_init 79 = .ok (.getfield 10, 3) := by decide +kernel
theorem dX7_init_82 : decode cX7_init 82 = .ok (.ldc 40, 2) := by decide +kernel
theorem dX7_init_84 : decode cX7_init 84 = .ok (.iload_n 1, 1) := by decide +kernel
theorem dX7_init_85 : decode cX7_init 85 = .ok (.invokevirtual 48, 3) := by decide +kernel
theorem dX7_init_88 : decode cX7_init 88 = .ok (.invokevirtual 52, 3) := by decide +kernel
theorem dX7_init_91 : decode cX7_init 91 = .ok (.pop, 1) := by decide +kernel
theorem dX7_init_92 : decode cX7_init 92 = .ok (.iinc 1 1, 3) := by decide +kernel
theorem dX7_init_95 : decode cX7_init 95 = .ok (.goto (-26), 3) := by decide +kernel
theorem dX7_init_98 : decode cX7_init 98 = .ok (.aload_n 0, 1) := by decide +kernel
theorem dX7_init_99 : decode cX7_init 99 = .ok (.getfield 19, 3) := by decide +kernel
theorem dX7_init_102 : decode cX7_init 102 = .ok (.aload_n 0, 1) := by decide +kernel
theorem dX7_init_103 : decode cX7_init 103 = .ok (.getfield 10, 3) := by decide +kernel
theorem dX7_init_106 : decode cX7_init 106 = .ok (.invokevirtual 56, 3) := by decide +kernel
theorem dX7_init_109 : decode cX7_init 109 = .ok (.aload_n 0, 1) := by decide +kernel
theorem dX7_init_110 : decode cX7_init 110 = .ok (.getfield 10, 3) := by decide +kernel
theorem dX7_init_113 : decode cX7_init 113 = .ok (.invokevirtual 60, 3) := by decide +kernel
theorem dX7_init_116 : decode cX7_init 116 = .ok (.return_, 1) := by decide +kernel
set_option maxRecDepth 20000 in
theorem ggX7_write_X6_add : GoodIn wsX7_write wsX6_add := goodIn_r _ [7, 8, 9, 16, 17] (by decide +kernel) (by decide +kernel)
set_option maxRecDepth 20000 in
theorem gX7_write_X6_add : GoodIn wsX7_write (wsV RX7 52 RX6 yX6_add wsX6_add) := goodIn_app (goodIn_of _ (by decide +kernel)) ggX7_write_X6_add
theorem dX7_write_0 : decode cX7_write 0 = .ok (.iload_n 1, 1) := by decide +kernel
theorem dX7_write_1 : decode cX7_write 1 = .ok (.bipush 32, 2) := by decide +kernel
theorem dX7_write_3 : decode cX7_write 3 = .ok (.if_icmp .lt 9, 3) := by decide +kernel
theorem dX7_write_6 : decode cX7_write 6 = .ok (.iload_n 1, 1) := by decide +kernel
theorem dX7_write_7 : decode cX7_write 7 = .ok (.bipush 126, 2) := by decide +kernel
theorem dX7_write_9 : decode cX7_write 9 = .ok (.if_icmp .le 5, 3) := by decide +kernel
theorem dX7_write_12 : decode cX7_write 12 = .ok (.iconst (-1), 1) := by decide +kernel
theorem dX7_write_13 : decode cX7_write 13 = .ok (.ireturn, 1) := by decide +kernel
theorem dX7_write_14 : decode cX7_write 14 = .ok (.aload_n 0, 1) := by decide +kernel
theorem dX7_write_15 : decode cX7_write 15 = .ok (.getfield 10, 3) := by decide +kernel
theorem dX7_write_18 : decode cX7_write 18 = .ok (.iload_n 1, 1) := by decide +kernel
theorem dX7_write_19 : decode cX7_write 19 = .ok (.invokevirtual 52, 3) := by decide +kernel
theorem dX7_write_22 : decode cX7_write 22 = .ok (.ifCond .eq 13, 3) := by decide +kernel
theorem dX7_write_25 : decode cX7_write 25 = .ok (.aload_n 0, 1) := by decide +kernel
theorem dX7_write_26 : decode cX7_write 26 = .ok (.getfield 10, 3) := by decide +kernel
theorem dX7_write_29 : decode cX7_write 29 = .ok (.getfield 63, 3) := by decide +kernel
theorem dX7_write_32 : decode cX7_write 32 = .ok (.goto 5, 3) := by decide +kernel
theorem dX7_write_35 : decode cX7_write 35 = .ok (.bipush (-3), 2) := by decide +kernel
theorem dX7_write_37 : decode cX7_write 37 = .ok (.ireturn, 1) := by decide +kernel
set_option maxRecDepth 20000 in
theorem ggX7_wipe_X6_clear : GoodIn wsX7_wipe wsX6_clear := goodIn_r _ [7, 8, 15, 16] (by decide +kernel) (by decide +kernel)
set_option maxRecDepth 20000 in
theorem gX7_wipe_X6_clear : GoodIn wsX7_wipe (wsV RX7 60 RX6 yX6_clear wsX6_clear) := goodIn_app (goodIn_of _ (by decide +kernel)) ggX7_wipe_X6_clear
theorem dX7_wipe_0 : decode cX7_wipe 0 = .ok (.aload_n 0, 1) := by decide +kernel
theorem dX7_wipe_1 : decode cX7_wipe 1 = .ok (.getfield 10, 3) := by decide +kernel
theorem dX7_wipe_4 : decode cX7_wipe 4 = .ok (.getfield 63, 3) := by decide +kernel
theorem dX7_wipe_7 : decode cX7_wipe 7 = .ok (.istore_n 1, 1) := by decide +kernel
theorem dX7_wipe_8 : decode cX7_wipe 8 = .ok (.aload_n 0, 1) := by decide +kernel
theorem dX7_wipe_9 : decode cX7_wipe 9 = .ok (.getfield 10, 3) := by decide +kernel
theorem dX7_wipe_12 : decode cX7_wipe 12 = .ok (.invokevirtual 60, 3) := by decide +kernel
theorem dX7_wipe_15 : decode cX7_wipe 15 = .ok (.iload_n 1, 1) := by decide +kernel
theorem dX7_wipe_16 : decode cX7_wipe 16 = .ok (.ireturn, 1) := by decide +kernel
set_option maxRecDepth 20000 in
theorem ggX7_fault_X6_firstFault : GoodIn wsX7_fault wsX6_firstFault := goodIn_r _ [6, 7, 8, 9, 10, 5, 11, 12, 13, 14, 15, 16, 17, 18, 19, 20, 21, 22, 23, 24, 25, 26, 27, 28, 29, 30, 31, 32, 33, 40, 41] (by decide +kernel) (by decide +kernel)
set_option maxRecDepth 20000 in
theorem gX7_fault_X6_firstFault : GoodIn wsX7_fault (wsV RX7 67 RX6 yX6_firstFault wsX6_firstFault) := goodIn_app (goodIn_of _ (by decide +kernel)) ggX7_fault_X6_firstFault
theorem dX7_fault_0 : decode cX7_fault 0 = .ok (.aload_n 0, 1) := by decide +kernel
theorem dX7_fault_1 : decode cX7_fault 1 = .ok (.getfield 10, 3) := by decide +kernel
theorem dX7_fault_4 : decode cX7_fault 4 = .ok (.invokevirtual 67, 3) := by decide +kernel
theorem dX7_fault_7 : decode cX7_fault 7 = .ok (.ireturn, 1) := by decide +kernel
set_option maxRecDepth 20000 in
theorem ggX7_lay_X6_firstFault : GoodIn wsX7_lay wsX6_firstFault := goodIn_r _ [10, 11, 12, 13, 14, 9, 15, 16, 17, 18, 19, 20, 21, 22, 23, 24, 25, 26, 27, 28, 29, 30, 31, 32, 33, 34, 35, 36, 37, 140, 141] (by decide +kernel) (by decide +kernel)
set_option maxRecDepth 20000 in
theorem gX7_lay_X6_firstFault : GoodIn wsX7_lay (wsV RX7 67 RX6 yX6_firstFault wsX6_firstFault) := goodIn_app (goodIn_of _ (by decide +kernel)) ggX7_lay_X6_firstFault
set_option maxRecDepth 20000 in
theorem ggX7_lay_X6_tellsLink : GoodIn wsX7_lay wsX6_tellsLink := goodIn_r _ [41, 11, 12, 13, 14, 9, 15, 16, 140, 141] (by decide +kernel) (by decide +kernel)
set_option maxRecDepth 20000 in
theorem gX7_lay_X6_tellsLink : GoodIn wsX7_lay (wsV RX7 70 RX6 yX6_tellsLink wsX6_tellsLink) := goodIn_app (goodIn_of _ (by decide +kernel)) ggX7_lay_X6_tellsLink
set_option maxRecDepth 20000 in
theorem ggX7_lay_X4_layOut : GoodIn wsX7_lay wsX4_layOut := goodIn_r _ [46, 47, 48, 49, 50, 45, 51, 52, 53, 54, 55, 56, 57, 58, 59, 60, 61, 62, 63, 64, 65, 66, 67, 68, 69, 70, 71, 72, 73, 74, 75, 76, 77, 78, 79, 80, 81, 82, 83, 84, 85, 86, 87, 88, 89, 90, 91, 92, 93, 94, 95, 96, 97, 98, 99, 100, 101, 102, 103, 104, 105, 13, 14, 9, 15, 11, 16, 106, 107, 108, 109, 110, 111, 112, 113, 114, 26, 27, 28, 12, 115, 116, 117, 118, 119, 35, 36, 37, 21, 22, 23, 24, 140, 141, 133, 134, 135, 136, 137, 138, 139, 142, 143, 144, 145, 146, 147, 148, 149, 150, 151, 152, 153, 154, 155, 156, 157, 158, 159, 160, 161, 162, 163] (by decide +kernel) (by decide +kernel)
set_option maxRecDepth 20000 in
theorem gX7_lay_X4_layOut : GoodIn wsX7_lay (wsV RX7 56 RX4 yX4_layOut wsX4_layOut) := goodIn_app (goodIn_of _ (by decide +kernel)) ggX7_lay_X4_layOut
set_option maxRecDepth 20000 in
theorem ggX7_lay_X2_clear : GoodIn wsX7_lay wsX2_clear := goodIn_r _ [124, 125, 126, 164, 165, 166] (by decide +kernel) (by decide +kernel)
set_option maxRecDepth 20000 in
theorem gX7_lay_X2_clear : GoodIn wsX7_lay (wsV RX7 74 RX2 yX2_clear wsX2_clear) := goodIn_app (goodIn_of _ (by decide +kernel)) ggX7_lay_X2_clear
theorem dX7_lay_0 : decode cX7_lay 0 = .ok (.aload_n 0, 1) := by decide +kernel
theorem dX7_lay_1 : decode cX7_lay 1 = .ok (.getfield 10, 3) := by decide +kernel
theorem dX7_lay_4 : decode cX7_lay 4 = .ok (.invokevirtual 67, 3) := by decide +kernel
theorem dX7_lay_7 : decode cX7_lay 7 = .ok (.bipush (-4), 2) := by decide +kernel
theorem dX7_lay_9 : decode cX7_lay 9 = .ok (.if_icmp .ne 13, 3) := by decide +kernel
theorem dX7_lay_12 : decode cX7_lay 12 = .ok (.aload_n 0, 1) := by decide +kernel
theorem dX7_lay_13 : decode cX7_lay 13 = .ok (.getfield 10, 3) := by decide +kernel
theorem dX7_lay_16 : decode cX7_lay 16 = .ok (.invokevirtual 70, 3) := by decide +kernel
theorem dX7_lay_19 : decode cX7_lay 19 = .ok (.ifCond .ne 6, 3) := by decide +kernel
theorem dX7_lay_22 : decode cX7_lay 22 = .ok (.bipush (-2), 2) := by decide +kernel
theorem dX7_lay_24 : decode cX7_lay 24 = .ok (.ireturn, 1) := by decide +kernel
theorem dX7_lay_25 : decode cX7_lay 25 = .ok (.aload_n 0, 1) := by decide +kernel
theorem dX7_lay_26 : decode cX7_lay 26 = .ok (.getfield 19, 3) := by decide +kernel
theorem dX7_lay_29 : decode cX7_lay 29 = .ok (.aload_n 0, 1) := by decide +kernel
theorem dX7_lay_30 : decode cX7_lay 30 = .ok (.getfield 10, 3) := by decide +kernel
theorem dX7_lay_33 : decode cX7_lay 33 = .ok (.invokevirtual 56, 3) := by decide +kernel
theorem dX7_lay_36 : decode cX7_lay 36 = .ok (.aload_n 0, 1) := by decide +kernel
theorem dX7_lay_37 : decode cX7_lay 37 = .ok (.getfield 26, 3) := by decide +kernel
theorem dX7_lay_40 : decode cX7_lay 40 = .ok (.invokevirtual 74, 3) := by decide +kernel
theorem dX7_lay_43 : decode cX7_lay 43 = .ok (.iconst 0, 1) := by decide +kernel
theorem dX7_lay_44 : decode cX7_lay 44 = .ok (.istore_n 1, 1) := by decide +kernel
theorem dX7_lay_45 : decode cX7_lay 45 = .ok (.iload_n 1, 1) := by decide +kernel
theorem dX7_lay_46 : decode cX7_lay 46 = .ok (.aload_n 0, 1) := by decide +kernel
theorem dX7_lay_47 : decode cX7_lay 47 = .ok (.getfield 30, 3) := by decide +kernel
theorem dX7_lay_50 : decode cX7_lay 50 = .ok (.arraylength, 1) := by decide +kernel
theorem dX7_lay_51 : decode cX7_lay 51 = .ok (.if_icmp .ge 16, 3) := by decide +kernel
theorem dX7_lay_54 : decode cX7_lay 54 = .ok (.aload_n 0, 1) := by decide +kernel
theorem dX7_lay_55 : decode cX7_lay 55 = .ok (.getfield 30, 3) := by decide +kernel
theorem dX7_lay_58 : decode cX7_lay 58 = .ok (.iload_n 1, 1) := by decide +kernel
theorem dX7_lay_59 : decode cX7_lay 59 = .ok (.iconst 0, 1) := by decide +kernel
theorem dX7_lay_60 : decode cX7_lay 60 = .ok (.iastore, 1) := by decide +kernel
theorem dX7_lay_61 : decode cX7_lay 61 = .ok (.iinc 1 1, 3) := by decide +kernel
theorem dX7_lay_64 : decode cX7_lay 64 = .ok (.goto (-19), 3) := by decide +kernel
theorem dX7_lay_67 : decode cX7_lay 67 = .ok (.aload_n 0, 1) := by decide +kernel
theorem dX7_lay_68 : decode cX7_lay 68 = .ok (.getfield 19, 3) := by decide +kernel
theorem dX7_lay_71 : decode cX7_lay 71 = .ok (.getfield 75, 3) := by decide +kernel
theorem dX7_lay_74 : decode cX7_lay 74 = .ok (.ireturn, 1) := by decide +kernel
set_option maxRecDepth 20000 in
theorem ggX7_plug_X4_portOf : GoodIn wsX7_plug wsX4_portOf := goodIn_r _ [9, 10, 11, 12, 13, 8, 14, 15, 16, 17, 18, 19, 20, 21, 22, 114, 115, 116, 117, 118, 119, 120, 121, 122, 123, 124] (by decide +kernel) (by decide +kernel)
set_option maxRecDepth 20000 in
theorem gX7_plug_X4_portOf : GoodIn wsX7_plug (wsV RX7 78 RX4 yX4_portOf wsX4_portOf) := goodIn_app (goodIn_of _ (by decide +kernel)) ggX7_plug_X4_portOf
set_option maxRecDepth 20000 in
theorem ggX7_plug_X7_isZeroOrOne : GoodIn wsX7_plug wsX7_isZeroOrOne := goodIn_r _ [26] (by decide +kernel) (by decide +kernel)
set_option maxRecDepth 20000 in
theorem gX7_plug_X7_isZeroOrOne : GoodIn wsX7_plug (va_wsS RX7 82 yX7_isZeroOrOne wsX7_isZeroOrOne) := goodIn_app (goodIn_of _ (by decide +kernel)) ggX7_plug_X7_isZeroOrOne
set_option maxRecDepth 20000 in
theorem ggX7_plug_X2_keep : GoodIn wsX7_plug wsX2_keep := goodIn_r _ [31, 32, 33, 34, 35, 36, 37, 38, 39, 40, 41, 8, 42, 15, 16, 10, 43, 44, 45, 46, 47, 48, 49, 20, 50, 51, 22, 52, 53, 54, 55, 56, 57, 58, 59, 60, 61, 62, 63, 64, 65, 66, 67, 68, 69, 70, 71, 72, 73, 74, 75, 76, 77, 78, 79, 80, 81, 82, 83, 84, 85, 125, 126, 127, 114, 115, 116, 117, 118, 119, 120, 121, 122, 123, 124, 103, 104, 105, 106, 107, 108, 109, 110, 111, 112, 113, 128, 129, 130, 131, 132, 133, 134] (by decide +kernel) (by decide +kernel)
set_option maxRecDepth 20000 in
theorem gX7_plug_X2_keep : GoodIn wsX7_plug (wsV RX7 91 RX2 yX2_keep wsX2_keep) := goodIn_app (goodIn_of _ (by decide +kernel)) ggX7_plug_X2_keep
set_option maxRecDepth 20000 in
theorem ggX7_plug_X4_plugLink : GoodIn wsX7_plug wsX4_plugLink := goodIn_r _ [89, 90, 91, 6, 7, 8, 9, 10, 11, 12, 13, 14, 15, 16, 17, 18, 19, 20, 21, 22, 103, 104, 105, 106, 107, 108, 109, 110, 111, 112, 113, 114, 115, 116, 117, 118, 119, 120, 121, 122, 123, 124] (by decide +kernel) (by decide +kernel)
set_option maxRecDepth 20000 in
theorem gX7_plug_X4_plugLink : GoodIn wsX7_plug (wsV RX7 95 RX4 yX4_plugLink wsX4_plugLink) := goodIn_app (goodIn_of _ (by decide +kernel)) ggX7_plug_X4_plugLink
set_option maxRecDepth 20000 in
theorem ggX7_plug_X0_howManyUp : GoodIn wsX7_plug wsX0_howManyUp := goodIn_r _ [95, 22, 96, 121, 122, 123, 124, 103, 104, 105, 106, 107, 108, 109, 110, 111, 112, 113] (by decide +kernel) (by decide +kernel)
set_option maxRecDepth 20000 in
theorem gX7_plug_X0_howManyUp : GoodIn wsX7_plug (wsV RX7 103 RX0 yX0_howManyUp wsX0_howManyUp) := goodIn_app (goodIn_of _ (by decide +kernel)) ggX7_plug_X0_howManyUp
theorem dX7_plug_0 : decode cX7_plug 0 = .ok (.aload_n 0, 1) := by decide +kernel
theorem dX7_plug_1 : decode cX7_plug 1 = .ok (.getfield 19, 3) := by decide +kernel
theorem dX7_plug_4 : decode cX7_plug 4 = .ok (.iconst 0, 1) := by decide +kernel
theorem dX7_plug_5 : decode cX7_plug 5 = .ok (.iload_n 1, 1) := by decide +kernel
theorem dX7_plug_6 : decode cX7_plug 6 = .ok (.invokevirtual 78, 3) := by decide +kernel
theorem dX7_plug_9 : decode cX7_plug 9 = .ok (.astore_n 3, 1) := by decide +kernel
theorem dX7_plug_10 : decode cX7_plug 10 = .ok (.aload_n 3, 1) := by decide +kernel
theorem dX7_plug_11 : decode cX7_plug 11 = .ok (.ifnull 10, 3) := by decide +kernel
theorem dX7_plug_14 : decode cX7_plug 14 = .ok (.iload_n 2, 1) := by decide +kernel
theorem dX7_plug_15 : decode cX7_plug 15 = .ok (.invokestatic 82, 3) := by decide +kernel
theorem dX7_plug_18 : decode cX7_plug 18 = .ok (.ifCond .ne 5, 3) := by decide +kernel
theorem dX7_plug_21 : decode cX7_plug 21 = .ok (.iconst (-1), 1) := by decide +kernel
theorem dX7_plug_22 : decode cX7_plug 22 = .ok (.ireturn, 1) := by decide +kernel
theorem dX7_plug_23 : decode cX7_plug 23 = .ok (.iload_n 2, 1) := by decide +kernel
theorem dX7_plug_24 : decode cX7_plug 24 = .ok (.iconst 1, 1) := by decide +kernel
theorem dX7_plug_25 : decode cX7_plug 25 = .ok (.if_icmp .ne 7, 3) := by decide +kernel
theorem dX7_plug_28 : decode cX7_plug 28 = .ok (.iconst 1, 1) := by decide +kernel
theorem dX7_plug_29 : decode cX7_plug 29 = .ok (.goto 4, 3) := by decide +kernel
theorem dX7_plug_32 : decode cX7_plug 32 = .ok (.iconst 0, 1) := by decide +kernel
theorem dX7_plug_33 : decode cX7_plug 33 = .ok (.istore 4, 2) := by decide +kernel
theorem dX7_plug_35 : decode cX7_plug 35 = .ok (.aload_n 3, 1) := by decide +kernel
theorem dX7_plug_36 : decode cX7_plug 36 = .ok (.getfield 85, 3) := by decide +kernel
theorem dX7_plug_39 : decode cX7_plug 39 = .ok (.iload 4, 2) := by decide +kernel
theorem dX7_plug_41 : decode cX7_plug 41 = .ok (.if_icmp .ne 6, 3) := by decide +kernel
theorem dX7_plug_44 : decode cX7_plug 44 = .ok (.bipush (-2), 2) := by decide +kernel
theorem dX7_plug_46 : decode cX7_plug 46 = .ok (.ireturn, 1) := by decide +kernel
theorem dX7_plug_47 : decode cX7_plug 47 = .ok (.aload_n 0, 1) := by decide +kernel
theorem dX7_plug_48 : decode cX7_plug 48 = .ok (.getfield 26, 3) := by decide +kernel
theorem dX7_plug_51 : decode cX7_plug 51 = .ok (.aload_n 0, 1) := by decide +kernel
theorem dX7_plug_52 : decode cX7_plug 52 = .ok (.getfield 19, 3) := by decide +kernel
theorem dX7_plug_55 : decode cX7_plug 55 = .ok (.invokevirtual 91, 3) := by decide +kernel
theorem dX7_plug_58 : decode cX7_plug 58 = .ok (.aload_n 0, 1) := by decide +kernel
theorem dX7_plug_59 : decode cX7_plug 59 = .ok (.getfield 19, 3) := by decide +kernel
theorem dX7_plug_62 : decode cX7_plug 62 = .ok (.iload_n 1, 1) := by decide +kernel
theorem dX7_plug_63 : decode cX7_plug 63 = .ok (.iload 4, 2) := by decide +kernel
theorem dX7_plug_65 : decode cX7_plug 65 = .ok (.invokevirtual 95, 3) := by decide +kernel
theorem dX7_plug_68 : decode cX7_plug 68 = .ok (.aload_n 0, 1) := by decide +kernel
theorem dX7_plug_69 : decode cX7_plug 69 = .ok (.getfield 19, 3) := by decide +kernel
theorem dX7_plug_72 : decode cX7_plug 72 = .ok (.getfield 99, 3) := by decide +kernel
theorem dX7_plug_75 : decode cX7_plug 75 = .ok (.invokevirtual 103, 3) := by decide +kernel
theorem dX7_plug_78 : decode cX7_plug 78 = .ok (.ireturn, 1) := by decide +kernel
set_option maxRecDepth 20000 in
theorem ggX7_mute_X4_endOf : GoodIn wsX7_mute wsX4_endOf := goodIn_r _ [8, 9, 10, 108, 109, 110, 111, 112, 113, 114] (by decide +kernel) (by decide +kernel)
set_option maxRecDepth 20000 in
theorem gX7_mute_X4_endOf : GoodIn wsX7_mute (wsV RX7 108 RX4 yX4_endOf wsX4_endOf) := goodIn_app (goodIn_of _ (by decide +kernel)) ggX7_mute_X4_endOf
set_option maxRecDepth 20000 in
theorem ggX7_mute_X4_portOf : GoodIn wsX7_mute wsX4_portOf := goodIn_r _ [14, 15, 16, 5, 6, 7, 8, 9, 10, 17, 18, 19, 20, 21, 22, 108, 109, 110, 111, 112, 113, 114, 115, 116, 117, 118] (by decide +kernel) (by decide +kernel)
set_option maxRecDepth 20000 in
theorem gX7_mute_X4_portOf : GoodIn wsX7_mute (wsV RX7 78 RX4 yX4_portOf wsX4_portOf) := goodIn_app (goodIn_of _ (by decide +kernel)) ggX7_mute_X4_portOf
set_option maxRecDepth 20000 in
theorem ggX7_mute_X7_isZeroOrOne : GoodIn wsX7_mute wsX7_isZeroOrOne := goodIn_r _ [26] (by decide +kernel) (by decide +kernel)
set_option maxRecDepth 20000 in
theorem gX7_mute_X7_isZeroOrOne : GoodIn wsX7_mute (va_wsS RX7 82 yX7_isZeroOrOne wsX7_isZeroOrOne) := goodIn_app (goodIn_of _ (by decide +kernel)) ggX7_mute_X7_isZeroOrOne
set_option maxRecDepth 20000 in
theorem ggX7_mute_X2_keep : GoodIn wsX7_mute wsX2_keep := goodIn_r _ [31, 32, 33, 34, 35, 36, 37, 38, 39, 40, 41, 7, 42, 9, 10, 15, 43, 44, 45, 46, 47, 48, 49, 20, 50, 51, 22, 52, 53, 54, 55, 56, 57, 58, 59, 60, 61, 62, 63, 64, 65, 66, 67, 68, 69, 70, 71, 72, 73, 74, 75, 76, 77, 78, 79, 80, 81, 82, 83, 84, 85, 119, 120, 121, 108, 109, 110, 111, 112, 113, 114, 115, 116, 117, 118, 97, 98, 99, 100, 101, 102, 103, 104, 105, 106, 107, 122, 123, 124, 125, 126, 127, 128] (by decide +kernel) (by decide +kernel)
set_option maxRecDepth 20000 in
theorem gX7_mute_X2_keep : GoodIn wsX7_mute (wsV RX7 91 RX2 yX2_keep wsX2_keep) := goodIn_app (goodIn_of _ (by decide +kernel)) ggX7_mute_X2_keep
set_option maxRecDepth 20000 in
theorem ggX7_mute_X0_howManyMuted : GoodIn wsX7_mute wsX0_howManyMuted := goodIn_r _ [89, 22, 90, 115, 116, 117, 118, 97, 98, 99, 100, 101, 102, 103, 104, 105, 106, 107] (by decide +kernel) (by decide +kernel)
set_option maxRecDepth 20000 in
theorem gX7_mute_X0_howManyMuted : GoodIn wsX7_mute (wsV RX7 115 RX0 yX0_howManyMuted wsX0_howManyMuted) := goodIn_app (goodIn_of _ (by decide +kernel)) ggX7_mute_X0_howManyMuted
theorem dX7_mute_0 : decode cX7_mute 0 = .ok (.aload_n 0, 1) := by decide +kernel
theorem dX7_mute_1 : decode cX7_mute 1 = .ok (.getfield 19, 3) := by decide +kernel
theorem dX7_mute_4 : decode cX7_mute 4 = .ok (.iload_n 1, 1) := by decide +kernel
theorem dX7_mute_5 : decode cX7_mute 5 = .ok (.invokevirtual 108, 3) := by decide +kernel
theorem dX7_mute_8 : decode cX7_mute 8 = .ok (.astore 4, 2) := by decide +kernel
theorem dX7_mute_10 : decode cX7_mute 10 = .ok (.aload_n 0, 1) := by decide +kernel
theorem dX7_mute_11 : decode cX7_mute 11 = .ok (.getfield 19, 3) := by decide +kernel
theorem dX7_mute_14 : decode cX7_mute 14 = .ok (.iload_n 1, 1) := by decide +kernel
theorem dX7_mute_15 : decode cX7_mute 15 = .ok (.iload_n 2, 1) := by decide +kernel
theorem dX7_mute_16 : decode cX7_mute 16 = .ok (.invokevirtual 78, 3) := by decide +kernel
theorem dX7_mute_19 : decode cX7_mute 19 = .ok (.astore 5, 2) := by decide +kernel
theorem dX7_mute_21 : decode cX7_mute 21 = .ok (.aload 4, 2) := by decide +kernel
theorem dX7_mute_23 : decode cX7_mute 23 = .ok (.ifnull 15, 3) := by decide +kernel
theorem dX7_mute_26 : decode cX7_mute 26 = .ok (.aload 5, 2) := by decide +kernel
theorem dX7_mute_28 : decode cX7_mute 28 = .ok (.ifnull 10, 3) := by decide +kernel
theorem dX7_mute_31 : decode cX7_mute 31 = .ok (.iload_n 3, 1) := by decide +kernel
theorem dX7_mute_32 : decode cX7_mute 32 = .ok (.invokestatic 82, 3) := by decide +kernel
theorem dX7_mute_35 : decode cX7_mute 35 = .ok (.ifCond .ne 5, 3) := by decide +kernel
theorem dX7_mute_38 : decode cX7_mute 38 = .ok (.iconst (-1), 1) := by decide +kernel
theorem dX7_mute_39 : decode cX7_mute 39 = .ok (.ireturn, 1) := by decide +kernel
theorem dX7_mute_40 : decode cX7_mute 40 = .ok (.iload_n 3, 1) := by decide +kernel
theorem dX7_mute_41 : decode cX7_mute 41 = .ok (.iconst 1, 1) := by decide +kernel
theorem dX7_mute_42 : decode cX7_mute 42 = .ok (.if_icmp .ne 7, 3) := by decide +kernel
theorem dX7_mute_45 : decode cX7_mute 45 = .ok (.iconst 1, 1) := by decide +kernel
theorem dX7_mute_46 : decode cX7_mute 46 = .ok (.goto 4, 3) := by decide +kernel
theorem dX7_mute_49 : decode cX7_mute 49 = .ok (.iconst 0, 1) := by decide +kernel
theorem dX7_mute_50 : decode cX7_mute 50 = .ok (.istore 6, 2) := by decide +kernel
theorem dX7_mute_52 : decode cX7_mute 52 = .ok (.aload 5, 2) := by decide +kernel
theorem dX7_mute_54 : decode cX7_mute 54 = .ok (.getfield 112, 3) := by decide +kernel
theorem dX7_mute_57 : decode cX7_mute 57 = .ok (.iload 6, 2) := by decide +kernel
theorem dX7_mute_59 : decode cX7_mute 59 = .ok (.if_icmp .ne 6, 3) := by decide +kernel
theorem dX7_mute_62 : decode cX7_mute 62 = .ok (.bipush (-2), 2) := by decide +kernel
theorem dX7_mute_64 : decode cX7_mute 64 = .ok (.ireturn, 1) := by decide +kernel
theorem dX7_mute_65 : decode cX7_mute 65 = .ok (.aload_n 0, 1) := by decide +kernel
theorem dX7_mute_66 : decode cX7_mute 66 = .ok (.getfield 26, 3) := by decide +kernel
theorem dX7_mute_69 : decode cX7_mute 69 = .ok (.aload_n 0, 1) := by decide +kernel
theorem dX7_mute_70 : decode cX7_mute 70 = .ok (.getfield 19, 3) := by decide +kernel
theorem dX7_mute_73 : decode cX7_mute 73 = .ok (.invokevirtual 91, 3) := by decide +kernel
theorem dX7_mute_76 : decode cX7_mute 76 = .ok (.aload 5, 2) := by decide +kernel
theorem dX7_mute_78 : decode cX7_mute 78 = .ok (.iload 6, 2) := by decide +kernel
theorem dX7_mute_80 : decode cX7_mute 80 = .ok (.putfield 112, 3) := by decide +kernel
theorem dX7_mute_83 : decode cX7_mute 83 = .ok (.aload 4, 2) := by decide +kernel
theorem dX7_mute_85 : decode cX7_mute 85 = .ok (.invokevirtual 115, 3) := by decide +kernel
theorem dX7_mute_88 : decode cX7_mute 88 = .ok (.ireturn, 1) := by decide +kernel
set_option maxRecDepth 20000 in
theorem ggX7_tell_X4_portOf : GoodIn wsX7_tell wsX4_portOf := goodIn_r _ [9, 10, 11, 12, 13, 8, 14, 15, 16, 17, 18, 19, 20, 21, 22, 106, 107, 108, 109, 110, 111, 112, 113, 114, 115, 116] (by decide +kernel) (by decide +kernel)
set_option maxRecDepth 20000 in
theorem gX7_tell_X4_portOf : GoodIn wsX7_tell (wsV RX7 78 RX4 yX4_portOf wsX4_portOf) := goodIn_app (goodIn_of _ (by decide +kernel)) ggX7_tell_X4_portOf
set_option maxRecDepth 20000 in
theorem ggX7_tell_X7_isZeroOrOne : GoodIn wsX7_tell wsX7_isZeroOrOne := goodIn_r _ [26] (by decide +kernel) (by decide +kernel)
set_option maxRecDepth 20000 in
theorem gX7_tell_X7_isZeroOrOne : GoodIn wsX7_tell (va_wsS RX7 82 yX7_isZeroOrOne wsX7_isZeroOrOne) := goodIn_app (goodIn_of _ (by decide +kernel)) ggX7_tell_X7_isZeroOrOne
set_option maxRecDepth 20000 in
theorem ggX7_tell_X7_isFigure : GoodIn wsX7_tell wsX7_isFigure := goodIn_r _ [29] (by decide +kernel) (by decide +kernel)
set_option maxRecDepth 20000 in
theorem gX7_tell_X7_isFigure : GoodIn wsX7_tell (va_wsS RX7 118 yX7_isFigure wsX7_isFigure) := goodIn_app (goodIn_of _ (by decide +kernel)) ggX7_tell_X7_isFigure
set_option maxRecDepth 20000 in
theorem ggX7_tell_X2_keep : GoodIn wsX7_tell wsX2_keep := goodIn_r _ [34, 35, 36, 37, 38, 39, 40, 41, 42, 43, 44, 8, 45, 15, 16, 10, 46, 47, 48, 49, 50, 51, 52, 20, 53, 54, 22, 55, 56, 57, 58, 59, 60, 61, 62, 63, 64, 65, 66, 67, 68, 69, 70, 71, 72, 73, 74, 75, 76, 77, 78, 79, 80, 81, 82, 83, 84, 85, 86, 87, 88, 117, 118, 119, 106, 107, 108, 109, 110, 111, 112, 113, 114, 115, 116, 95, 96, 97, 98, 99, 100, 101, 102, 103, 104, 105, 120, 121, 122, 123, 124, 125, 126] (by decide +kernel) (by decide +kernel)
set_option maxRecDepth 20000 in
theorem gX7_tell_X2_keep : GoodIn wsX7_tell (wsV RX7 91 RX2 yX2_keep wsX2_keep) := goodIn_app (goodIn_of _ (by decide +kernel)) ggX7_tell_X2_keep
theorem dX7_tell_0 : decode cX7_tell 0 = .ok (.aload_n 0, 1) := by decide +kernel
theorem dX7_tell_1 : decode cX7_tell 1 = .ok (.getfield 19, 3) := by decide +kernel
theorem dX7_tell_4 : decode cX7_tell 4 = .ok (.iload_n 1, 1) := by decide +kernel
theorem dX7_tell_5 : decode cX7_tell 5 = .ok (.iload_n 2, 1) := by decide +kernel
theorem dX7_tell_6 : decode cX7_tell 6 = .ok (.invokevirtual 78, 3) := by decide +kernel
theorem dX7_tell_9 : decode cX7_tell 9 = .ok (.astore 5, 2) := by decide +kernel
theorem dX7_tell_11 : decode cX7_tell 11 = .ok (.aload 5, 2) := by decide +kernel
theorem dX7_tell_13 : decode cX7_tell 13 = .ok (.ifnull 18, 3) := by decide +kernel
theorem dX7_tell_16 : decode cX7_tell 16 = .ok (.iload_n 3, 1) := by decide +kernel
theorem dX7_tell_17 : decode cX7_tell 17 = .ok (.invokestatic 82, 3) := by decide +kernel
theorem dX7_tell_20 : decode cX7_tell 20 = .ok (.ifCond .eq 11, 3) := by decide +kernel
theorem dX7_tell_23 : decode cX7_tell 23 = .ok (.iload 4, 2) := by decide +kernel
theorem dX7_tell_25 : decode cX7_tell 25 = .ok (.invokestatic 118, 3) := by decide +kernel
theorem dX7_tell_28 : decode cX7_tell 28 = .ok (.ifCond .ne 5, 3) := by decide +kernel
theorem dX7_tell_31 : decode cX7_tell 31 = .ok (.iconst (-1), 1) := by decide +kernel
theorem dX7_tell_32 : decode cX7_tell 32 = .ok (.ireturn, 1) := by decide +kernel
theorem dX7_tell_33 : decode cX7_tell 33 = .ok (.iload_n 3, 1) := by decide +kernel
theorem dX7_tell_34 : decode cX7_tell 34 = .ok (.ifCond .ne 11, 3) := by decide +kernel
theorem dX7_tell_37 : decode cX7_tell 37 = .ok (.aload 5, 2) := by decide +kernel
theorem dX7_tell_39 : decode cX7_tell 39 = .ok (.getfield 121, 3) := by decide +kernel
theorem dX7_tell_42 : decode cX7_tell 42 = .ok (.goto 8, 3) := by decide +kernel
theorem dX7_tell_45 : decode cX7_tell 45 = .ok (.aload 5, 2) := by decide +kernel
theorem dX7_tell_47 : decode cX7_tell 47 = .ok (.getfield 124, 3) := by decide +kernel
theorem dX7_tell_50 : decode cX7_tell 50 = .ok (.istore 6, 2) := by decide +kernel
theorem dX7_tell_52 : decode cX7_tell 52 = .ok (.iload 6, 2) := by decide +kernel
theorem dX7_tell_54 : decode cX7_tell 54 = .ok (.iload 4, 2) := by decide +kernel
theorem dX7_tell_56 : decode cX7_tell 56 = .ok (.if_icmp .ne 6, 3) := by decide +kernel
theorem dX7_tell_59 : decode cX7_tell 59 = .ok (.bipush (-2), 2) := by decide +kernel
theorem dX7_tell_61 : decode cX7_tell 61 = .ok (.ireturn, 1) := by decide +kernel
theorem dX7_tell_62 : decode cX7_tell 62 = .ok (.aload_n 0, 1) := by decide +kernel
theorem dX7_tell_63 : decode cX7_tell 63 = .ok (.getfield 26, 3) := by decide +kernel
theorem dX7_tell_66 : decode cX7_tell 66 = .ok (.aload_n 0, 1) := by decide +kernel
theorem dX7_tell_67 : decode cX7_tell 67 = .ok (.getfield 19, 3) := by decide +kernel
theorem dX7_tell_70 : decode cX7_tell 70 = .ok (.invokevirtual 91, 3) := by decide +kernel
theorem dX7_tell_73 : decode cX7_tell 73 = .ok (.iload_n 3, 1) := by decide +kernel
theorem dX7_tell_74 : decode cX7_tell 74 = .ok (.ifCond .ne 13, 3) := by decide +kernel
theorem dX7_tell_77 : decode cX7_tell 77 = .ok (.aload 5, 2) := by decide +kernel
theorem dX7_tell_79 : decode cX7_tell 79 = .ok (.iload 4, 2) := by decide +kernel
theorem dX7_tell_81 : decode cX7_tell 81 = .ok (.putfield 121, 3) := by decide +kernel
theorem dX7_tell_84 : decode cX7_tell 84 = .ok (.goto 10, 3) := by decide +kernel
theorem dX7_tell_87 : decode cX7_tell 87 = .ok (.aload 5, 2) := by decide +kernel
theorem dX7_tell_89 : decode cX7_tell 89 = .ok (.iload 4, 2) := by decide +kernel
theorem dX7_tell_91 : decode cX7_tell 91 = .ok (.putfield 124, 3) := by decide +kernel
theorem dX7_tell_94 : decode cX7_tell 94 = .ok (.iload 6, 2) := by decide +kernel
theorem dX7_tell_96 : decode cX7_tell 96 = .ok (.ireturn, 1) := by decide +kernel
set_option maxRecDepth 20000 in
theorem ggX7_set_X7_isMost : GoodIn wsX7_set wsX7_isMost := goodIn_r _ [6] (by decide +kernel) (by decide +kernel)
set_option maxRecDepth 20000 in
theorem gX7_set_X7_isMost : GoodIn wsX7_set (va_wsS RX7 127 yX7_isMost wsX7_isMost) := goodIn_app (goodIn_of _ (by decide +kernel)) ggX7_set_X7_isMost
set_option maxRecDepth 20000 in
theorem ggX7_set_X7_isFigure : GoodIn wsX7_set wsX7_isFigure := goodIn_r _ [9] (by decide +kernel) (by decide +kernel)
set_option maxRecDepth 20000 in
theorem gX7_set_X7_isFigure : GoodIn wsX7_set (va_wsS RX7 118 yX7_isFigure wsX7_isFigure) := goodIn_app (goodIn_of _ (by decide +kernel)) ggX7_set_X7_isFigure
set_option maxRecDepth 20000 in
theorem ggX7_set_X4_setting : GoodIn wsX7_set wsX4_setting := goodIn_r _ [14, 15, 16, 17, 18, 90, 91, 92, 93, 94, 95, 96, 97, 98, 99, 100] (by decide +kernel) (by decide +kernel)
set_option maxRecDepth 20000 in
theorem gX7_set_X4_setting : GoodIn wsX7_set (wsV RX7 130 RX4 yX4_setting wsX4_setting) := goodIn_app (goodIn_of _ (by decide +kernel)) ggX7_set_X4_setting
set_option maxRecDepth 20000 in
theorem ggX7_set_X2_keep : GoodIn wsX7_set wsX2_keep := goodIn_r _ [23, 24, 25, 26, 27, 28, 29, 30, 31, 32, 33, 13, 34, 15, 17, 35, 18, 36, 37, 38, 39, 40, 41, 42, 43, 44, 45, 46, 47, 48, 49, 50, 51, 52, 53, 54, 55, 56, 57, 58, 59, 60, 61, 62, 63, 64, 65, 66, 67, 68, 69, 70, 71, 72, 73, 74, 75, 76, 77, 78, 79, 101, 102, 103, 90, 91, 92, 93, 94, 95, 96, 97, 98, 99, 100, 104, 105, 106, 107, 108, 109, 110, 111, 112, 113, 114, 115, 116, 117, 118, 119, 120, 121] (by decide +kernel) (by decide +kernel)
set_option maxRecDepth 20000 in
theorem gX7_set_X2_keep : GoodIn wsX7_set (wsV RX7 91 RX2 yX2_keep wsX2_keep) := goodIn_app (goodIn_of _ (by decide +kernel)) ggX7_set_X2_keep
set_option maxRecDepth 20000 in
theorem ggX7_set_X4_changeSetting : GoodIn wsX7_set wsX4_changeSetting := goodIn_r _ [83, 15, 16, 17, 18, 90, 91, 92, 93, 94, 95, 96, 97, 98, 99, 100] (by decide +kernel) (by decide +kernel)
set_option maxRecDepth 20000 in
theorem gX7_set_X4_changeSetting : GoodIn wsX7_set (wsV RX7 134 RX4 yX4_changeSetting wsX4_changeSetting) := goodIn_app (goodIn_of _ (by decide +kernel)) ggX7_set_X4_changeSetting
theorem dX7_set_0 : decode cX7_set 0 = .ok (.iload_n 1, 1) := by decide +kernel
theorem dX7_set_1 : decode cX7_set 1 = .ok (.ifCond .lt 30, 3) := by decide +kernel
theorem dX7_set_4 : decode cX7_set 4 = .ok (.iload_n 1, 1) := by decide +kernel
theorem dX7_set_5 : decode cX7_set 5 = .ok (.iconst 2, 1) := by decide +kernel
theorem dX7_set_6 : decode cX7_set 6 = .ok (.if_icmp .gt 25, 3) := by decide +kernel
theorem dX7_set_9 : decode cX7_set 9 = .ok (.iload_n 1, 1) := by decide +kernel
theorem dX7_set_10 : decode cX7_set 10 = .ok (.iconst 2, 1) := by decide +kernel
theorem dX7_set_11 : decode cX7_set 11 = .ok (.if_icmp .ne 13, 3) := by decide +kernel
theorem dX7_set_14 : decode cX7_set 14 = .ok (.iload_n 2, 1) := by decide +kernel
theorem dX7_set_15 : decode cX7_set 15 = .ok (.invokestatic 127, 3) := by decide +kernel
theorem dX7_set_18 : decode cX7_set 18 = .ok (.ifCond .ne 15, 3) := by decide +kernel
theorem dX7_set_21 : decode cX7_set 21 = .ok (.goto 10, 3) := by decide +kernel
theorem dX7_set_24 : decode cX7_set 24 = .ok (.iload_n 2, 1) := by decide +kernel
theorem dX7_set_25 : decode cX7_set 25 = .ok (.invokestatic 118, 3) := by decide +kernel
theorem dX7_set_28 : decode cX7_set 28 = .ok (.ifCond .ne 5, 3) := by decide +kernel
theorem dX7_set_31 : decode cX7_set 31 = .ok (.iconst (-1), 1) := by decide +kernel
theorem dX7_set_32 : decode cX7_set 32 = .ok (.ireturn, 1) := by decide +kernel
theorem dX7_set_33 : decode cX7_set 33 = .ok (.aload_n 0, 1) := by decide +kernel
theorem dX7_set_34 : decode cX7_set 34 = .ok (.getfield 19, 3) := by decide +kernel
theorem dX7_set_37 : decode cX7_set 37 = .ok (.iload_n 1, 1) := by decide +kernel
theorem dX7_set_38 : decode cX7_set 38 = .ok (.invokevirtual 130, 3) := by decide +kernel
theorem dX7_set_41 : decode cX7_set 41 = .ok (.istore_n 3, 1) := by decide +kernel
theorem dX7_set_42 : decode cX7_set 42 = .ok (.iload_n 3, 1) := by decide +kernel
theorem dX7_set_43 : decode cX7_set 43 = .ok (.iload_n 2, 1) := by decide +kernel
theorem dX7_set_44 : decode cX7_set 44 = .ok (.if_icmp .ne 6, 3) := by decide +kernel
theorem dX7_set_47 : decode cX7_set 47 = .ok (.bipush (-2), 2) := by decide +kernel
theorem dX7_set_49 : decode cX7_set 49 = .ok (.ireturn, 1) := by decide +kernel
theorem dX7_set_50 : decode cX7_set 50 = .ok (.aload_n 0, 1) := by decide +kernel
theorem dX7_set_51 : decode cX7_set 51 = .ok (.getfield 26, 3) := by decide +kernel
theorem dX7_set_54 : decode cX7_set 54 = .ok (.aload_n 0, 1) := by decide +kernel
theorem dX7_set_55 : decode cX7_set 55 = .ok (.getfield 19, 3) := by decide +kernel
theorem dX7_set_58 : decode cX7_set 58 = .ok (.invokevirtual 91, 3) := by decide +kernel
theorem dX7_set_61 : decode cX7_set 61 = .ok (.aload_n 0, 1) := by decide +kernel
theorem dX7_set_62 : decode cX7_set 62 = .ok (.getfield 19, 3) := by decide +kernel
theorem dX7_set_65 : decode cX7_set 65 = .ok (.iload_n 1, 1) := by decide +kernel
theorem dX7_set_66 : decode cX7_set 66 = .ok (.iload_n 2, 1) := by decide +kernel
theorem dX7_set_67 : decode cX7_set 67 = .ok (.invokevirtual 134, 3) := by decide +kernel
theorem dX7_set_70 : decode cX7_set 70 = .ok (.iload_n 3, 1) := by decide +kernel
theorem dX7_set_71 : decode cX7_set 71 = .ok (.ireturn, 1) := by decide +kernel
set_option maxRecDepth 20000 in
theorem ggX7_tick_X2_keep : GoodIn wsX7_tick wsX2_keep := goodIn_r _ [8, 9, 10, 11, 12, 13, 14, 15, 16, 17, 18, 19, 20, 21, 22, 23, 24, 25, 26, 27, 28, 29, 30, 31, 32, 33, 34, 35, 36, 37, 38, 39, 40, 41, 42, 43, 44, 45, 46, 47, 48, 49, 50, 51, 52, 53, 54, 55, 56, 57, 58, 59, 60, 61, 62, 63, 64, 65, 66, 67, 68, 177, 178, 179, 170, 171, 172, 173, 174, 175, 176, 180, 181, 182, 183, 184, 185, 186, 187, 188, 189, 190, 191, 192, 193, 194, 195, 196, 197, 198, 199, 200, 201] (by decide +kernel) (by decide +kernel)
set_option maxRecDepth 20000 in
theorem gX7_tick_X2_keep : GoodIn wsX7_tick (wsV RX7 91 RX2 yX2_keep wsX2_keep) := goodIn_app (goodIn_of _ (by decide +kernel)) ggX7_tick_X2_keep
set_option maxRecDepth 20000 in
theorem ggX7_tick_X4_step : GoodIn wsX7_tick wsX4_step := goodIn_r _ [72, 21, 22, 27, 73, 74, 75, 31, 76, 34, 77, 78, 79, 80, 39, 81, 41, 45, 82, 47, 52, 53, 54, 55, 56, 57, 58, 59, 60, 61, 83, 84, 85, 19, 86, 24, 25, 26, 87, 88, 89, 90, 91, 92, 93, 94, 95, 96, 97, 98, 99, 33, 100, 101, 102, 103, 104, 105, 106, 107, 43, 108, 109, 110, 111, 112, 44, 113, 114, 115, 116, 117, 118, 119, 120, 121, 49, 50, 48, 51, 122, 123, 124, 125, 126, 127, 128, 129, 130, 46, 42, 131, 132, 133, 134, 135, 35, 136, 137, 138, 139, 140, 141, 142, 143, 144, 145, 146, 147, 65, 148, 68, 67, 170, 171, 172, 173, 174, 175, 176, 180, 181, 182, 183, 184, 185, 186, 187, 188, 189, 190, 191, 192, 193, 194, 195, 196, 197, 198, 199, 200, 201] (by decide +kernel) (by decide +kernel)
set_option maxRecDepth 20000 in
theorem gX7_tick_X4_step : GoodIn wsX7_tick (wsV RX7 141 RX4 yX4_step wsX4_step) := goodIn_app (goodIn_of _ (by decide +kernel)) ggX7_tick_X4_step
set_option maxRecDepth 20000 in
theorem ggX7_tick_X7_agreed : GoodIn wsX7_tick wsX7_agreed := goodIn_r _ [153, 1, 154, 155, 156, 157, 158, 31, 159, 34, 160, 161, 162, 39, 163, 45, 82, 49, 48, 164, 165, 166, 167, 168, 169, 170, 171, 172, 173, 174, 175, 176, 180, 181, 182, 183, 184, 185, 186, 187, 188, 189, 190, 191, 192, 193, 194, 195, 196, 197, 198, 199] (by decide +kernel) (by decide +kernel)
set_option maxRecDepth 20000 in
theorem gX7_tick_X7_agreed : GoodIn wsX7_tick (wsV RX7 144 RX7 yX7_agreed wsX7_agreed) := goodIn_app (goodIn_of _ (by decide +kernel)) ggX7_tick_X7_agreed
theorem dX7_tick_0 : decode cX7_tick 0 = .ok (.iload_n 1, 1) := by decide +kernel
theorem dX7_tick_1 : decode cX7_tick 1 = .ok (.iconst 1, 1) := by decide +kernel
theorem dX7_tick_2 : decode cX7_tick 2 = .ok (.if_icmp .lt 9, 3) := by decide +kernel
theorem dX7_tick_5 : decode cX7_tick 5 = .ok (.iload_n 1, 1) := by decide +kernel
theorem dX7_tick_6 : decode cX7_tick 6 = .ok (.bipush 40, 2) := by decide +kernel
theorem dX7_tick_8 : decode cX7_tick 8 = .ok (.if_icmp .le 5, 3) := by decide +kernel
theorem dX7_tick_11 : decode cX7_tick 11 = .ok (.iconst (-1), 1) := by decide +kernel
theorem dX7_tick_12 : decode cX7_tick 12 = .ok (.ireturn, 1) := by decide +kernel
theorem dX7_tick_13 : decode cX7_tick 13 = .ok (.aload_n 0, 1) := by decide +kernel
theorem dX7_tick_14 : decode cX7_tick 14 = .ok (.getfield 19, 3) := by decide +kernel
theorem dX7_tick_17 : decode cX7_tick 17 = .ok (.getfield 138, 3) := by decide +kernel
theorem dX7_tick_20 : decode cX7_tick 20 = .ok (.iload_n 1, 1) := by decide +kernel
theorem dX7_tick_21 : decode cX7_tick 21 = .ok (.iadd, 1) := by decide +kernel
theorem dX7_tick_22 : decode cX7_tick 22 = .ok (.sipush 9999, 3) := by decide +kernel
theorem dX7_tick_25 : decode cX7_tick 25 = .ok (.if_icmp .le 6, 3) := by decide +kernel
theorem dX7_tick_28 : decode cX7_tick 28 = .ok (.bipush (-2), 2) := by decide +kernel
theorem dX7_tick_30 : decode cX7_tick 30 = .ok (.ireturn, 1) := by decide +kernel
theorem dX7_tick_31 : decode cX7_tick 31 = .ok (.aload_n 0, 1) := by decide +kernel
theorem dX7_tick_32 : decode cX7_tick 32 = .ok (.getfield 26, 3) := by decide +kernel
theorem dX7_tick_35 : decode cX7_tick 35 = .ok (.aload_n 0, 1) := by decide +kernel
theorem dX7_tick_36 : decode cX7_tick 36 = .ok (.getfield 19, 3) := by decide +kernel
theorem dX7_tick_39 : decode cX7_tick 39 = .ok (.invokevirtual 91, 3) := by decide +kernel
theorem dX7_tick_42 : decode cX7_tick 42 = .ok (.iconst 0, 1) := by decide +kernel
theorem dX7_tick_43 : decode cX7_tick 43 = .ok (.istore_n 2, 1) := by decide +kernel
theorem dX7_tick_44 : decode cX7_tick 44 = .ok (.iload_n 2, 1) := by decide +kernel
theorem dX7_tick_45 : decode cX7_tick 45 = .ok (.iload_n 1, 1) := by decide +kernel
theorem dX7_tick_46 : decode cX7_tick 46 = .ok (.if_icmp .ge 16, 3) := by decide +kernel
theorem dX7_tick_49 : decode cX7_tick 49 = .ok (.aload_n 0, 1) := by decide +kernel
theorem dX7_tick_50 : decode cX7_tick 50 = .ok (.getfield 19, 3) := by decide +kernel
theorem dX7_tick_53 : decode cX7_tick 53 = .ok (.invokevirtual 141, 3) := by decide +kernel
theorem dX7_tick_56 : decode cX7_tick 56 = .ok (.iinc 2 1, 3) := by decide +kernel
theorem dX7_tick_59 : decode cX7_tick 59 = .ok (.goto (-15), 3) := by decide +kernel
theorem dX7_tick_62 : decode cX7_tick 62 = .ok (.aload_n 0, 1) := by decide +kernel
theorem dX7_tick_63 : decode cX7_tick 63 = .ok (.invokevirtual 144, 3) := by decide +kernel
theorem dX7_tick_66 : decode cX7_tick 66 = .ok (.ireturn, 1) := by decide +kernel
set_option maxRecDepth 20000 in
theorem ggX7_undo_X2_takeLatest : GoodIn wsX7_undo wsX2_takeLatest := goodIn_r _ [8, 9, 10, 11, 71, 72, 73] (by decide +kernel) (by decide +kernel)
set_option maxRecDepth 20000 in
theorem gX7_undo_X2_takeLatest : GoodIn wsX7_undo (wsV RX7 147 RX2 yX2_takeLatest wsX2_takeLatest) := goodIn_app (goodIn_of _ (by decide +kernel)) ggX7_undo_X2_takeLatest
set_option maxRecDepth 20000 in
theorem ggX7_undo_X4_copyFrom : GoodIn wsX7_undo wsX4_copyFrom := goodIn_r _ [16, 17, 18, 19, 20, 21, 22, 23, 24, 25, 26, 27, 28, 29, 30, 31, 32, 33, 34, 35, 36, 37, 38, 39, 40, 41, 42, 43, 44, 45, 46, 47, 48, 49, 50, 51, 52, 53, 54, 55, 56, 57, 58, 59, 60, 61, 62, 63, 64, 74, 75, 76, 77, 78, 79, 80, 81, 82, 83, 84, 85, 86, 87, 88, 89, 90, 91, 92, 93, 94, 95, 96, 97, 98, 99, 100, 101, 102] (by decide +kernel) (by decide +kernel)
set_option maxRecDepth 20000 in
theorem gX7_undo_X4_copyFrom : GoodIn wsX7_undo (wsV RX7 151 RX4 yX4_copyFrom wsX4_copyFrom) := goodIn_app (goodIn_of _ (by decide +kernel)) ggX7_undo_X4_copyFrom
theorem dX7_undo_0 : decode cX7_undo 0 = .ok (.aload_n 0, 1) := by decide +kernel
theorem dX7_undo_1 : decode cX7_undo 1 = .ok (.getfield 26, 3) := by decide +kernel
theorem dX7_undo_4 : decode cX7_undo 4 = .ok (.invokevirtual 147, 3) := by decide +kernel
theorem dX7_undo_7 : decode cX7_undo 7 = .ok (.astore_n 1, 1) := by decide +kernel
theorem dX7_undo_8 : decode cX7_undo 8 = .ok (.aload_n 1, 1) := by decide +kernel
theorem dX7_undo_9 : decode cX7_undo 9 = .ok (.ifnonnull 6, 3) := by decide +kernel
theorem dX7_undo_12 : decode cX7_undo 12 = .ok (.bipush (-2), 2) := by decide +kernel
theorem dX7_undo_14 : decode cX7_undo 14 = .ok (.ireturn, 1) := by decide +kernel
theorem dX7_undo_15 : decode cX7_undo 15 = .ok (.aload_n 0, 1) := by decide +kernel
theorem dX7_undo_16 : decode cX7_undo 16 = .ok (.getfield 19, 3) := by decide +kernel
theorem dX7_undo_19 : decode cX7_undo 19 = .ok (.aload_n 1, 1) := by decide +kernel
theorem dX7_undo_20 : decode cX7_undo 20 = .ok (.invokevirtual 151, 3) := by decide +kernel
theorem dX7_undo_23 : decode cX7_undo 23 = .ok (.aload_n 0, 1) := by decide +kernel
theorem dX7_undo_24 : decode cX7_undo 24 = .ok (.getfield 26, 3) := by decide +kernel
theorem dX7_undo_27 : decode cX7_undo 27 = .ok (.getfield 154, 3) := by decide +kernel
theorem dX7_undo_30 : decode cX7_undo 30 = .ok (.ireturn, 1) := by decide +kernel
set_option maxRecDepth 20000 in
theorem ggX7_link_X4_portOf : GoodIn wsX7_link wsX4_portOf := goodIn_r _ [6, 7, 8, 9, 10, 5, 11, 12, 13, 14, 15, 16, 17, 18, 19, 49, 50, 51, 52, 53, 54, 55, 56, 57, 58, 59] (by decide +kernel) (by decide +kernel)
set_option maxRecDepth 20000 in
theorem gX7_link_X4_portOf : GoodIn wsX7_link (wsV RX7 78 RX4 yX4_portOf wsX4_portOf) := goodIn_app (goodIn_of _ (by decide +kernel)) ggX7_link_X4_portOf
set_option maxRecDepth 20000 in
theorem ggX7_link_X5_look : GoodIn wsX7_link wsX5_look := goodIn_r _ [24, 25, 26, 27, 28, 29, 30, 31, 32, 33, 34, 35, 36, 37, 38, 39, 40, 23, 41, 42, 60, 61, 62, 63, 64, 65, 66, 67, 68, 69, 70, 71, 72, 73, 74, 75] (by decide +kernel) (by decide +kernel)
set_option maxRecDepth 20000 in
theorem gX7_link_X5_look : GoodIn wsX7_link (wsV RX7 155 RX5 yX5_look wsX5_look) := goodIn_app (goodIn_of _ (by decide +kernel)) ggX7_link_X5_look
theorem dX7_link_0 : decode cX7_link 0 = .ok (.aload_n 0, 1) := by decide +kernel
theorem dX7_link_1 : decode cX7_link 1 = .ok (.getfield 19, 3) := by decide +kernel
theorem dX7_link_4 : decode cX7_link 4 = .ok (.iload_n 1, 1) := by decide +kernel
theorem dX7_link_5 : decode cX7_link 5 = .ok (.iload_n 2, 1) := by decide +kernel
theorem dX7_link_6 : decode cX7_link 6 = .ok (.invokevirtual 78, 3) := by decide +kernel
theorem dX7_link_9 : decode cX7_link 9 = .ok (.astore 4, 2) := by decide +kernel
theorem dX7_link_11 : decode cX7_link 11 = .ok (.aload 4, 2) := by decide +kernel
theorem dX7_link_13 : decode cX7_link 13 = .ok (.ifnonnull 7, 3) := by decide +kernel
theorem dX7_link_16 : decode cX7_link 16 = .ok (.iconst (-1), 1) := by decide +kernel
theorem dX7_link_17 : decode cX7_link 17 = .ok (.goto 9, 3) := by decide +kernel
theorem dX7_link_20 : decode cX7_link 20 = .ok (.aload 4, 2) := by decide +kernel
theorem dX7_link_22 : decode cX7_link 22 = .ok (.iload_n 3, 1) := by decide +kernel
theorem dX7_link_23 : decode cX7_link 23 = .ok (.invokevirtual 155, 3) := by decide +kernel
theorem dX7_link_26 : decode cX7_link 26 = .ok (.ireturn, 1) := by decide +kernel
set_option maxRecDepth 20000 in
theorem ggX7_bundle_X4_endOf : GoodIn wsX7_bundle wsX4_endOf := goodIn_r _ [6, 7, 8, 30, 31, 32, 33, 34, 35, 36] (by decide +kernel) (by decide +kernel)
set_option maxRecDepth 20000 in
theorem gX7_bundle_X4_endOf : GoodIn wsX7_bundle (wsV RX7 108 RX4 yX4_endOf wsX4_endOf) := goodIn_app (goodIn_of _ (by decide +kernel)) ggX7_bundle_X4_endOf
set_option maxRecDepth 20000 in
theorem ggX7_bundle_X0_bits : GoodIn wsX7_bundle wsX0_bits := goodIn_r _ [13, 14, 15, 16, 17, 18, 19, 20, 21, 22, 23, 37, 38, 39, 40, 41, 42, 43, 44, 45, 46, 47, 48, 49, 50, 51, 52, 53, 54, 55, 56] (by decide +kernel) (by decide +kernel)
set_option maxRecDepth 20000 in
theorem gX7_bundle_X0_bits : GoodIn wsX7_bundle (wsV RX7 158 RX0 yX0_bits wsX0_bits) := goodIn_app (goodIn_of _ (by decide +kernel)) ggX7_bundle_X0_bits
theorem dX7_bundle_0 : decode cX7_bundle 0 = .ok (.aload_n 0, 1) := by decide +kernel
theorem dX7_bundle_1 : decode cX7_bundle 1 = .ok (.getfield 19, 3) := by decide +kernel
theorem dX7_bundle_4 : decode cX7_bundle 4 = .ok (.iload_n 1, 1) := by decide +kernel
theorem dX7_bundle_5 : decode cX7_bundle 5 = .ok (.invokevirtual 108, 3) := by decide +kernel
theorem dX7_bundle_8 : decode cX7_bundle 8 = .ok (.astore_n 3, 1) := by decide +kernel
theorem dX7_bundle_9 : decode cX7_bundle 9 = .ok (.aload_n 3, 1) := by decide +kernel
theorem dX7_bundle_10 : decode cX7_bundle 10 = .ok (.ifnull 12, 3) := by decide +kernel
theorem dX7_bundle_13 : decode cX7_bundle 13 = .ok (.iload_n 2, 1) := by decide +kernel
theorem dX7_bundle_14 : decode cX7_bundle 14 = .ok (.ifCond .lt 8, 3) := by decide +kernel
theorem dX7_bundle_17 : decode cX7_bundle 17 = .ok (.iload_n 2, 1) := by decide +kernel
theorem dX7_bundle_18 : decode cX7_bundle 18 = .ok (.iconst 2, 1) := by decide +kernel
theorem dX7_bundle_19 : decode cX7_bundle 19 = .ok (.if_icmp .le 7, 3) := by decide +kernel
theorem dX7_bundle_22 : decode cX7_bundle 22 = .ok (.iconst (-1), 1) := by decide +kernel
theorem dX7_bundle_23 : decode cX7_bundle 23 = .ok (.goto 8, 3) := by decide +kernel
theorem dX7_bundle_26 : decode cX7_bundle 26 = .ok (.aload_n 3, 1) := by decide +kernel
theorem dX7_bundle_27 : decode cX7_bundle 27 = .ok (.iload_n 2, 1) := by decide +kernel
theorem dX7_bundle_28 : decode cX7_bundle 28 = .ok (.invokevirtual 158, 3) := by decide +kernel
theorem dX7_bundle_31 : decode cX7_bundle 31 = .ok (.ireturn, 1) := by decide +kernel
set_option maxRecDepth 20000 in
theorem ggX7_flow_X4_endOf : GoodIn wsX7_flow wsX4_endOf := goodIn_r _ [8, 9, 10, 40, 41, 42, 43, 44, 45, 46] (by decide +kernel) (by decide +kernel)
set_option maxRecDepth 20000 in
theorem gX7_flow_X4_endOf : GoodIn wsX7_flow (wsV RX7 108 RX4 yX4_endOf wsX4_endOf) := goodIn_app (goodIn_of _ (by decide +kernel)) ggX7_flow_X4_endOf
set_option maxRecDepth 20000 in
theorem ggX7_flow_X4_flowOf : GoodIn wsX7_flow wsX4_flowOf := goodIn_r _ [14, 15, 5, 6, 7, 8, 9, 10, 16, 17, 18, 19, 20, 21, 40, 41, 42, 43, 44, 45, 46, 47, 48, 49, 50] (by decide +kernel) (by decide +kernel)
set_option maxRecDepth 20000 in
theorem gX7_flow_X4_flowOf : GoodIn wsX7_flow (wsV RX7 161 RX4 yX4_flowOf wsX4_flowOf) := goodIn_app (goodIn_of _ (by decide +kernel)) ggX7_flow_X4_flowOf
set_option maxRecDepth 20000 in
theorem ggX7_flow_X0_howManySending : GoodIn wsX7_flow wsX0_howManySending := goodIn_r _ [25, 26, 27, 47, 48, 49, 50, 51, 52, 53, 54, 55, 56, 57, 58, 59, 60, 61] (by decide +kernel) (by decide +kernel)
set_option maxRecDepth 20000 in
theorem gX7_flow_X0_howManySending : GoodIn wsX7_flow (wsV RX7 173 RX0 yX0_howManySending wsX0_howManySending) := goodIn_app (goodIn_of _ (by decide +kernel)) ggX7_flow_X0_howManySending
set_option maxRecDepth 20000 in
theorem ggX7_flow_X0_wantedBy : GoodIn wsX7_flow wsX0_wantedBy := goodIn_r _ [31, 26, 27, 47, 48, 49, 50, 51, 52, 53, 54, 55, 56, 57, 58, 59, 60, 61] (by decide +kernel) (by decide +kernel)
set_option maxRecDepth 20000 in
theorem gX7_flow_X0_wantedBy : GoodIn wsX7_flow (wsV RX7 176 RX0 yX0_wantedBy wsX0_wantedBy) := goodIn_app (goodIn_of _ (by decide +kernel)) ggX7_flow_X0_wantedBy
theorem dX7_flow_0 : decode cX7_flow 0 = .ok (.aload_n 0, 1) := by decide +kernel
theorem dX7_flow_1 : decode cX7_flow 1 = .ok (.getfield 19, 3) := by decide +kernel
theorem dX7_flow_4 : decode cX7_flow 4 = .ok (.iload_n 1, 1) := by decide +kernel
theorem dX7_flow_5 : decode cX7_flow 5 = .ok (.invokevirtual 108, 3) := by decide +kernel
theorem dX7_flow_8 : decode cX7_flow 8 = .ok (.astore 4, 2) := by decide +kernel
theorem dX7_flow_10 : decode cX7_flow 10 = .ok (.aload_n 0, 1) := by decide +kernel
theorem dX7_flow_11 : decode cX7_flow 11 = .ok (.getfield 19, 3) := by decide +kernel
theorem dX7_flow_14 : decode cX7_flow 14 = .ok (.iload_n 1, 1) := by decide +kernel
theorem dX7_flow_15 : decode cX7_flow 15 = .ok (.iload_n 2, 1) := by decide +kernel
theorem dX7_flow_16 : decode cX7_flow 16 = .ok (.invokevirtual 161, 3) := by decide +kernel
theorem dX7_flow_19 : decode cX7_flow 19 = .ok (.astore 5, 2) := by decide +kernel
theorem dX7_flow_21 : decode cX7_flow 21 = .ok (.aload 4, 2) := by decide +kernel
theorem dX7_flow_23 : decode cX7_flow 23 = .ok (.ifnull 8, 3) := by decide +kernel
theorem dX7_flow_26 : decode cX7_flow 26 = .ok (.aload 5, 2) := by decide +kernel
theorem dX7_flow_28 : decode cX7_flow 28 = .ok (.ifnonnull 5, 3) := by decide +kernel
theorem dX7_flow_31 : decode cX7_flow 31 = .ok (.iconst (-1), 1) := by decide +kernel
theorem dX7_flow_32 : decode cX7_flow 32 = .ok (.ireturn, 1) := by decide +kernel
theorem dX7_flow_33 : decode cX7_flow 33 = .ok (.iload_n 3, 1) := by decide +kernel
theorem dX7_flow_34 : decode cX7_flow 34 = .ok (.tableswitch 50 0 2 #[26, 32, 38], 26) := by decide +kernel
theorem dX7_flow_60 : decode cX7_flow 60 = .ok (.aload 5, 2) := by decide +kernel
theorem dX7_flow_62 : decode cX7_flow 62 = .ok (.getfield 165, 3) := by decide +kernel
theorem dX7_flow_65 : decode cX7_flow 65 = .ok (.ireturn, 1) := by decide +kernel
theorem dX7_flow_66 : decode cX7_flow 66 = .ok (.aload 5, 2) := by decide +kernel
theorem dX7_flow_68 : decode cX7_flow 68 = .ok (.getfield 170, 3) := by decide +kernel
theorem dX7_flow_71 : decode cX7_flow 71 = .ok (.ireturn, 1) := by decide +kernel
theorem dX7_flow_72 : decode cX7_flow 72 = .ok (.aload 4, 2) := by decide +kernel
theorem dX7_flow_74 : decode cX7_flow 74 = .ok (.iload_n 2, 1) := by decide +kernel
theorem dX7_flow_75 : decode cX7_flow 75 = .ok (.aload 4, 2) := by decide +kernel
theorem dX7_flow_77 : decode cX7_flow 77 = .ok (.invokevirtual 173, 3) := by decide +kernel
theorem dX7_flow_80 : decode cX7_flow 80 = .ok (.invokevirtual 176, 3) := by decide +kernel
theorem dX7_flow_83 : decode cX7_flow 83 = .ok (.ireturn, 1) := by decide +kernel
theorem dX7_flow_84 : decode cX7_flow 84 = .ok (.iconst (-1), 1) := by decide +kernel
theorem dX7_flow_85 : decode cX7_flow 85 = .ok (.ireturn, 1) := by decide +kernel
set_option maxRecDepth 20000 in
theorem ggX7_frame_X4_flowOf : GoodIn wsX7_frame wsX4_flowOf := goodIn_r _ [10, 11, 12, 13, 9, 14, 15, 16, 17, 18, 19, 20, 21, 22, 58, 59, 60, 61, 62, 63, 64, 65, 66, 67, 68] (by decide +kernel) (by decide +kernel)
set_option maxRecDepth 20000 in
theorem gX7_frame_X4_flowOf : GoodIn wsX7_frame (wsV RX7 161 RX4 yX4_flowOf wsX4_flowOf) := goodIn_app (goodIn_of _ (by decide +kernel)) ggX7_frame_X4_flowOf
set_option maxRecDepth 20000 in
theorem ggX7_frame_X4_portOf : GoodIn wsX7_frame wsX4_portOf := goodIn_r _ [26, 27, 11, 12, 13, 9, 14, 15, 16, 28, 29, 30, 20, 31, 32, 58, 59, 60, 61, 62, 63, 64, 65, 66, 67, 68] (by decide +kernel) (by decide +kernel)
set_option maxRecDepth 20000 in
theorem gX7_frame_X4_portOf : GoodIn wsX7_frame (wsV RX7 78 RX4 yX4_portOf wsX4_portOf) := goodIn_app (goodIn_of _ (by decide +kernel)) ggX7_frame_X4_portOf
set_option maxRecDepth 20000 in
theorem ggX7_frame_X7_placeOfFrames : GoodIn wsX7_frame wsX7_placeOfFrames := goodIn_r _ [37, 1, 38, 5, 39, 40, 41, 42, 43, 44, 58, 59, 60, 61, 62, 63, 64] (by decide +kernel) (by decide +kernel)
set_option maxRecDepth 20000 in
theorem gX7_frame_X7_placeOfFrames : GoodIn wsX7_frame (wsV RX7 180 RX7 yX7_placeOfFrames wsX7_placeOfFrames) := goodIn_app (goodIn_of _ (by decide +kernel)) ggX7_frame_X7_placeOfFrames
theorem dX7_frame_0 : decode cX7_frame 0 = .ok (.aload_n 0, 1) := by decide +kernel
theorem dX7_frame_1 : decode cX7_frame 1 = .ok (.getfield 19, 3) := by decide +kernel
theorem dX7_frame_4 : decode cX7_frame 4 = .ok (.iload_n 1, 1) := by decide +kernel
theorem dX7_frame_5 : decode cX7_frame 5 = .ok (.iload_n 2, 1) := by decide +kernel
theorem dX7_frame_6 : decode cX7_frame 6 = .ok (.invokevirtual 161, 3) := by decide +kernel
theorem dX7_frame_9 : decode cX7_frame 9 = .ok (.astore_n 3, 1) := by decide +kernel
theorem dX7_frame_10 : decode cX7_frame 10 = .ok (.aload_n 3, 1) := by decide +kernel
theorem dX7_frame_11 : decode cX7_frame 11 = .ok (.ifnonnull 5, 3) := by decide +kernel
theorem dX7_frame_14 : decode cX7_frame 14 = .ok (.iconst (-1), 1) := by decide +kernel
theorem dX7_frame_15 : decode cX7_frame 15 = .ok (.ireturn, 1) := by decide +kernel
theorem dX7_frame_16 : decode cX7_frame 16 = .ok (.aload_n 3, 1) := by decide +kernel
theorem dX7_frame_17 : decode cX7_frame 17 = .ok (.getfield 170, 3) := by decide +kernel
theorem dX7_frame_20 : decode cX7_frame 20 = .ok (.ifCond .le 6, 3) := by decide +kernel
theorem dX7_frame_23 : decode cX7_frame 23 = .ok (.bipush (-2), 2) := by decide +kernel
theorem dX7_frame_25 : decode cX7_frame 25 = .ok (.ireturn, 1) := by decide +kernel
theorem dX7_frame_26 : decode cX7_frame 26 = .ok (.aload_n 0, 1) := by decide +kernel
theorem dX7_frame_27 : decode cX7_frame 27 = .ok (.getfield 19, 3) := by decide +kernel
theorem dX7_frame_30 : decode cX7_frame 30 = .ok (.iload_n 1, 1) := by decide +kernel
theorem dX7_frame_31 : decode cX7_frame 31 = .ok (.aload_n 3, 1) := by decide +kernel
theorem dX7_frame_32 : decode cX7_frame 32 = .ok (.getfield 165, 3) := by decide +kernel
theorem dX7_frame_35 : decode cX7_frame 35 = .ok (.invokevirtual 78, 3) := by decide +kernel
theorem dX7_frame_38 : decode cX7_frame 38 = .ok (.astore 4, 2) := by decide +kernel
theorem dX7_frame_40 : decode cX7_frame 40 = .ok (.aload_n 0, 1) := by decide +kernel
theorem dX7_frame_41 : decode cX7_frame 41 = .ok (.iload_n 1, 1) := by decide +kernel
theorem dX7_frame_42 : decode cX7_frame 42 = .ok (.aload_n 3, 1) := by decide +kernel
theorem dX7_frame_43 : decode cX7_frame 43 = .ok (.getfield 165, 3) := by decide +kernel
theorem dX7_frame_46 : decode cX7_frame 46 = .ok (.invokevirtual 180, 3) := by decide +kernel
theorem dX7_frame_49 : decode cX7_frame 49 = .ok (.istore 5, 2) := by decide +kernel
theorem dX7_frame_51 : decode cX7_frame 51 = .ok (.aload 4, 2) := by decide +kernel
theorem dX7_frame_53 : decode cX7_frame 53 = .ok (.ifnull 19, 3) := by decide +kernel
theorem dX7_frame_56 : decode cX7_frame 56 = .ok (.aload 4, 2) := by decide +kernel
theorem dX7_frame_58 : decode cX7_frame 58 = .ok (.getfield 183, 3) := by decide +kernel
theorem dX7_frame_61 : decode cX7_frame 61 = .ok (.iconst 5, 1) := by decide +kernel
theorem dX7_frame_62 : decode cX7_frame 62 = .ok (.if_icmp .ne 10, 3) := by decide +kernel
theorem dX7_frame_65 : decode cX7_frame 65 = .ok (.iload 5, 2) := by decide +kernel
theorem dX7_frame_67 : decode cX7_frame 67 = .ok (.bipush (-4), 2) := by decide +kernel
theorem dX7_frame_69 : decode cX7_frame 69 = .ok (.if_icmp .ne 6, 3) := by decide +kernel
theorem dX7_frame_72 : decode cX7_frame 72 = .ok (.bipush (-4), 2) := by decide +kernel
theorem dX7_frame_74 : decode cX7_frame 74 = .ok (.ireturn, 1) := by decide +kernel
theorem dX7_frame_75 : decode cX7_frame 75 = .ok (.aload_n 0, 1) := by decide +kernel
theorem dX7_frame_76 : decode cX7_frame 76 = .ok (.getfield 30, 3) := by decide +kernel
theorem dX7_frame_79 : decode cX7_frame 79 = .ok (.iload 5, 2) := by decide +kernel
theorem dX7_frame_81 : decode cX7_frame 81 = .ok (.dup2, 1) := by decide +kernel
theorem dX7_frame_82 : decode cX7_frame 82 = .ok (.iaload, 1) := by decide +kernel
theorem dX7_frame_83 : decode cX7_frame 83 = .ok (.iconst 1, 1) := by decide +kernel
theorem dX7_frame_84 : decode cX7_frame 84 = .ok (.iadd, 1) := by decide +kernel
theorem dX7_frame_85 : decode cX7_frame 85 = .ok (.iastore, 1) := by decide +kernel
theorem dX7_frame_86 : decode cX7_frame 86 = .ok (.aload_n 3, 1) := by decide +kernel
theorem dX7_frame_87 : decode cX7_frame 87 = .ok (.getfield 165, 3) := by decide +kernel
theorem dX7_frame_90 : decode cX7_frame 90 = .ok (.ireturn, 1) := by decide +kernel
set_option maxRecDepth 20000 in
theorem ggX7_frames_X7_placeOfFrames : GoodIn wsX7_frames wsX7_placeOfFrames := goodIn_r _ [6, 7, 8, 1, 9, 10, 11, 12, 13, 14, 15, 16, 17, 18, 19, 20, 21] (by decide +kernel) (by decide +kernel)
set_option maxRecDepth 20000 in
theorem gX7_frames_X7_placeOfFrames : GoodIn wsX7_frames (wsV RX7 180 RX7 yX7_placeOfFrames wsX7_placeOfFrames) := goodIn_app (goodIn_of _ (by decide +kernel)) ggX7_frames_X7_placeOfFrames
theorem dX7_frames_0 : decode cX7_frames 0 = .ok (.aload_n 0, 1) := by decide +kernel
theorem dX7_frames_1 : decode cX7_frames 1 = .ok (.iload_n 1, 1) := by decide +kernel
theorem dX7_frames_2 : decode cX7_frames 2 = .ok (.iload_n 2, 1) := by decide +kernel
theorem dX7_frames_3 : decode cX7_frames 3 = .ok (.invokevirtual 180, 3) := by decide +kernel
theorem dX7_frames_6 : decode cX7_frames 6 = .ok (.istore_n 3, 1) := by decide +kernel
theorem dX7_frames_7 : decode cX7_frames 7 = .ok (.iload_n 3, 1) := by decide +kernel
theorem dX7_frames_8 : decode cX7_frames 8 = .ok (.bipush (-4), 2) := by decide +kernel
theorem dX7_frames_10 : decode cX7_frames 10 = .ok (.if_icmp .ne 7, 3) := by decide +kernel
theorem dX7_frames_13 : decode cX7_frames 13 = .ok (.iconst (-1), 1) := by decide +kernel
theorem dX7_frames_14 : decode cX7_frames 14 = .ok (.goto 9, 3) := by decide +kernel
theorem dX7_frames_17 : decode cX7_frames 17 = .ok (.aload_n 0, 1) := by decide +kernel
theorem dX7_frames_18 : decode cX7_frames 18 = .ok (.getfield 30, 3) := by decide +kernel
theorem dX7_frames_21 : decode cX7_frames 21 = .ok (.iload_n 3, 1) := by decide +kernel
theorem dX7_frames_22 : decode cX7_frames 22 = .ok (.iaload, 1) := by decide +kernel
theorem dX7_frames_23 : decode cX7_frames 23 = .ok (.ireturn, 1) := by decide +kernel
set_option maxRecDepth 20000 in
theorem ggX7_agreed_X0_bits : GoodIn wsX7_agreed wsX0_bits := goodIn_r _ [8, 9, 10, 11, 12, 13, 14, 15, 16, 17, 18, 32, 33, 34, 35, 36, 37, 38, 39, 40, 41, 42, 43, 44, 45, 46, 47, 48, 49, 50, 51] (by decide +kernel) (by decide +kernel)
set_option maxRecDepth 20000 in
theorem gX7_agreed_X0_bits : GoodIn wsX7_agreed (wsV RX7 158 RX0 yX0_bits wsX0_bits) := goodIn_app (goodIn_of _ (by decide +kernel)) ggX7_agreed_X0_bits
theorem dX7_agreed_0 : decode cX7_agreed 0 = .ok (.aload_n 0, 1) := by decide +kernel
theorem dX7_agreed_1 : decode cX7_agreed 1 = .ok (.getfield 19, 3) := by decide +kernel
theorem dX7_agreed_4 : decode cX7_agreed 4 = .ok (.getfield 99, 3) := by decide +kernel
theorem dX7_agreed_7 : decode cX7_agreed 7 = .ok (.iconst 2, 1) := by decide +kernel
theorem dX7_agreed_8 : decode cX7_agreed 8 = .ok (.invokevirtual 158, 3) := by decide +kernel
theorem dX7_agreed_11 : decode cX7_agreed 11 = .ok (.istore_n 1, 1) := by decide +kernel
theorem dX7_agreed_12 : decode cX7_agreed 12 = .ok (.iload_n 1, 1) := by decide +kernel
theorem dX7_agreed_13 : decode cX7_agreed 13 = .ok (.ifCond .eq 22, 3) := by decide +kernel
theorem dX7_agreed_16 : decode cX7_agreed 16 = .ok (.iload_n 1, 1) := by decide +kernel
theorem dX7_agreed_17 : decode cX7_agreed 17 = .ok (.aload_n 0, 1) := by decide +kernel
theorem dX7_agreed_18 : decode cX7_agreed 18 = .ok (.getfield 19, 3) := by decide +kernel
theorem dX7_agreed_21 : decode cX7_agreed 21 = .ok (.getfield 186, 3) := by decide +kernel
theorem dX7_agreed_24 : decode cX7_agreed 24 = .ok (.iconst 2, 1) := by decide +kernel
theorem dX7_agreed_25 : decode cX7_agreed 25 = .ok (.invokevirtual 158, 3) := by decide +kernel
theorem dX7_agreed_28 : decode cX7_agreed 28 = .ok (.if_icmp .ne 7, 3) := by decide +kernel
theorem dX7_agreed_31 : decode cX7_agreed 31 = .ok (.iconst 1, 1) := by decide +kernel
theorem dX7_agreed_32 : decode cX7_agreed 32 = .ok (.goto 4, 3) := by decide +kernel
theorem dX7_agreed_35 : decode cX7_agreed 35 = .ok (.iconst 0, 1) := by decide +kernel
theorem dX7_agreed_36 : decode cX7_agreed 36 = .ok (.ireturn, 1) := by decide +kernel
set_option maxRecDepth 20000 in
theorem ggX7_settled_X4_copyFrom : GoodIn wsX7_settled wsX4_copyFrom := goodIn_r _ [8, 9, 10, 11, 12, 13, 14, 15, 16, 17, 18, 19, 20, 21, 22, 23, 24, 25, 26, 27, 28, 29, 30, 31, 32, 33, 34, 35, 36, 37, 38, 39, 40, 41, 42, 43, 44, 45, 46, 47, 48, 49, 50, 51, 52, 53, 54, 55, 56, 152, 153, 154, 155, 156, 157, 158, 159, 160, 161, 162, 163, 164, 165, 166, 167, 168, 169, 170, 171, 172, 173, 174, 175, 176, 177, 178, 179, 180] (by decide +kernel) (by decide +kernel)
set_option maxRecDepth 20000 in
theorem gX7_settled_X4_copyFrom : GoodIn wsX7_settled (wsV RX7 151 RX4 yX4_copyFrom wsX4_copyFrom) := goodIn_app (goodIn_of _ (by decide +kernel)) ggX7_settled_X4_copyFrom
set_option maxRecDepth 20000 in
theorem ggX7_settled_X4_step : GoodIn wsX7_settled wsX4_step := goodIn_r _ [60, 9, 10, 15, 61, 62, 63, 19, 64, 22, 65, 66, 67, 68, 27, 69, 29, 33, 70, 35, 40, 41, 42, 43, 44, 45, 46, 47, 48, 49, 71, 72, 73, 7, 74, 12, 13, 14, 75, 76, 77, 78, 79, 80, 81, 82, 83, 84, 85, 86, 87, 21, 88, 89, 90, 91, 92, 93, 94, 95, 31, 96, 97, 98, 99, 100, 32, 101, 102, 103, 104, 105, 106, 107, 108, 109, 37, 38, 36, 39, 110, 111, 112, 113, 114, 115, 116, 117, 118, 34, 30, 119, 120, 121, 122, 123, 23, 124, 125, 126, 127, 128, 129, 130, 131, 132, 133, 134, 135, 53, 136, 56, 55, 152, 153, 154, 155, 156, 157, 158, 159, 160, 161, 162, 163, 164, 165, 166, 167, 168, 169, 170, 171, 172, 173, 174, 175, 176, 177, 178, 179, 180] (by decide +kernel) (by decide +kernel)
set_option maxRecDepth 20000 in
theorem gX7_settled_X4_step : GoodIn wsX7_settled (wsV RX7 141 RX4 yX4_step wsX4_step) := goodIn_app (goodIn_of _ (by decide +kernel)) ggX7_settled_X4_step
set_option maxRecDepth 20000 in
theorem ggX7_settled_X4_looksLike : GoodIn wsX7_settled wsX4_looksLike := goodIn_r _ [140, 9, 10, 141, 142, 143, 19, 144, 22, 128, 23, 145, 152, 153, 154, 155, 156, 157, 158, 159, 160, 161, 162, 163, 164, 165, 166, 167, 168, 169, 170, 171, 172, 173, 179, 180] (by decide +kernel) (by decide +kernel)
set_option maxRecDepth 20000 in
theorem gX7_settled_X4_looksLike : GoodIn wsX7_settled (wsV RX7 189 RX4 yX4_looksLike wsX4_looksLike) := goodIn_app (goodIn_of _ (by decide +kernel)) ggX7_settled_X4_looksLike
theorem dX7_settled_0 : decode cX7_settled 0 = .ok (.aload_n 0, 1) := by decide +kernel
theorem dX7_settled_1 : decode cX7_settled 1 = .ok (.getfield 34, 3) := by decide +kernel
theorem dX7_settled_4 : decode cX7_settled 4 = .ok (.aload_n 0, 1) := by decide +kernel
theorem dX7_settled_5 : decode cX7_settled 5 = .ok (.getfield 19, 3) := by decide +kernel
theorem dX7_settled_8 : decode cX7_settled 8 = .ok (.invokevirtual 151, 3) := by decide +kernel
theorem dX7_settled_11 : decode cX7_settled 11 = .ok (.aload_n 0, 1) := by decide +kernel
theorem dX7_settled_12 : decode cX7_settled 12 = .ok (.getfield 37, 3) := by decide +kernel
theorem dX7_settled_15 : decode cX7_settled 15 = .ok (.aload_n 0, 1) := by decide +kernel
theorem dX7_settled_16 : decode cX7_settled 16 = .ok (.getfield 19, 3) := by decide +kernel
theorem dX7_settled_19 : decode cX7_settled 19 = .ok (.invokevirtual 151, 3) := by decide +kernel
theorem dX7_settled_22 : decode cX7_settled 22 = .ok (.iconst 0, 1) := by decide +kernel
theorem dX7_settled_23 : decode cX7_settled 23 = .ok (.istore_n 1, 1) := by decide +kernel
theorem dX7_settled_24 : decode cX7_settled 24 = .ok (.iconst 1, 1) := by decide +kernel
theorem dX7_settled_25 : decode cX7_settled 25 = .ok (.istore_n 2, 1) := by decide +kernel
theorem dX7_settled_26 : decode cX7_settled 26 = .ok (.iload_n 2, 1) := by decide +kernel
theorem dX7_settled_27 : decode cX7_settled 27 = .ok (.bipush 46, 2) := by decide +kernel
theorem dX7_settled_29 : decode cX7_settled 29 = .ok (.if_icmp .gt 56, 3) := by decide +kernel
theorem dX7_settled_32 : decode cX7_settled 32 = .ok (.aload_n 0, 1) := by decide +kernel
theorem dX7_settled_33 : decode cX7_settled 33 = .ok (.getfield 34, 3) := by decide +kernel
theorem dX7_settled_36 : decode cX7_settled 36 = .ok (.invokevirtual 141, 3) := by decide +kernel
theorem dX7_settled_39 : decode cX7_settled 39 = .ok (.aload_n 0, 1) := by decide +kernel
theorem dX7_settled_40 : decode cX7_settled 40 = .ok (.getfield 34, 3) := by decide +kernel
theorem dX7_settled_43 : decode cX7_settled 43 = .ok (.aload_n 0, 1) := by decide +kernel
theorem dX7_settled_44 : decode cX7_settled 44 = .ok (.getfield 37, 3) := by decide +kernel
theorem dX7_settled_47 : decode cX7_settled 47 = .ok (.invokevirtual 189, 3) := by decide +kernel
theorem dX7_settled_50 : decode cX7_settled 50 = .ok (.ifCond .ne 19, 3) := by decide +kernel
theorem dX7_settled_53 : decode cX7_settled 53 = .ok (.aload_n 0, 1) := by decide +kernel
theorem dX7_settled_54 : decode cX7_settled 54 = .ok (.getfield 37, 3) := by decide +kernel
theorem dX7_settled_57 : decode cX7_settled 57 = .ok (.aload_n 0, 1) := by decide +kernel
theorem dX7_settled_58 : decode cX7_settled 58 = .ok (.getfield 34, 3) := by decide +kernel
theorem dX7_settled_61 : decode cX7_settled 61 = .ok (.invokevirtual 151, 3) := by decide +kernel
theorem dX7_settled_64 : decode cX7_settled 64 = .ok (.iload_n 2, 1) := by decide +kernel
theorem dX7_settled_65 : decode cX7_settled 65 = .ok (.istore_n 1, 1) := by decide +kernel
theorem dX7_settled_66 : decode cX7_settled 66 = .ok (.goto 13, 3) := by decide +kernel
theorem dX7_settled_69 : decode cX7_settled 69 = .ok (.iload_n 2, 1) := by decide +kernel
theorem dX7_settled_70 : decode cX7_settled 70 = .ok (.iload_n 1, 1) := by decide +kernel
theorem dX7_settled_71 : decode cX7_settled 71 = .ok (.isub, 1) := by decide +kernel
theorem dX7_settled_72 : decode cX7_settled 72 = .ok (.bipush 6, 2) := by decide +kernel
theorem dX7_settled_74 : decode cX7_settled 74 = .ok (.if_icmp .lt 5, 3) := by decide +kernel
theorem dX7_settled_77 : decode cX7_settled 77 = .ok (.iload_n 1, 1) := by decide +kernel
theorem dX7_settled_78 : decode cX7_settled 78 = .ok (.ireturn, 1) := by decide +kernel
theorem dX7_settled_79 : decode cX7_settled 79 = .ok (.iinc 2 1, 3) := by decide +kernel
theorem dX7_settled_82 : decode cX7_settled 82 = .ok (.goto (-56), 3) := by decide +kernel
theorem dX7_settled_85 : decode cX7_settled 85 = .ok (.bipush (-4), 2) := by decide +kernel
theorem dX7_settled_87 : decode cX7_settled 87 = .ok (.ireturn, 1) := by decide +kernel
set_option maxRecDepth 20000 in
theorem ggX7_count_X0_howManyUp : GoodIn wsX7_count wsX0_howManyUp := goodIn_r _ [15, 16, 17, 45, 46, 47, 48, 49, 50, 51, 52, 53, 54, 55, 56, 57, 58, 59] (by decide +kernel) (by decide +kernel)
set_option maxRecDepth 20000 in
theorem gX7_count_X0_howManyUp : GoodIn wsX7_count (wsV RX7 103 RX0 yX0_howManyUp wsX0_howManyUp) := goodIn_app (goodIn_of _ (by decide +kernel)) ggX7_count_X0_howManyUp
set_option maxRecDepth 20000 in
theorem ggX7_count_X4_setting : GoodIn wsX7_count wsX4_setting := goodIn_r _ [22, 23, 24, 25, 26, 33, 34, 35, 36, 37, 38, 39, 45, 46, 47, 48] (by decide +kernel) (by decide +kernel)
set_option maxRecDepth 20000 in
theorem gX7_count_X4_setting : GoodIn wsX7_count (wsV RX7 130 RX4 yX4_setting wsX4_setting) := goodIn_app (goodIn_of _ (by decide +kernel)) ggX7_count_X4_setting
theorem dX7_count_0 : decode cX7_count 0 = .ok (.iload_n 1, 1) := by decide +kernel
theorem dX7_count_1 : decode cX7_count 1 = .ok (.tableswitch 141 0 9 #[55, 63, 74, 83, 92, 101, 109, 117, 125, 133], 55) := by decide +kernel
theorem dX7_count_56 : decode cX7_count 56 = .ok (.aload_n 0, 1) := by decide +kernel
theorem dX7_count_57 : decode cX7_count 57 = .ok (.getfield 19, 3) := by decide +kernel
theorem dX7_count_60 : decode cX7_count 60 = .ok (.getfield 75, 3) := by decide +kernel
theorem dX7_count_63 : decode cX7_count 63 = .ok (.ireturn, 1) := by decide +kernel
theorem dX7_count_64 : decode cX7_count 64 = .ok (.aload_n 0, 1) := by decide +kernel
theorem dX7_count_65 : decode cX7_count 65 = .ok (.getfield 19, 3) := by decide +kernel
theorem dX7_count_68 : decode cX7_count 68 = .ok (.getfield 99, 3) := by decide +kernel
theorem dX7_count_71 : decode cX7_count 71 = .ok (.invokevirtual 103, 3) := by decide +kernel
theorem dX7_count_74 : decode cX7_count 74 = .ok (.ireturn, 1) := by decide +kernel
theorem dX7_count_75 : decode cX7_count 75 = .ok (.aload_n 0, 1) := by decide +kernel
theorem dX7_count_76 : decode cX7_count 76 = .ok (.getfield 19, 3) := by decide +kernel
theorem dX7_count_79 : decode cX7_count 79 = .ok (.iconst 0, 1) := by decide +kernel
theorem dX7_count_80 : decode cX7_count 80 = .ok (.invokevirtual 130, 3) := by decide +kernel
theorem dX7_count_83 : decode cX7_count 83 = .ok (.ireturn, 1) := by decide +kernel
theorem dX7_count_84 : decode cX7_count 84 = .ok (.aload_n 0, 1) := by decide +kernel
theorem dX7_count_85 : decode cX7_count 85 = .ok (.getfield 19, 3) := by decide +kernel
theorem dX7_count_88 : decode cX7_count 88 = .ok (.iconst 1, 1) := by decide +kernel
theorem dX7_count_89 : decode cX7_count 89 = .ok (.invokevirtual 130, 3) := by decide +kernel
theorem dX7_count_92 : decode cX7_count 92 = .ok (.ireturn, 1) := by decide +kernel
theorem dX7_count_93 : decode cX7_count 93 = .ok (.aload_n 0, 1) := by decide +kernel
theorem dX7_count_94 : decode cX7_count 94 = .ok (.getfield 19, 3) := by decide +kernel
theorem dX7_count_97 : decode cX7_count 97 = .ok (.iconst 2, 1) := by decide +kernel
theorem dX7_count_98 : decode cX7_count 98 = .ok (.invokevirtual 130, 3) := by decide +kernel
theorem dX7_count_101 : decode cX7_count 101 = .ok (.ireturn, 1) := by decide +kernel
theorem dX7_count_102 : decode cX7_count 102 = .ok (.aload_n 0, 1) := by decide +kernel
theorem dX7_count_103 : decode cX7_count 103 = .ok (.getfield 19, 3) := by decide +kernel
theorem dX7_count_106 : decode cX7_count 106 = .ok (.getfield 193, 3) := by decide +kernel
theorem dX7_count_109 : decode cX7_count 109 = .ok (.ireturn, 1) := by decide +kernel
theorem dX7_count_110 : decode cX7_count 110 = .ok (.aload_n 0, 1) := by decide +kernel
theorem dX7_count_111 : decode cX7_count 111 = .ok (.getfield 19, 3) := by decide +kernel
theorem dX7_count_114 : decode cX7_count 114 = .ok (.getfield 196, 3) := by decide +kernel
theorem dX7_count_117 : decode cX7_count 117 = .ok (.ireturn, 1) := by decide +kernel
end
section
theorem dX7_count_118 : decode cX7_count 118 = .ok (.aload_n 0, 1) := by decide +kernel
theorem dX7_count_119 : decode cX7_count 119 = .ok (.getfield 19, 3) := by decide +kernel
theorem dX7_count_122 : decode cX7_count 122 = .ok (.getfield 138, 3) := by decide +kernel
theorem dX7_count_125 : decode cX7_count 125 = .ok (.ireturn, 1) := by decide +kernel
theorem dX7_count_126 : decode cX7_count 126 = .ok (.aload_n 0, 1) := by decide +kernel
theorem dX7_count_127 : decode cX7_count 127 = .ok (.getfield 26, 3) := by decide +kernel
theorem dX7_count_130 : decode cX7_count 130 = .ok (.getfield 154, 3) := by decide +kernel
theorem dX7_count_133 : decode cX7_count 133 = .ok (.ireturn, 1) := by decide +kernel
theorem dX7_count_134 : decode cX7_count 134 = .ok (.aload_n 0, 1) := by decide +kernel
theorem dX7_count_135 : decode cX7_count 135 = .ok (.getfield 10, 3) := by decide +kernel
theorem dX7_count_138 : decode cX7_count 138 = .ok (.getfield 63, 3) := by decide +kernel
theorem dX7_count_141 : decode cX7_count 141 = .ok (.ireturn, 1) := by decide +kernel
theorem dX7_count_142 : decode cX7_count 142 = .ok (.iconst (-1), 1) := by decide +kernel
theorem dX7_count_143 : decode cX7_count 143 = .ok (.ireturn, 1) := by decide +kernel
theorem dX7_placeOfFrames_0 : decode cX7_placeOfFrames 0 = .ok (.iload_n 1, 1) := by decide +kernel
theorem dX7_placeOfFrames_1 : decode cX7_placeOfFrames 1 = .ok (.ifCond .lt 23, 3) := by decide +kernel
theorem dX7_placeOfFrames_4 : decode cX7_placeOfFrames 4 = .ok (.iload_n 1, 1) := by decide +kernel
theorem dX7_placeOfFrames_5 : decode cX7_placeOfFrames 5 = .ok (.iconst 1, 1) := by decide +kernel
theorem dX7_placeOfFrames_6 : decode cX7_placeOfFrames 6 = .ok (.if_icmp .gt 18, 3) := by decide +kernel
theorem dX7_placeOfFrames_9 : decode cX7_placeOfFrames 9 = .ok (.iload_n 2, 1) := by decide +kernel
theorem dX7_placeOfFrames_10 : decode cX7_placeOfFrames 10 = .ok (.ifCond .lt 14, 3) := by decide +kernel
theorem dX7_placeOfFrames_13 : decode cX7_placeOfFrames 13 = .ok (.iload_n 2, 1) := by decide +kernel
theorem dX7_placeOfFrames_14 : decode cX7_placeOfFrames 14 = .ok (.aload_n 0, 1) := by decide +kernel
theorem dX7_placeOfFrames_15 : decode cX7_placeOfFrames 15 = .ok (.getfield 19, 3) := by decide +kernel
theorem dX7_placeOfFrames_18 : decode cX7_placeOfFrames 18 = .ok (.getfield 75, 3) := by decide +kernel
theorem dX7_placeOfFrames_21 : decode cX7_placeOfFrames 21 = .ok (.if_icmp .lt 6, 3) := by decide +kernel
theorem dX7_placeOfFrames_24 : decode cX7_placeOfFrames 24 = .ok (.bipush (-4), 2) := by decide +kernel
theorem dX7_placeOfFrames_26 : decode cX7_placeOfFrames 26 = .ok (.ireturn, 1) := by decide +kernel
theorem dX7_placeOfFrames_27 : decode cX7_placeOfFrames 27 = .ok (.iload_n 1, 1) := by decide +kernel
theorem dX7_placeOfFrames_28 : decode cX7_placeOfFrames 28 = .ok (.bipush 6, 2) := by decide +kernel
theorem dX7_placeOfFrames_30 : decode cX7_placeOfFrames 30 = .ok (.imul, 1) := by decide +kernel
theorem dX7_placeOfFrames_31 : decode cX7_placeOfFrames 31 = .ok (.iload_n 2, 1) := by decide +kernel
theorem dX7_placeOfFrames_32 : decode cX7_placeOfFrames 32 = .ok (.iadd, 1) := by decide +kernel
theorem dX7_placeOfFrames_33 : decode cX7_placeOfFrames 33 = .ok (.istore_n 3, 1) := by decide +kernel
theorem dX7_placeOfFrames_34 : decode cX7_placeOfFrames 34 = .ok (.iload_n 3, 1) := by decide +kernel
theorem dX7_placeOfFrames_35 : decode cX7_placeOfFrames 35 = .ok (.aload_n 0, 1) := by decide +kernel
theorem dX7_placeOfFrames_36 : decode cX7_placeOfFrames 36 = .ok (.getfield 30, 3) := by decide +kernel
theorem dX7_placeOfFrames_39 : decode cX7_placeOfFrames 39 = .ok (.arraylength, 1) := by decide +kernel
theorem dX7_placeOfFrames_40 : decode cX7_placeOfFrames 40 = .ok (.if_icmp .ge 7, 3) := by decide +kernel
theorem dX7_placeOfFrames_43 : decode cX7_placeOfFrames 43 = .ok (.iload_n 3, 1) := by decide +kernel
theorem dX7_placeOfFrames_44 : decode cX7_placeOfFrames 44 = .ok (.goto 5, 3) := by decide +kernel
theorem dX7_placeOfFrames_47 : decode cX7_placeOfFrames 47 = .ok (.bipush (-4), 2) := by decide +kernel
theorem dX7_placeOfFrames_49 : decode cX7_placeOfFrames 49 = .ok (.ireturn, 1) := by decide +kernel
theorem dX7_isZeroOrOne_0 : decode cX7_isZeroOrOne 0 = .ok (.iload_n 0, 1) := by decide +kernel
theorem dX7_isZeroOrOne_1 : decode cX7_isZeroOrOne 1 = .ok (.ifCond .eq 8, 3) := by decide +kernel
theorem dX7_isZeroOrOne_4 : decode cX7_isZeroOrOne 4 = .ok (.iload_n 0, 1) := by decide +kernel
theorem dX7_isZeroOrOne_5 : decode cX7_isZeroOrOne 5 = .ok (.iconst 1, 1) := by decide +kernel
theorem dX7_isZeroOrOne_6 : decode cX7_isZeroOrOne 6 = .ok (.if_icmp .ne 7, 3) := by decide +kernel
theorem dX7_isZeroOrOne_9 : decode cX7_isZeroOrOne 9 = .ok (.iconst 1, 1) := by decide +kernel
theorem dX7_isZeroOrOne_10 : decode cX7_isZeroOrOne 10 = .ok (.goto 4, 3) := by decide +kernel
theorem dX7_isZeroOrOne_13 : decode cX7_isZeroOrOne 13 = .ok (.iconst 0, 1) := by decide +kernel
theorem dX7_isZeroOrOne_14 : decode cX7_isZeroOrOne 14 = .ok (.ireturn, 1) := by decide +kernel
theorem dX7_isFigure_0 : decode cX7_isFigure 0 = .ok (.iload_n 0, 1) := by decide +kernel
theorem dX7_isFigure_1 : decode cX7_isFigure 1 = .ok (.ifCond .lt 13, 3) := by decide +kernel
theorem dX7_isFigure_4 : decode cX7_isFigure 4 = .ok (.iload_n 0, 1) := by decide +kernel
theorem dX7_isFigure_5 : decode cX7_isFigure 5 = .ok (.bipush 9, 2) := by decide +kernel
theorem dX7_isFigure_7 : decode cX7_isFigure 7 = .ok (.if_icmp .gt 7, 3) := by decide +kernel
theorem dX7_isFigure_10 : decode cX7_isFigure 10 = .ok (.iconst 1, 1) := by decide +kernel
theorem dX7_isFigure_11 : decode cX7_isFigure 11 = .ok (.goto 4, 3) := by decide +kernel
theorem dX7_isFigure_14 : decode cX7_isFigure 14 = .ok (.iconst 0, 1) := by decide +kernel
theorem dX7_isFigure_15 : decode cX7_isFigure 15 = .ok (.ireturn, 1) := by decide +kernel
theorem dX7_isMost_0 : decode cX7_isMost 0 = .ok (.iload_n 0, 1) := by decide +kernel
theorem dX7_isMost_1 : decode cX7_isMost 1 = .ok (.iconst 1, 1) := by decide +kernel
theorem dX7_isMost_2 : decode cX7_isMost 2 = .ok (.if_icmp .lt 13, 3) := by decide +kernel
theorem dX7_isMost_5 : decode cX7_isMost 5 = .ok (.iload_n 0, 1) := by decide +kernel
theorem dX7_isMost_6 : decode cX7_isMost 6 = .ok (.bipush 6, 2) := by decide +kernel
theorem dX7_isMost_8 : decode cX7_isMost 8 = .ok (.if_icmp .gt 7, 3) := by decide +kernel
theorem dX7_isMost_11 : decode cX7_isMost 11 = .ok (.iconst 1, 1) := by decide +kernel
theorem dX7_isMost_12 : decode cX7_isMost 12 = .ok (.goto 4, 3) := by decide +kernel
theorem dX7_isMost_15 : decode cX7_isMost 15 = .ok (.iconst 0, 1) := by decide +kernel
theorem dX7_isMost_16 : decode cX7_isMost 16 = .ok (.ireturn, 1) := by decide +kernel
set_option maxRecDepth 20000 in
theorem ggX8_init_X8_clearsPlan : GoodIn wsX8_init wsX8_clearsPlan := goodIn_r _ [21, 22, 11, 12, 38, 39, 40, 41, 42, 43, 44, 45, 46, 47, 48, 49, 50, 51, 52, 53, 54, 55] (by decide +kernel) (by decide +kernel)
set_option maxRecDepth 20000 in
theorem gX8_init_X8_clearsPlan : GoodIn wsX8_init (wsV RX8 44 RX8 yX8_clearsPlan wsX8_clearsPlan) := goodIn_app (goodIn_of _ (by decide +kernel)) ggX8_init_X8_clearsPlan
set_option maxRecDepth 20000 in
theorem ggX8_init_X8_adds : GoodIn wsX8_init wsX8_adds := goodIn_r _ [26, 10, 22, 38, 39, 40, 41, 42, 43, 44, 45, 46, 47, 48, 49, 50, 51, 52, 53, 54, 55] (by decide +kernel) (by decide +kernel)
set_option maxRecDepth 20000 in
theorem gX8_init_X8_adds : GoodIn wsX8_init (wsV RX8 47 RX8 yX8_adds wsX8_adds) := goodIn_app (goodIn_of _ (by decide +kernel)) ggX8_init_X8_adds
set_option maxRecDepth 20000 in
theorem ggX8_init_X8_lays : GoodIn wsX8_init wsX8_lays := goodIn_r _ [30, 22, 31, 12, 32, 33, 5, 11, 10, 8, 34, 35, 36, 20, 37, 38, 39, 40, 41, 42, 43, 44, 45, 46, 47, 48, 49, 50, 51, 52, 53, 54, 55] (by decide +kernel) (by decide +kernel)
set_option maxRecDepth 20000 in
theorem gX8_init_X8_lays : GoodIn wsX8_init (wsV RX8 51 RX8 yX8_lays wsX8_lays) := goodIn_app (goodIn_of _ (by decide +kernel)) ggX8_init_X8_lays
theorem dX8_init_0 : decode cX8_init 0 = .ok (.aload_n 0, 1) := by decide +kernel
theorem dX8_init_1 : decode cX8_init 1 = .ok (.invokespecial 1, 3) := by decide +kernel
theorem dX8_init_4 : decode cX8_init 4 = .ok (.aload_n 0, 1) := by decide +kernel
theorem dX8_init_5 : decode cX8_init 5 = .ok (.sipush 235, 3) := by decide +kernel
theorem dX8_init_8 : decode cX8_init 8 = .ok (.newarray .int, 2) := by decide +kernel
theorem dX8_init_10 : decode cX8_init 10 = .ok (.putfield 7, 3) := by decide +kernel
theorem dX8_init_13 : decode cX8_init 13 = .ok (.aload_n 0, 1) := by decide +kernel
theorem dX8_init_14 : decode cX8_init 14 = .ok (.sipush 235, 3) := by decide +kernel
theorem dX8_init_17 : decode cX8_init 17 = .ok (.newarray .int, 2) := by decide +kernel
theorem dX8_init_19 : decode cX8_init 19 = .ok (.putfield 13, 3) := by decide +kernel
theorem dX8_init_22 : decode cX8_init 22 = .ok (.aload_n 0, 1) := by decide +kernel
theorem dX8_init_23 : decode cX8_init 23 = .ok (.sipush 1410, 3) := by decide +kernel
theorem dX8_init_26 : decode cX8_init 26 = .ok (.newarray .int, 2) := by decide +kernel
theorem dX8_init_28 : decode cX8_init 28 = .ok (.putfield 16, 3) := by decide +kernel
theorem dX8_init_31 : decode cX8_init 31 = .ok (.aload_n 0, 1) := by decide +kernel
theorem dX8_init_32 : decode cX8_init 32 = .ok (.bipush 12, 2) := by decide +kernel
theorem dX8_init_34 : decode cX8_init 34 = .ok (.newarray .int, 2) := by decide +kernel
theorem dX8_init_36 : decode cX8_init 36 = .ok (.putfield 19, 3) := by decide +kernel
theorem dX8_init_39 : decode cX8_init 39 = .ok (.aload_n 0, 1) := by decide +kernel
theorem dX8_init_40 : decode cX8_init 40 = .ok (.sipush 200, 3) := by decide +kernel
theorem dX8_init_43 : decode cX8_init 43 = .ok (.newarray .int, 2) := by decide +kernel
theorem dX8_init_45 : decode cX8_init 45 = .ok (.putfield 22, 3) := by decide +kernel
theorem dX8_init_48 : decode cX8_init 48 = .ok (.aload_n 0, 1) := by decide +kernel
theorem dX8_init_49 : decode cX8_init 49 = .ok (.bipush 24, 2) := by decide +kernel
theorem dX8_init_51 : decode cX8_init 51 = .ok (.newarray .int, 2) := by decide +kernel
theorem dX8_init_53 : decode cX8_init 53 = .ok (.putfield 25, 3) := by decide +kernel
theorem dX8_init_56 : decode cX8_init 56 = .ok (.aload_n 0, 1) := by decide +kernel
theorem dX8_init_57 : decode cX8_init 57 = .ok (.iconst 2, 1) := by decide +kernel
theorem dX8_init_58 : decode cX8_init 58 = .ok (.newarray .int, 2) := by decide +kernel
theorem dX8_init_60 : decode cX8_init 60 = .ok (.putfield 28, 3) := by decide +kernel
theorem dX8_init_63 : decode cX8_init 63 = .ok (.aload_n 0, 1) := by decide +kernel
theorem dX8_init_64 : decode cX8_init 64 = .ok (.iconst 3, 1) := by decide +kernel
theorem dX8_init_65 : decode cX8_init 65 = .ok (.newarray .int, 2) := by decide +kernel
theorem dX8_init_67 : decode cX8_init 67 = .ok (.putfield 31, 3) := by decide +kernel
theorem dX8_init_70 : decode cX8_init 70 = .ok (.aload_n 0, 1) := by decide +kernel
theorem dX8_init_71 : decode cX8_init 71 = .ok (.iconst 4, 1) := by decide +kernel
theorem dX8_init_72 : decode cX8_init 72 = .ok (.newarray .int, 2) := by decide +kernel
theorem dX8_init_74 : decode cX8_init 74 = .ok (.putfield 34, 3) := by decide +kernel
theorem dX8_init_77 : decode cX8_init 77 = .ok (.aload_n 0, 1) := by decide +kernel
theorem dX8_init_78 : decode cX8_init 78 = .ok (.bipush 6, 2) := by decide +kernel
theorem dX8_init_80 : decode cX8_init 80 = .ok (.newarray .boolean, 2) := by decide +kernel
theorem dX8_init_82 : decode cX8_init 82 = .ok (.putfield 37, 3) := by decide +kernel
theorem dX8_init_85 : decode cX8_init 85 = .ok (.aload_n 0, 1) := by decide +kernel
theorem dX8_init_86 : decode cX8_init 86 = .ok (.bipush 28, 2) := by decide +kernel
theorem dX8_init_88 : decode cX8_init 88 = .ok (.newarray .int, 2) := by decide +kernel
theorem dX8_init_90 : decode cX8_init 90 = .ok (.putfield 41, 3) := by decide +kernel
theorem dX8_init_93 : decode cX8_init 93 = .ok (.aload_n 0, 1) := by decide +kernel
theorem dX8_init_94 : decode cX8_init 94 = .ok (.invokevirtual 44, 3) := by decide +kernel
theorem dX8_init_97 : decode cX8_init 97 = .ok (.aload_n 0, 1) := by decide +kernel
theorem dX8_init_98 : decode cX8_init 98 = .ok (.iconst 1, 1) := by decide +kernel
theorem dX8_init_99 : decode cX8_init 99 = .ok (.iconst 5, 1) := by decide +kernel
theorem dX8_init_100 : decode cX8_init 100 = .ok (.iconst 2, 1) := by decide +kernel
theorem dX8_init_101 : decode cX8_init 101 = .ok (.iconst 5, 1) := by decide +kernel
theorem dX8_init_102 : decode cX8_init 102 = .ok (.invokevirtual 47, 3) := by decide +kernel
theorem dX8_init_105 : decode cX8_init 105 = .ok (.aload_n 0, 1) := by decide +kernel
theorem dX8_init_106 : decode cX8_init 106 = .ok (.iconst 1, 1) := by decide +kernel
theorem dX8_init_107 : decode cX8_init 107 = .ok (.iconst 3, 1) := by decide +kernel
theorem dX8_init_108 : decode cX8_init 108 = .ok (.iconst 2, 1) := by decide +kernel
theorem dX8_init_109 : decode cX8_init 109 = .ok (.iconst 4, 1) := by decide +kernel
theorem dX8_init_110 : decode cX8_init 110 = .ok (.invokevirtual 47, 3) := by decide +kernel
theorem dX8_init_113 : decode cX8_init 113 = .ok (.aload_n 0, 1) := by decide +kernel
theorem dX8_init_114 : decode cX8_init 114 = .ok (.iconst 1, 1) := by decide +kernel
theorem dX8_init_115 : decode cX8_init 115 = .ok (.iconst 5, 1) := by decide +kernel
theorem dX8_init_116 : decode cX8_init 116 = .ok (.iconst 2, 1) := by decide +kernel
theorem dX8_init_117 : decode cX8_init 117 = .ok (.iconst 1, 1) := by decide +kernel
theorem dX8_init_118 : decode cX8_init 118 = .ok (.invokevirtual 47, 3) := by decide +kernel
theorem dX8_init_121 : decode cX8_init 121 = .ok (.aload_n 0, 1) := by decide +kernel
theorem dX8_init_122 : decode cX8_init 122 = .ok (.iconst 1, 1) := by decide +kernel
theorem dX8_init_123 : decode cX8_init 123 = .ok (.iconst 5, 1) := by decide +kernel
theorem dX8_init_124 : decode cX8_init 124 = .ok (.iconst 3, 1) := by decide +kernel
theorem dX8_init_125 : decode cX8_init 125 = .ok (.iconst 5, 1) := by decide +kernel
theorem dX8_init_126 : decode cX8_init 126 = .ok (.invokevirtual 47, 3) := by decide +kernel
theorem dX8_init_129 : decode cX8_init 129 = .ok (.aload_n 0, 1) := by decide +kernel
theorem dX8_init_130 : decode cX8_init 130 = .ok (.iconst 1, 1) := by decide +kernel
theorem dX8_init_131 : decode cX8_init 131 = .ok (.bipush 6, 2) := by decide +kernel
theorem dX8_init_133 : decode cX8_init 133 = .ok (.iconst 2, 1) := by decide +kernel
theorem dX8_init_134 : decode cX8_init 134 = .ok (.bipush 6, 2) := by decide +kernel
theorem dX8_init_136 : decode cX8_init 136 = .ok (.invokevirtual 47, 3) := by decide +kernel
theorem dX8_init_139 : decode cX8_init 139 = .ok (.aload_n 0, 1) := by decide +kernel
theorem dX8_init_140 : decode cX8_init 140 = .ok (.getfield 28, 3) := by decide +kernel
theorem dX8_init_143 : decode cX8_init 143 = .ok (.iconst 0, 1) := by decide +kernel
theorem dX8_init_144 : decode cX8_init 144 = .ok (.iconst 4, 1) := by decide +kernel
theorem dX8_init_145 : decode cX8_init 145 = .ok (.iastore, 1) := by decide +kernel
theorem dX8_init_146 : decode cX8_init 146 = .ok (.aload_n 0, 1) := by decide +kernel
theorem dX8_init_147 : decode cX8_init 147 = .ok (.getfield 31, 3) := by decide +kernel
theorem dX8_init_150 : decode cX8_init 150 = .ok (.iconst 0, 1) := by decide +kernel
theorem dX8_init_151 : decode cX8_init 151 = .ok (.iconst 2, 1) := by decide +kernel
theorem dX8_init_152 : decode cX8_init 152 = .ok (.iastore, 1) := by decide +kernel
theorem dX8_init_153 : decode cX8_init 153 = .ok (.aload_n 0, 1) := by decide +kernel
theorem dX8_init_154 : decode cX8_init 154 = .ok (.invokevirtual 51, 3) := by decide +kernel
theorem dX8_init_157 : decode cX8_init 157 = .ok (.return_, 1) := by decide +kernel
theorem dX8_within_0 : decode cX8_within 0 = .ok (.iload_n 0, 1) := by decide +kernel
theorem dX8_within_1 : decode cX8_within 1 = .ok (.iload_n 1, 1) := by decide +kernel
theorem dX8_within_2 : decode cX8_within 2 = .ok (.if_icmp .lt 12, 3) := by decide +kernel
theorem dX8_within_5 : decode cX8_within 5 = .ok (.iload_n 0, 1) := by decide +kernel
theorem dX8_within_6 : decode cX8_within 6 = .ok (.iload_n 2, 1) := by decide +kernel
theorem dX8_within_7 : decode cX8_within 7 = .ok (.if_icmp .gt 7, 3) := by decide +kernel
theorem dX8_within_10 : decode cX8_within 10 = .ok (.iconst 1, 1) := by decide +kernel
theorem dX8_within_11 : decode cX8_within 11 = .ok (.goto 4, 3) := by decide +kernel
theorem dX8_within_14 : decode cX8_within 14 = .ok (.iconst 0, 1) := by decide +kernel
theorem dX8_within_15 : decode cX8_within 15 = .ok (.ireturn, 1) := by decide +kernel
theorem dX8_clearsPlan_0 : decode cX8_clearsPlan 0 = .ok (.aload_n 0, 1) := by decide +kernel
theorem dX8_clearsPlan_1 : decode cX8_clearsPlan 1 = .ok (.iconst 0, 1) := by decide +kernel
theorem dX8_clearsPlan_2 : decode cX8_clearsPlan 2 = .ok (.putfield 54, 3) := by decide +kernel
theorem dX8_clearsPlan_5 : decode cX8_clearsPlan 5 = .ok (.aload_n 0, 1) := by decide +kernel
theorem dX8_clearsPlan_6 : decode cX8_clearsPlan 6 = .ok (.getfield 28, 3) := by decide +kernel
theorem dX8_clearsPlan_9 : decode cX8_clearsPlan 9 = .ok (.iconst 0, 1) := by decide +kernel
theorem dX8_clearsPlan_10 : decode cX8_clearsPlan 10 = .ok (.iconst 5, 1) := by decide +kernel
theorem dX8_clearsPlan_11 : decode cX8_clearsPlan 11 = .ok (.iastore, 1) := by decide +kernel
theorem dX8_clearsPlan_12 : decode cX8_clearsPlan 12 = .ok (.aload_n 0, 1) := by decide +kernel
theorem dX8_clearsPlan_13 : decode cX8_clearsPlan 13 = .ok (.getfield 28, 3) := by decide +kernel
theorem dX8_clearsPlan_16 : decode cX8_clearsPlan 16 = .ok (.iconst 1, 1) := by decide +kernel
theorem dX8_clearsPlan_17 : decode cX8_clearsPlan 17 = .ok (.iconst 5, 1) := by decide +kernel
theorem dX8_clearsPlan_18 : decode cX8_clearsPlan 18 = .ok (.iastore, 1) := by decide +kernel
theorem dX8_clearsPlan_19 : decode cX8_clearsPlan 19 = .ok (.aload_n 0, 1) := by decide +kernel
theorem dX8_clearsPlan_20 : decode cX8_clearsPlan 20 = .ok (.getfield 31, 3) := by decide +kernel
theorem dX8_clearsPlan_23 : decode cX8_clearsPlan 23 = .ok (.iconst 0, 1) := by decide +kernel
theorem dX8_clearsPlan_24 : decode cX8_clearsPlan 24 = .ok (.iconst 4, 1) := by decide +kernel
theorem dX8_clearsPlan_25 : decode cX8_clearsPlan 25 = .ok (.iastore, 1) := by decide +kernel
theorem dX8_clearsPlan_26 : decode cX8_clearsPlan 26 = .ok (.aload_n 0, 1) := by decide +kernel
theorem dX8_clearsPlan_27 : decode cX8_clearsPlan 27 = .ok (.getfield 31, 3) := by decide +kernel
theorem dX8_clearsPlan_30 : decode cX8_clearsPlan 30 = .ok (.iconst 1, 1) := by decide +kernel
theorem dX8_clearsPlan_31 : decode cX8_clearsPlan 31 = .ok (.iconst 2, 1) := by decide +kernel
theorem dX8_clearsPlan_32 : decode cX8_clearsPlan 32 = .ok (.iastore, 1) := by decide +kernel
theorem dX8_clearsPlan_33 : decode cX8_clearsPlan 33 = .ok (.aload_n 0, 1) := by decide +kernel
theorem dX8_clearsPlan_34 : decode cX8_clearsPlan 34 = .ok (.getfield 31, 3) := by decide +kernel
theorem dX8_clearsPlan_37 : decode cX8_clearsPlan 37 = .ok (.iconst 2, 1) := by decide +kernel
theorem dX8_clearsPlan_38 : decode cX8_clearsPlan 38 = .ok (.iconst 1, 1) := by decide +kernel
theorem dX8_clearsPlan_39 : decode cX8_clearsPlan 39 = .ok (.iastore, 1) := by decide +kernel
theorem dX8_clearsPlan_40 : decode cX8_clearsPlan 40 = .ok (.return_, 1) := by decide +kernel
theorem dX8_adds_0 : decode cX8_adds 0 = .ok (.aload_n 0, 1) := by decide +kernel
theorem dX8_adds_1 : decode cX8_adds 1 = .ok (.getfield 25, 3) := by decide +kernel
theorem dX8_adds_4 : decode cX8_adds 4 = .ok (.iconst 4, 1) := by decide +kernel
theorem dX8_adds_5 : decode cX8_adds 5 = .ok (.aload_n 0, 1) := by decide +kernel
theorem dX8_adds_6 : decode cX8_adds 6 = .ok (.getfield 54, 3) := by decide +kernel
theorem dX8_adds_9 : decode cX8_adds 9 = .ok (.imul, 1) := by decide +kernel
theorem dX8_adds_10 : decode cX8_adds 10 = .ok (.iload_n 1, 1) := by decide +kernel
theorem dX8_adds_11 : decode cX8_adds 11 = .ok (.iastore, 1) := by decide +kernel
theorem dX8_adds_12 : decode cX8_adds 12 = .ok (.aload_n 0, 1) := by decide +kernel
theorem dX8_adds_13 : decode cX8_adds 13 = .ok (.getfield 25, 3) := by decide +kernel
theorem dX8_adds_16 : decode cX8_adds 16 = .ok (.iconst 4, 1) := by decide +kernel
theorem dX8_adds_17 : decode cX8_adds 17 = .ok (.aload_n 0, 1) := by decide +kernel
theorem dX8_adds_18 : decode cX8_adds 18 = .ok (.getfield 54, 3) := by decide +kernel
theorem dX8_adds_21 : decode cX8_adds 21 = .ok (.imul, 1) := by decide +kernel
theorem dX8_adds_22 : decode cX8_adds 22 = .ok (.iconst 1, 1) := by decide +kernel
theorem dX8_adds_23 : decode cX8_adds 23 = .ok (.iadd, 1) := by decide +kernel
theorem dX8_adds_24 : decode cX8_adds 24 = .ok (.iload_n 2, 1) := by decide +kernel
theorem dX8_adds_25 : decode cX8_adds 25 = .ok (.iastore, 1) := by decide +kernel
theorem dX8_adds_26 : decode cX8_adds 26 = .ok (.aload_n 0, 1) := by decide +kernel
theorem dX8_adds_27 : decode cX8_adds 27 = .ok (.getfield 25, 3) := by decide +kernel
theorem dX8_adds_30 : decode cX8_adds 30 = .ok (.iconst 4, 1) := by decide +kernel
theorem dX8_adds_31 : decode cX8_adds 31 = .ok (.aload_n 0, 1) := by decide +kernel
theorem dX8_adds_32 : decode cX8_adds 32 = .ok (.getfield 54, 3) := by decide +kernel
theorem dX8_adds_35 : decode cX8_adds 35 = .ok (.imul, 1) := by decide +kernel
theorem dX8_adds_36 : decode cX8_adds 36 = .ok (.iconst 2, 1) := by decide +kernel
theorem dX8_adds_37 : decode cX8_adds 37 = .ok (.iadd, 1) := by decide +kernel
theorem dX8_adds_38 : decode cX8_adds 38 = .ok (.iload_n 3, 1) := by decide +kernel
theorem dX8_adds_39 : decode cX8_adds 39 = .ok (.iastore, 1) := by decide +kernel
theorem dX8_adds_40 : decode cX8_adds 40 = .ok (.aload_n 0, 1) := by decide +kernel
theorem dX8_adds_41 : decode cX8_adds 41 = .ok (.getfield 25, 3) := by decide +kernel
theorem dX8_adds_44 : decode cX8_adds 44 = .ok (.iconst 4, 1) := by decide +kernel
theorem dX8_adds_45 : decode cX8_adds 45 = .ok (.aload_n 0, 1) := by decide +kernel
theorem dX8_adds_46 : decode cX8_adds 46 = .ok (.getfield 54, 3) := by decide +kernel
theorem dX8_adds_49 : decode cX8_adds 49 = .ok (.imul, 1) := by decide +kernel
theorem dX8_adds_50 : decode cX8_adds 50 = .ok (.iconst 3, 1) := by decide +kernel
theorem dX8_adds_51 : decode cX8_adds 51 = .ok (.iadd, 1) := by decide +kernel
theorem dX8_adds_52 : decode cX8_adds 52 = .ok (.iload 4, 2) := by decide +kernel
theorem dX8_adds_54 : decode cX8_adds 54 = .ok (.iastore, 1) := by decide +kernel
theorem dX8_adds_55 : decode cX8_adds 55 = .ok (.aload_n 0, 1) := by decide +kernel
theorem dX8_adds_56 : decode cX8_adds 56 = .ok (.dup, 1) := by decide +kernel
theorem dX8_adds_57 : decode cX8_adds 57 = .ok (.getfield 54, 3) := by decide +kernel
theorem dX8_adds_60 : decode cX8_adds 60 = .ok (.iconst 1, 1) := by decide +kernel
theorem dX8_adds_61 : decode cX8_adds 61 = .ok (.iadd, 1) := by decide +kernel
theorem dX8_adds_62 : decode cX8_adds 62 = .ok (.putfield 54, 3) := by decide +kernel
theorem dX8_adds_65 : decode cX8_adds 65 = .ok (.return_, 1) := by decide +kernel
theorem dX8_passes_0 : decode cX8_passes 0 = .ok (.aload_n 0, 1) := by decide +kernel
theorem dX8_passes_1 : decode cX8_passes 1 = .ok (.getfield 58, 3) := by decide +kernel
theorem dX8_passes_4 : decode cX8_passes 4 = .ok (.aload_n 0, 1) := by decide +kernel
theorem dX8_passes_5 : decode cX8_passes 5 = .ok (.getfield 61, 3) := by decide +kernel
theorem dX8_passes_8 : decode cX8_passes 8 = .ok (.if_icmp .ge 20, 3) := by decide +kernel
theorem dX8_passes_11 : decode cX8_passes 11 = .ok (.aload_n 0, 1) := by decide +kernel
theorem dX8_passes_12 : decode cX8_passes 12 = .ok (.getfield 22, 3) := by decide +kernel
theorem dX8_passes_15 : decode cX8_passes 15 = .ok (.aload_n 0, 1) := by decide +kernel
theorem dX8_passes_16 : decode cX8_passes 16 = .ok (.getfield 58, 3) := by decide +kernel
theorem dX8_passes_19 : decode cX8_passes 19 = .ok (.iaload, 1) := by decide +kernel
theorem dX8_passes_20 : decode cX8_passes 20 = .ok (.iload_n 1, 1) := by decide +kernel
theorem dX8_passes_21 : decode cX8_passes 21 = .ok (.if_icmp .ne 7, 3) := by decide +kernel
theorem dX8_passes_24 : decode cX8_passes 24 = .ok (.iconst 1, 1) := by decide +kernel
theorem dX8_passes_25 : decode cX8_passes 25 = .ok (.goto 4, 3) := by decide +kernel
theorem dX8_passes_28 : decode cX8_passes 28 = .ok (.iconst 0, 1) := by decide +kernel
theorem dX8_passes_29 : decode cX8_passes 29 = .ok (.istore_n 2, 1) := by decide +kernel
theorem dX8_passes_30 : decode cX8_passes 30 = .ok (.aload_n 0, 1) := by decide +kernel
theorem dX8_passes_31 : decode cX8_passes 31 = .ok (.dup, 1) := by decide +kernel
theorem dX8_passes_32 : decode cX8_passes 32 = .ok (.getfield 58, 3) := by decide +kernel
theorem dX8_passes_35 : decode cX8_passes 35 = .ok (.iload_n 2, 1) := by decide +kernel
theorem dX8_passes_36 : decode cX8_passes 36 = .ok (.ifCond .eq 7, 3) := by decide +kernel
theorem dX8_passes_39 : decode cX8_passes 39 = .ok (.iconst 1, 1) := by decide +kernel
theorem dX8_passes_40 : decode cX8_passes 40 = .ok (.goto 4, 3) := by decide +kernel
theorem dX8_passes_43 : decode cX8_passes 43 = .ok (.iconst 0, 1) := by decide +kernel
theorem dX8_passes_44 : decode cX8_passes 44 = .ok (.iadd, 1) := by decide +kernel
theorem dX8_passes_45 : decode cX8_passes 45 = .ok (.putfield 58, 3) := by decide +kernel
theorem dX8_passes_48 : decode cX8_passes 48 = .ok (.iload_n 2, 1) := by decide +kernel
theorem dX8_passes_49 : decode cX8_passes 49 = .ok (.ireturn, 1) := by decide +kernel
set_option maxRecDepth 20000 in
theorem ggX8_areFigures_X8_passes : GoodIn wsX8_areFigures wsX8_passes := goodIn_r _ [9, 1, 2, 3, 13, 14, 15, 16, 17, 18, 19, 20, 21, 22, 23, 24, 25, 26, 27, 28, 29, 30] (by decide +kernel) (by decide +kernel)
set_option maxRecDepth 20000 in
theorem gX8_areFigures_X8_passes : GoodIn wsX8_areFigures (wsV RX8 64 RX8 yX8_passes wsX8_passes) := goodIn_app (goodIn_of _ (by decide +kernel)) ggX8_areFigures_X8_passes
set_option maxRecDepth 20000 in
theorem ggX8_areFigures_X8_within : GoodIn wsX8_areFigures wsX8_within := goodIn_r _ [12] (by decide +kernel) (by decide +kernel)
set_option maxRecDepth 20000 in
theorem gX8_areFigures_X8_within : GoodIn wsX8_areFigures (va_wsS RX8 68 yX8_within wsX8_within) := goodIn_app (goodIn_of _ (by decide +kernel)) ggX8_areFigures_X8_within
theorem dX8_areFigures_0 : decode cX8_areFigures 0 = .ok (.iconst 1, 1) := by decide +kernel
theorem dX8_areFigures_1 : decode cX8_areFigures 1 = .ok (.istore_n 2, 1) := by decide +kernel
theorem dX8_areFigures_2 : decode cX8_areFigures 2 = .ok (.iconst 0, 1) := by decide +kernel
theorem dX8_areFigures_3 : decode cX8_areFigures 3 = .ok (.istore_n 3, 1) := by decide +kernel
theorem dX8_areFigures_4 : decode cX8_areFigures 4 = .ok (.iload_n 3, 1) := by decide +kernel
theorem dX8_areFigures_5 : decode cX8_areFigures 5 = .ok (.iload_n 1, 1) := by decide +kernel
theorem dX8_areFigures_6 : decode cX8_areFigures 6 = .ok (.if_icmp .ge 106, 3) := by decide +kernel
theorem dX8_areFigures_9 : decode cX8_areFigures 9 = .ok (.iload_n 2, 1) := by decide +kernel
theorem dX8_areFigures_10 : decode cX8_areFigures 10 = .ok (.ifCond .eq 102, 3) := by decide +kernel
theorem dX8_areFigures_13 : decode cX8_areFigures 13 = .ok (.iload_n 3, 1) := by decide +kernel
theorem dX8_areFigures_14 : decode cX8_areFigures 14 = .ok (.ifCond .eq 12, 3) := by decide +kernel
theorem dX8_areFigures_17 : decode cX8_areFigures 17 = .ok (.aload_n 0, 1) := by decide +kernel
theorem dX8_areFigures_18 : decode cX8_areFigures 18 = .ok (.bipush 44, 2) := by decide +kernel
theorem dX8_areFigures_20 : decode cX8_areFigures 20 = .ok (.invokevirtual 64, 3) := by decide +kernel
theorem dX8_areFigures_23 : decode cX8_areFigures 23 = .ok (.ifCond .eq 37, 3) := by decide +kernel
theorem dX8_areFigures_26 : decode cX8_areFigures 26 = .ok (.aload_n 0, 1) := by decide +kernel
theorem dX8_areFigures_27 : decode cX8_areFigures 27 = .ok (.getfield 58, 3) := by decide +kernel
theorem dX8_areFigures_30 : decode cX8_areFigures 30 = .ok (.aload_n 0, 1) := by decide +kernel
theorem dX8_areFigures_31 : decode cX8_areFigures 31 = .ok (.getfield 61, 3) := by decide +kernel
theorem dX8_areFigures_34 : decode cX8_areFigures 34 = .ok (.if_icmp .ge 26, 3) := by decide +kernel
theorem dX8_areFigures_37 : decode cX8_areFigures 37 = .ok (.aload_n 0, 1) := by decide +kernel
theorem dX8_areFigures_38 : decode cX8_areFigures 38 = .ok (.getfield 22, 3) := by decide +kernel
theorem dX8_areFigures_41 : decode cX8_areFigures 41 = .ok (.aload_n 0, 1) := by decide +kernel
theorem dX8_areFigures_42 : decode cX8_areFigures 42 = .ok (.getfield 58, 3) := by decide +kernel
theorem dX8_areFigures_45 : decode cX8_areFigures 45 = .ok (.iaload, 1) := by decide +kernel
theorem dX8_areFigures_46 : decode cX8_areFigures 46 = .ok (.bipush 48, 2) := by decide +kernel
theorem dX8_areFigures_48 : decode cX8_areFigures 48 = .ok (.bipush 57, 2) := by decide +kernel
theorem dX8_areFigures_50 : decode cX8_areFigures 50 = .ok (.invokestatic 68, 3) := by decide +kernel
theorem dX8_areFigures_53 : decode cX8_areFigures 53 = .ok (.ifCond .eq 7, 3) := by decide +kernel
theorem dX8_areFigures_56 : decode cX8_areFigures 56 = .ok (.iconst 1, 1) := by decide +kernel
theorem dX8_areFigures_57 : decode cX8_areFigures 57 = .ok (.goto 4, 3) := by decide +kernel
theorem dX8_areFigures_60 : decode cX8_areFigures 60 = .ok (.iconst 0, 1) := by decide +kernel
theorem dX8_areFigures_61 : decode cX8_areFigures 61 = .ok (.istore_n 2, 1) := by decide +kernel
theorem dX8_areFigures_62 : decode cX8_areFigures 62 = .ok (.aload_n 0, 1) := by decide +kernel
theorem dX8_areFigures_63 : decode cX8_areFigures 63 = .ok (.getfield 34, 3) := by decide +kernel
theorem dX8_areFigures_66 : decode cX8_areFigures 66 = .ok (.iload_n 3, 1) := by decide +kernel
theorem dX8_areFigures_67 : decode cX8_areFigures 67 = .ok (.iload_n 2, 1) := by decide +kernel
theorem dX8_areFigures_68 : decode cX8_areFigures 68 = .ok (.ifCond .eq 18, 3) := by decide +kernel
theorem dX8_areFigures_71 : decode cX8_areFigures 71 = .ok (.aload_n 0, 1) := by decide +kernel
theorem dX8_areFigures_72 : decode cX8_areFigures 72 = .ok (.getfield 22, 3) := by decide +kernel
theorem dX8_areFigures_75 : decode cX8_areFigures 75 = .ok (.aload_n 0, 1) := by decide +kernel
theorem dX8_areFigures_76 : decode cX8_areFigures 76 = .ok (.getfield 58, 3) := by decide +kernel
theorem dX8_areFigures_79 : decode cX8_areFigures 79 = .ok (.iaload, 1) := by decide +kernel
theorem dX8_areFigures_80 : decode cX8_areFigures 80 = .ok (.bipush 48, 2) := by decide +kernel
theorem dX8_areFigures_82 : decode cX8_areFigures 82 = .ok (.isub, 1) := by decide +kernel
theorem dX8_areFigures_83 : decode cX8_areFigures 83 = .ok (.goto 4, 3) := by decide +kernel
theorem dX8_areFigures_86 : decode cX8_areFigures 86 = .ok (.iconst 0, 1) := by decide +kernel
theorem dX8_areFigures_87 : decode cX8_areFigures 87 = .ok (.iastore, 1) := by decide +kernel
theorem dX8_areFigures_88 : decode cX8_areFigures 88 = .ok (.aload_n 0, 1) := by decide +kernel
theorem dX8_areFigures_89 : decode cX8_areFigures 89 = .ok (.dup, 1) := by decide +kernel
theorem dX8_areFigures_90 : decode cX8_areFigures 90 = .ok (.getfield 58, 3) := by decide +kernel
theorem dX8_areFigures_93 : decode cX8_areFigures 93 = .ok (.iload_n 2, 1) := by decide +kernel
theorem dX8_areFigures_94 : decode cX8_areFigures 94 = .ok (.ifCond .eq 7, 3) := by decide +kernel
theorem dX8_areFigures_97 : decode cX8_areFigures 97 = .ok (.iconst 1, 1) := by decide +kernel
theorem dX8_areFigures_98 : decode cX8_areFigures 98 = .ok (.goto 4, 3) := by decide +kernel
theorem dX8_areFigures_101 : decode cX8_areFigures 101 = .ok (.iconst 0, 1) := by decide +kernel
theorem dX8_areFigures_102 : decode cX8_areFigures 102 = .ok (.iadd, 1) := by decide +kernel
theorem dX8_areFigures_103 : decode cX8_areFigures 103 = .ok (.putfield 58, 3) := by decide +kernel
theorem dX8_areFigures_106 : decode cX8_areFigures 106 = .ok (.iinc 3 1, 3) := by decide +kernel
theorem dX8_areFigures_109 : decode cX8_areFigures 109 = .ok (.goto (-105), 3) := by decide +kernel
theorem dX8_areFigures_112 : decode cX8_areFigures 112 = .ok (.iload_n 2, 1) := by decide +kernel
theorem dX8_areFigures_113 : decode cX8_areFigures 113 = .ok (.ifCond .eq 16, 3) := by decide +kernel
theorem dX8_areFigures_116 : decode cX8_areFigures 116 = .ok (.aload_n 0, 1) := by decide +kernel
theorem dX8_areFigures_117 : decode cX8_areFigures 117 = .ok (.bipush 59, 2) := by decide +kernel
theorem dX8_areFigures_119 : decode cX8_areFigures 119 = .ok (.invokevirtual 64, 3) := by decide +kernel
theorem dX8_areFigures_122 : decode cX8_areFigures 122 = .ok (.ifCond .eq 7, 3) := by decide +kernel
theorem dX8_areFigures_125 : decode cX8_areFigures 125 = .ok (.iconst 1, 1) := by decide +kernel
theorem dX8_areFigures_126 : decode cX8_areFigures 126 = .ok (.goto 4, 3) := by decide +kernel
theorem dX8_areFigures_129 : decode cX8_areFigures 129 = .ok (.iconst 0, 1) := by decide +kernel
theorem dX8_areFigures_130 : decode cX8_areFigures 130 = .ok (.ireturn, 1) := by decide +kernel
set_option maxRecDepth 20000 in
theorem ggX8_isItem_X8_passes : GoodIn wsX8_isItem wsX8_passes := goodIn_r _ [9, 10, 11, 12, 25, 26, 27, 28, 29, 30, 31, 32, 33, 34, 35, 36, 37, 38, 39, 40, 41, 42] (by decide +kernel) (by decide +kernel)
set_option maxRecDepth 20000 in
theorem gX8_isItem_X8_passes : GoodIn wsX8_isItem (wsV RX8 64 RX8 yX8_passes wsX8_passes) := goodIn_app (goodIn_of _ (by decide +kernel)) ggX8_isItem_X8_passes
set_option maxRecDepth 20000 in
theorem ggX8_isItem_X8_areFigures : GoodIn wsX8_isItem wsX8_areFigures := goodIn_r _ [16, 10, 11, 12, 2, 5, 6, 7, 8, 9, 17, 18, 19, 25, 26, 27, 28, 29, 30, 31, 32, 33, 34, 35, 36, 37, 38, 39, 40, 41, 42] (by decide +kernel) (by decide +kernel)
set_option maxRecDepth 20000 in
theorem gX8_isItem_X8_areFigures : GoodIn wsX8_isItem (wsV RX8 72 RX8 yX8_areFigures wsX8_areFigures) := goodIn_app (goodIn_of _ (by decide +kernel)) ggX8_isItem_X8_areFigures
set_option maxRecDepth 20000 in
theorem ggX8_isItem_X8_adds : GoodIn wsX8_isItem wsX8_adds := goodIn_r _ [23, 24, 1, 25, 26, 27, 28, 29, 30, 31, 32, 33, 34, 35, 36, 37, 38, 39, 40, 41, 42] (by decide +kernel) (by decide +kernel)
set_option maxRecDepth 20000 in
theorem gX8_isItem_X8_adds : GoodIn wsX8_isItem (wsV RX8 47 RX8 yX8_adds wsX8_adds) := goodIn_app (goodIn_of _ (by decide +kernel)) ggX8_isItem_X8_adds
set_option maxRecDepth 20000 in
theorem ggX8_isItem_X8_within : GoodIn wsX8_isItem wsX8_within := goodIn_r _ [19] (by decide +kernel) (by decide +kernel)
set_option maxRecDepth 20000 in
theorem gX8_isItem_X8_within : GoodIn wsX8_isItem (va_wsS RX8 68 yX8_within wsX8_within) := goodIn_app (goodIn_of _ (by decide +kernel)) ggX8_isItem_X8_within
theorem dX8_isItem_0 : decode cX8_isItem 0 = .ok (.aload_n 0, 1) := by decide +kernel
theorem dX8_isItem_1 : decode cX8_isItem 1 = .ok (.bipush 108, 2) := by decide +kernel
theorem dX8_isItem_3 : decode cX8_isItem 3 = .ok (.invokevirtual 64, 3) := by decide +kernel
theorem dX8_isItem_6 : decode cX8_isItem 6 = .ok (.ifCond .eq 52, 3) := by decide +kernel
theorem dX8_isItem_9 : decode cX8_isItem 9 = .ok (.aload_n 0, 1) := by decide +kernel
theorem dX8_isItem_10 : decode cX8_isItem 10 = .ok (.getfield 54, 3) := by decide +kernel
theorem dX8_isItem_13 : decode cX8_isItem 13 = .ok (.bipush 6, 2) := by decide +kernel
theorem dX8_isItem_15 : decode cX8_isItem 15 = .ok (.if_icmp .eq 11, 3) := by decide +kernel
theorem dX8_isItem_18 : decode cX8_isItem 18 = .ok (.aload_n 0, 1) := by decide +kernel
theorem dX8_isItem_19 : decode cX8_isItem 19 = .ok (.iconst 4, 1) := by decide +kernel
theorem dX8_isItem_20 : decode cX8_isItem 20 = .ok (.invokevirtual 72, 3) := by decide +kernel
theorem dX8_isItem_23 : decode cX8_isItem 23 = .ok (.ifCond .ne 5, 3) := by decide +kernel
theorem dX8_isItem_26 : decode cX8_isItem 26 = .ok (.iconst 0, 1) := by decide +kernel
theorem dX8_isItem_27 : decode cX8_isItem 27 = .ok (.ireturn, 1) := by decide +kernel
theorem dX8_isItem_28 : decode cX8_isItem 28 = .ok (.aload_n 0, 1) := by decide +kernel
theorem dX8_isItem_29 : decode cX8_isItem 29 = .ok (.aload_n 0, 1) := by decide +kernel
theorem dX8_isItem_30 : decode cX8_isItem 30 = .ok (.getfield 34, 3) := by decide +kernel
theorem dX8_isItem_33 : decode cX8_isItem 33 = .ok (.iconst 0, 1) := by decide +kernel
theorem dX8_isItem_34 : decode cX8_isItem 34 = .ok (.iaload, 1) := by decide +kernel
theorem dX8_isItem_35 : decode cX8_isItem 35 = .ok (.aload_n 0, 1) := by decide +kernel
theorem dX8_isItem_36 : decode cX8_isItem 36 = .ok (.getfield 34, 3) := by decide +kernel
theorem dX8_isItem_39 : decode cX8_isItem 39 = .ok (.iconst 1, 1) := by decide +kernel
theorem dX8_isItem_40 : decode cX8_isItem 40 = .ok (.iaload, 1) := by decide +kernel
theorem dX8_isItem_41 : decode cX8_isItem 41 = .ok (.aload_n 0, 1) := by decide +kernel
theorem dX8_isItem_42 : decode cX8_isItem 42 = .ok (.getfield 34, 3) := by decide +kernel
theorem dX8_isItem_45 : decode cX8_isItem 45 = .ok (.iconst 2, 1) := by decide +kernel
theorem dX8_isItem_46 : decode cX8_isItem 46 = .ok (.iaload, 1) := by decide +kernel
theorem dX8_isItem_47 : decode cX8_isItem 47 = .ok (.aload_n 0, 1) := by decide +kernel
theorem dX8_isItem_48 : decode cX8_isItem 48 = .ok (.getfield 34, 3) := by decide +kernel
theorem dX8_isItem_51 : decode cX8_isItem 51 = .ok (.iconst 3, 1) := by decide +kernel
theorem dX8_isItem_52 : decode cX8_isItem 52 = .ok (.iaload, 1) := by decide +kernel
theorem dX8_isItem_53 : decode cX8_isItem 53 = .ok (.invokevirtual 47, 3) := by decide +kernel
theorem dX8_isItem_56 : decode cX8_isItem 56 = .ok (.iconst 1, 1) := by decide +kernel
theorem dX8_isItem_57 : decode cX8_isItem 57 = .ok (.ireturn, 1) := by decide +kernel
theorem dX8_isItem_58 : decode cX8_isItem 58 = .ok (.aload_n 0, 1) := by decide +kernel
theorem dX8_isItem_59 : decode cX8_isItem 59 = .ok (.bipush 120, 2) := by decide +kernel
theorem dX8_isItem_61 : decode cX8_isItem 61 = .ok (.invokevirtual 64, 3) := by decide +kernel
theorem dX8_isItem_64 : decode cX8_isItem 64 = .ok (.ifCond .eq 35, 3) := by decide +kernel
theorem dX8_isItem_67 : decode cX8_isItem 67 = .ok (.aload_n 0, 1) := by decide +kernel
theorem dX8_isItem_68 : decode cX8_isItem 68 = .ok (.iconst 2, 1) := by decide +kernel
theorem dX8_isItem_69 : decode cX8_isItem 69 = .ok (.invokevirtual 72, 3) := by decide +kernel
theorem dX8_isItem_72 : decode cX8_isItem 72 = .ok (.istore_n 1, 1) := by decide +kernel
theorem dX8_isItem_73 : decode cX8_isItem 73 = .ok (.aload_n 0, 1) := by decide +kernel
theorem dX8_isItem_74 : decode cX8_isItem 74 = .ok (.getfield 28, 3) := by decide +kernel
theorem dX8_isItem_77 : decode cX8_isItem 77 = .ok (.iconst 0, 1) := by decide +kernel
theorem dX8_isItem_78 : decode cX8_isItem 78 = .ok (.aload_n 0, 1) := by decide +kernel
theorem dX8_isItem_79 : decode cX8_isItem 79 = .ok (.getfield 34, 3) := by decide +kernel
theorem dX8_isItem_82 : decode cX8_isItem 82 = .ok (.iconst 0, 1) := by decide +kernel
theorem dX8_isItem_83 : decode cX8_isItem 83 = .ok (.iaload, 1) := by decide +kernel
theorem dX8_isItem_84 : decode cX8_isItem 84 = .ok (.iastore, 1) := by decide +kernel
theorem dX8_isItem_85 : decode cX8_isItem 85 = .ok (.aload_n 0, 1) := by decide +kernel
theorem dX8_isItem_86 : decode cX8_isItem 86 = .ok (.getfield 28, 3) := by decide +kernel
theorem dX8_isItem_89 : decode cX8_isItem 89 = .ok (.iconst 1, 1) := by decide +kernel
theorem dX8_isItem_90 : decode cX8_isItem 90 = .ok (.aload_n 0, 1) := by decide +kernel
theorem dX8_isItem_91 : decode cX8_isItem 91 = .ok (.getfield 34, 3) := by decide +kernel
theorem dX8_isItem_94 : decode cX8_isItem 94 = .ok (.iconst 1, 1) := by decide +kernel
theorem dX8_isItem_95 : decode cX8_isItem 95 = .ok (.iaload, 1) := by decide +kernel
theorem dX8_isItem_96 : decode cX8_isItem 96 = .ok (.iastore, 1) := by decide +kernel
theorem dX8_isItem_97 : decode cX8_isItem 97 = .ok (.iload_n 1, 1) := by decide +kernel
theorem dX8_isItem_98 : decode cX8_isItem 98 = .ok (.ireturn, 1) := by decide +kernel
theorem dX8_isItem_99 : decode cX8_isItem 99 = .ok (.aload_n 0, 1) := by decide +kernel
theorem dX8_isItem_100 : decode cX8_isItem 100 = .ok (.bipush 109, 2) := by decide +kernel
theorem dX8_isItem_102 : decode cX8_isItem 102 = .ok (.invokevirtual 64, 3) := by decide +kernel
theorem dX8_isItem_105 : decode cX8_isItem 105 = .ok (.ifCond .eq 26, 3) := by decide +kernel
theorem dX8_isItem_108 : decode cX8_isItem 108 = .ok (.aload_n 0, 1) := by decide +kernel
theorem dX8_isItem_109 : decode cX8_isItem 109 = .ok (.iconst 3, 1) := by decide +kernel
theorem dX8_isItem_110 : decode cX8_isItem 110 = .ok (.invokevirtual 72, 3) := by decide +kernel
theorem dX8_isItem_113 : decode cX8_isItem 113 = .ok (.ifCond .eq 18, 3) := by decide +kernel
theorem dX8_isItem_116 : decode cX8_isItem 116 = .ok (.aload_n 0, 1) := by decide +kernel
theorem dX8_isItem_117 : decode cX8_isItem 117 = .ok (.getfield 34, 3) := by decide +kernel
theorem dX8_isItem_120 : decode cX8_isItem 120 = .ok (.iconst 0, 1) := by decide +kernel
theorem dX8_isItem_121 : decode cX8_isItem 121 = .ok (.iaload, 1) := by decide +kernel
theorem dX8_isItem_122 : decode cX8_isItem 122 = .ok (.iconst 1, 1) := by decide +kernel
theorem dX8_isItem_123 : decode cX8_isItem 123 = .ok (.bipush 6, 2) := by decide +kernel
theorem dX8_isItem_125 : decode cX8_isItem 125 = .ok (.invokestatic 68, 3) := by decide +kernel
theorem dX8_isItem_128 : decode cX8_isItem 128 = .ok (.ifCond .ne 5, 3) := by decide +kernel
theorem dX8_isItem_131 : decode cX8_isItem 131 = .ok (.iconst 0, 1) := by decide +kernel
theorem dX8_isItem_132 : decode cX8_isItem 132 = .ok (.ireturn, 1) := by decide +kernel
theorem dX8_isItem_133 : decode cX8_isItem 133 = .ok (.iconst 0, 1) := by decide +kernel
theorem dX8_isItem_134 : decode cX8_isItem 134 = .ok (.istore_n 1, 1) := by decide +kernel
theorem dX8_isItem_135 : decode cX8_isItem 135 = .ok (.iload_n 1, 1) := by decide +kernel
theorem dX8_isItem_136 : decode cX8_isItem 136 = .ok (.iconst 3, 1) := by decide +kernel
theorem dX8_isItem_137 : decode cX8_isItem 137 = .ok (.if_icmp .ge 21, 3) := by decide +kernel
theorem dX8_isItem_140 : decode cX8_isItem 140 = .ok (.aload_n 0, 1) := by decide +kernel
theorem dX8_isItem_141 : decode cX8_isItem 141 = .ok (.getfield 31, 3) := by decide +kernel
theorem dX8_isItem_144 : decode cX8_isItem 144 = .ok (.iload_n 1, 1) := by decide +kernel
theorem dX8_isItem_145 : decode cX8_isItem 145 = .ok (.aload_n 0, 1) := by decide +kernel
theorem dX8_isItem_146 : decode cX8_isItem 146 = .ok (.getfield 34, 3) := by decide +kernel
theorem dX8_isItem_149 : decode cX8_isItem 149 = .ok (.iload_n 1, 1) := by decide +kernel
theorem dX8_isItem_150 : decode cX8_isItem 150 = .ok (.iaload, 1) := by decide +kernel
theorem dX8_isItem_151 : decode cX8_isItem 151 = .ok (.iastore, 1) := by decide +kernel
theorem dX8_isItem_152 : decode cX8_isItem 152 = .ok (.iinc 1 1, 3) := by decide +kernel
theorem dX8_isItem_155 : decode cX8_isItem 155 = .ok (.goto (-20), 3) := by decide +kernel
theorem dX8_isItem_158 : decode cX8_isItem 158 = .ok (.iconst 1, 1) := by decide +kernel
theorem dX8_isItem_159 : decode cX8_isItem 159 = .ok (.ireturn, 1) := by decide +kernel
set_option maxRecDepth 20000 in
theorem ggX8_faultAt_X8_clearsPlan : GoodIn wsX8_faultAt wsX8_clearsPlan := goodIn_r _ [7, 8, 9, 10, 33, 34, 35, 36, 37, 38, 39, 40, 41, 42, 43, 44, 45, 46, 47, 48, 49, 50] (by decide +kernel) (by decide +kernel)
set_option maxRecDepth 20000 in
theorem gX8_faultAt_X8_clearsPlan : GoodIn wsX8_faultAt (wsV RX8 44 RX8 yX8_clearsPlan wsX8_clearsPlan) := goodIn_app (goodIn_of _ (by decide +kernel)) ggX8_faultAt_X8_clearsPlan
set_option maxRecDepth 20000 in
theorem ggX8_faultAt_X8_isItem : GoodIn wsX8_faultAt wsX8_isItem := goodIn_r _ [14, 8, 15, 9, 10, 16, 17, 18, 6, 19, 1, 2, 20, 21, 22, 23, 24, 25, 26, 27, 28, 29, 30, 31, 32, 33, 34, 35, 36, 37, 38, 39, 40, 41, 42, 43, 44, 45, 46, 47, 48, 49, 50] (by decide +kernel) (by decide +kernel)
set_option maxRecDepth 20000 in
theorem gX8_faultAt_X8_isItem : GoodIn wsX8_faultAt (wsV RX8 75 RX8 yX8_isItem wsX8_isItem) := goodIn_app (goodIn_of _ (by decide +kernel)) ggX8_faultAt_X8_isItem
theorem dX8_faultAt_0 : decode cX8_faultAt 0 = .ok (.aload_n 0, 1) := by decide +kernel
theorem dX8_faultAt_1 : decode cX8_faultAt 1 = .ok (.invokevirtual 44, 3) := by decide +kernel
theorem dX8_faultAt_4 : decode cX8_faultAt 4 = .ok (.aload_n 0, 1) := by decide +kernel
theorem dX8_faultAt_5 : decode cX8_faultAt 5 = .ok (.iconst 0, 1) := by decide +kernel
theorem dX8_faultAt_6 : decode cX8_faultAt 6 = .ok (.putfield 58, 3) := by decide +kernel
theorem dX8_faultAt_9 : decode cX8_faultAt 9 = .ok (.aload_n 0, 1) := by decide +kernel
theorem dX8_faultAt_10 : decode cX8_faultAt 10 = .ok (.getfield 58, 3) := by decide +kernel
theorem dX8_faultAt_13 : decode cX8_faultAt 13 = .ok (.aload_n 0, 1) := by decide +kernel
theorem dX8_faultAt_14 : decode cX8_faultAt 14 = .ok (.getfield 61, 3) := by decide +kernel
theorem dX8_faultAt_17 : decode cX8_faultAt 17 = .ok (.if_icmp .ge 20, 3) := by decide +kernel
theorem dX8_faultAt_20 : decode cX8_faultAt 20 = .ok (.aload_n 0, 1) := by decide +kernel
theorem dX8_faultAt_21 : decode cX8_faultAt 21 = .ok (.getfield 58, 3) := by decide +kernel
theorem dX8_faultAt_24 : decode cX8_faultAt 24 = .ok (.istore_n 1, 1) := by decide +kernel
theorem dX8_faultAt_25 : decode cX8_faultAt 25 = .ok (.aload_n 0, 1) := by decide +kernel
theorem dX8_faultAt_26 : decode cX8_faultAt 26 = .ok (.invokevirtual 75, 3) := by decide +kernel
theorem dX8_faultAt_29 : decode cX8_faultAt 29 = .ok (.ifCond .ne 5, 3) := by decide +kernel
theorem dX8_faultAt_32 : decode cX8_faultAt 32 = .ok (.iload_n 1, 1) := by decide +kernel
theorem dX8_faultAt_33 : decode cX8_faultAt 33 = .ok (.ireturn, 1) := by decide +kernel
theorem dX8_faultAt_34 : decode cX8_faultAt 34 = .ok (.goto (-25), 3) := by decide +kernel
theorem dX8_faultAt_37 : decode cX8_faultAt 37 = .ok (.bipush (-4), 2) := by decide +kernel
theorem dX8_faultAt_39 : decode cX8_faultAt 39 = .ok (.ireturn, 1) := by decide +kernel
set_option maxRecDepth 20000 in
theorem ggX8_write_X8_within : GoodIn wsX8_write wsX8_within := goodIn_r _ [6] (by decide +kernel) (by decide +kernel)
set_option maxRecDepth 20000 in
theorem gX8_write_X8_within : GoodIn wsX8_write (va_wsS RX8 68 yX8_within wsX8_within) := goodIn_app (goodIn_of _ (by decide +kernel)) ggX8_write_X8_within
theorem dX8_write_0 : decode cX8_write 0 = .ok (.iload_n 1, 1) := by decide +kernel
theorem dX8_write_1 : decode cX8_write 1 = .ok (.bipush 32, 2) := by decide +kernel
theorem dX8_write_3 : decode cX8_write 3 = .ok (.bipush 126, 2) := by decide +kernel
theorem dX8_write_5 : decode cX8_write 5 = .ok (.invokestatic 68, 3) := by decide +kernel
theorem dX8_write_8 : decode cX8_write 8 = .ok (.ifCond .ne 5, 3) := by decide +kernel
theorem dX8_write_11 : decode cX8_write 11 = .ok (.iconst (-1), 1) := by decide +kernel
theorem dX8_write_12 : decode cX8_write 12 = .ok (.ireturn, 1) := by decide +kernel
theorem dX8_write_13 : decode cX8_write 13 = .ok (.aload_n 0, 1) := by decide +kernel
theorem dX8_write_14 : decode cX8_write 14 = .ok (.getfield 61, 3) := by decide +kernel
theorem dX8_write_17 : decode cX8_write 17 = .ok (.sipush 200, 3) := by decide +kernel
theorem dX8_write_20 : decode cX8_write 20 = .ok (.if_icmp .ne 6, 3) := by decide +kernel
theorem dX8_write_23 : decode cX8_write 23 = .ok (.bipush (-3), 2) := by decide +kernel
theorem dX8_write_25 : decode cX8_write 25 = .ok (.ireturn, 1) := by decide +kernel
theorem dX8_write_26 : decode cX8_write 26 = .ok (.aload_n 0, 1) := by decide +kernel
theorem dX8_write_27 : decode cX8_write 27 = .ok (.getfield 22, 3) := by decide +kernel
theorem dX8_write_30 : decode cX8_write 30 = .ok (.aload_n 0, 1) := by decide +kernel
theorem dX8_write_31 : decode cX8_write 31 = .ok (.getfield 61, 3) := by decide +kernel
theorem dX8_write_34 : decode cX8_write 34 = .ok (.iload_n 1, 1) := by decide +kernel
theorem dX8_write_35 : decode cX8_write 35 = .ok (.iastore, 1) := by decide +kernel
theorem dX8_write_36 : decode cX8_write 36 = .ok (.aload_n 0, 1) := by decide +kernel
theorem dX8_write_37 : decode cX8_write 37 = .ok (.dup, 1) := by decide +kernel
theorem dX8_write_38 : decode cX8_write 38 = .ok (.getfield 61, 3) := by decide +kernel
theorem dX8_write_41 : decode cX8_write 41 = .ok (.iconst 1, 1) := by decide +kernel
theorem dX8_write_42 : decode cX8_write 42 = .ok (.iadd, 1) := by decide +kernel
theorem dX8_write_43 : decode cX8_write 43 = .ok (.putfield 61, 3) := by decide +kernel
theorem dX8_write_46 : decode cX8_write 46 = .ok (.aload_n 0, 1) := by decide +kernel
theorem dX8_write_47 : decode cX8_write 47 = .ok (.getfield 61, 3) := by decide +kernel
theorem dX8_write_50 : decode cX8_write 50 = .ok (.ireturn, 1) := by decide +kernel
theorem dX8_wipe_0 : decode cX8_wipe 0 = .ok (.aload_n 0, 1) := by decide +kernel
theorem dX8_wipe_1 : decode cX8_wipe 1 = .ok (.getfield 61, 3) := by decide +kernel
theorem dX8_wipe_4 : decode cX8_wipe 4 = .ok (.istore_n 1, 1) := by decide +kernel
theorem dX8_wipe_5 : decode cX8_wipe 5 = .ok (.aload_n 0, 1) := by decide +kernel
theorem dX8_wipe_6 : decode cX8_wipe 6 = .ok (.iconst 0, 1) := by decide +kernel
theorem dX8_wipe_7 : decode cX8_wipe 7 = .ok (.putfield 61, 3) := by decide +kernel
theorem dX8_wipe_10 : decode cX8_wipe 10 = .ok (.iload_n 1, 1) := by decide +kernel
theorem dX8_wipe_11 : decode cX8_wipe 11 = .ok (.ireturn, 1) := by decide +kernel
set_option maxRecDepth 20000 in
theorem ggX8_fault_X8_faultAt : GoodIn wsX8_fault wsX8_faultAt := goodIn_r _ [5, 6, 7, 8, 9, 10, 4, 11, 12, 13, 14, 15, 16, 17, 18, 19, 20, 21, 22, 23, 24, 25, 26, 27, 28, 29, 30, 31, 32, 33, 34, 35, 36, 37, 38, 39, 40, 41, 42, 43, 44, 45, 46, 47, 48, 49, 50, 51, 52, 53, 54] (by decide +kernel) (by decide +kernel)
set_option maxRecDepth 20000 in
theorem gX8_fault_X8_faultAt : GoodIn wsX8_fault (wsV RX8 79 RX8 yX8_faultAt wsX8_faultAt) := goodIn_app (goodIn_of _ (by decide +kernel)) ggX8_fault_X8_faultAt
theorem dX8_fault_0 : decode cX8_fault 0 = .ok (.aload_n 0, 1) := by decide +kernel
theorem dX8_fault_1 : decode cX8_fault 1 = .ok (.invokevirtual 79, 3) := by decide +kernel
theorem dX8_fault_4 : decode cX8_fault 4 = .ok (.ireturn, 1) := by decide +kernel
theorem dX8_place_0 : decode cX8_place 0 = .ok (.bipush 42, 2) := by decide +kernel
theorem dX8_place_2 : decode cX8_place 2 = .ok (.bipush 16, 2) := by decide +kernel
theorem dX8_place_4 : decode cX8_place 4 = .ok (.bipush 6, 2) := by decide +kernel
theorem dX8_place_6 : decode cX8_place 6 = .ok (.iload_n 0, 1) := by decide +kernel
theorem dX8_place_7 : decode cX8_place 7 = .ok (.imul, 1) := by decide +kernel
theorem dX8_place_8 : decode cX8_place 8 = .ok (.iload_n 1, 1) := by decide +kernel
theorem dX8_place_9 : decode cX8_place 9 = .ok (.iadd, 1) := by decide +kernel
theorem dX8_place_10 : decode cX8_place 10 = .ok (.imul, 1) := by decide +kernel
theorem dX8_place_11 : decode cX8_place 11 = .ok (.iadd, 1) := by decide +kernel
theorem dX8_place_12 : decode cX8_place 12 = .ok (.ireturn, 1) := by decide +kernel
set_option maxRecDepth 20000 in
theorem ggX8_lays_X8_place : GoodIn wsX8_lays wsX8_place := goodIn_r _ [14] (by decide +kernel) (by decide +kernel)
set_option maxRecDepth 20000 in
theorem gX8_lays_X8_place : GoodIn wsX8_lays (va_wsS RX8 92 yX8_place wsX8_place) := goodIn_app (goodIn_of _ (by decide +kernel)) ggX8_lays_X8_place
theorem dX8_lays_0 : decode cX8_lays 0 = .ok (.aload_n 0, 1) := by decide +kernel
theorem dX8_lays_1 : decode cX8_lays 1 = .ok (.aload_n 0, 1) := by decide +kernel
theorem dX8_lays_2 : decode cX8_lays 2 = .ok (.getfield 54, 3) := by decide +kernel
theorem dX8_lays_5 : decode cX8_lays 5 = .ok (.putfield 83, 3) := by decide +kernel
theorem dX8_lays_8 : decode cX8_lays 8 = .ok (.aload_n 0, 1) := by decide +kernel
theorem dX8_lays_9 : decode cX8_lays 9 = .ok (.aload_n 0, 1) := by decide +kernel
theorem dX8_lays_10 : decode cX8_lays 10 = .ok (.getfield 31, 3) := by decide +kernel
theorem dX8_lays_13 : decode cX8_lays 13 = .ok (.iconst 1, 1) := by decide +kernel
theorem dX8_lays_14 : decode cX8_lays 14 = .ok (.iaload, 1) := by decide +kernel
theorem dX8_lays_15 : decode cX8_lays 15 = .ok (.putfield 86, 3) := by decide +kernel
theorem dX8_lays_18 : decode cX8_lays 18 = .ok (.aload_n 0, 1) := by decide +kernel
theorem dX8_lays_19 : decode cX8_lays 19 = .ok (.aload_n 0, 1) := by decide +kernel
theorem dX8_lays_20 : decode cX8_lays 20 = .ok (.getfield 31, 3) := by decide +kernel
theorem dX8_lays_23 : decode cX8_lays 23 = .ok (.iconst 2, 1) := by decide +kernel
theorem dX8_lays_24 : decode cX8_lays 24 = .ok (.iaload, 1) := by decide +kernel
theorem dX8_lays_25 : decode cX8_lays 25 = .ok (.putfield 89, 3) := by decide +kernel
theorem dX8_lays_28 : decode cX8_lays 28 = .ok (.iconst 0, 1) := by decide +kernel
theorem dX8_lays_29 : decode cX8_lays 29 = .ok (.istore_n 1, 1) := by decide +kernel
theorem dX8_lays_30 : decode cX8_lays 30 = .ok (.iload_n 1, 1) := by decide +kernel
theorem dX8_lays_31 : decode cX8_lays 31 = .ok (.sipush 235, 3) := by decide +kernel
theorem dX8_lays_34 : decode cX8_lays 34 = .ok (.if_icmp .ge 16, 3) := by decide +kernel
theorem dX8_lays_37 : decode cX8_lays 37 = .ok (.aload_n 0, 1) := by decide +kernel
theorem dX8_lays_38 : decode cX8_lays 38 = .ok (.getfield 7, 3) := by decide +kernel
theorem dX8_lays_41 : decode cX8_lays 41 = .ok (.iload_n 1, 1) := by decide +kernel
theorem dX8_lays_42 : decode cX8_lays 42 = .ok (.iconst 0, 1) := by decide +kernel
theorem dX8_lays_43 : decode cX8_lays 43 = .ok (.iastore, 1) := by decide +kernel
theorem dX8_lays_44 : decode cX8_lays 44 = .ok (.iinc 1 1, 3) := by decide +kernel
theorem dX8_lays_47 : decode cX8_lays 47 = .ok (.goto (-17), 3) := by decide +kernel
theorem dX8_lays_50 : decode cX8_lays 50 = .ok (.aload_n 0, 1) := by decide +kernel
theorem dX8_lays_51 : decode cX8_lays 51 = .ok (.getfield 7, 3) := by decide +kernel
theorem dX8_lays_54 : decode cX8_lays 54 = .ok (.iconst 0, 1) := by decide +kernel
theorem dX8_lays_55 : decode cX8_lays 55 = .ok (.aload_n 0, 1) := by decide +kernel
theorem dX8_lays_56 : decode cX8_lays 56 = .ok (.getfield 28, 3) := by decide +kernel
theorem dX8_lays_59 : decode cX8_lays 59 = .ok (.iconst 0, 1) := by decide +kernel
theorem dX8_lays_60 : decode cX8_lays 60 = .ok (.iaload, 1) := by decide +kernel
theorem dX8_lays_61 : decode cX8_lays 61 = .ok (.iastore, 1) := by decide +kernel
theorem dX8_lays_62 : decode cX8_lays 62 = .ok (.aload_n 0, 1) := by decide +kernel
theorem dX8_lays_63 : decode cX8_lays 63 = .ok (.getfield 7, 3) := by decide +kernel
theorem dX8_lays_66 : decode cX8_lays 66 = .ok (.iconst 1, 1) := by decide +kernel
theorem dX8_lays_67 : decode cX8_lays 67 = .ok (.aload_n 0, 1) := by decide +kernel
theorem dX8_lays_68 : decode cX8_lays 68 = .ok (.getfield 28, 3) := by decide +kernel
theorem dX8_lays_71 : decode cX8_lays 71 = .ok (.iconst 1, 1) := by decide +kernel
theorem dX8_lays_72 : decode cX8_lays 72 = .ok (.iaload, 1) := by decide +kernel
theorem dX8_lays_73 : decode cX8_lays 73 = .ok (.iastore, 1) := by decide +kernel
theorem dX8_lays_74 : decode cX8_lays 74 = .ok (.aload_n 0, 1) := by decide +kernel
theorem dX8_lays_75 : decode cX8_lays 75 = .ok (.getfield 7, 3) := by decide +kernel
theorem dX8_lays_78 : decode cX8_lays 78 = .ok (.iconst 2, 1) := by decide +kernel
theorem dX8_lays_79 : decode cX8_lays 79 = .ok (.aload_n 0, 1) := by decide +kernel
theorem dX8_lays_80 : decode cX8_lays 80 = .ok (.getfield 31, 3) := by decide +kernel
theorem dX8_lays_83 : decode cX8_lays 83 = .ok (.iconst 0, 1) := by decide +kernel
theorem dX8_lays_84 : decode cX8_lays 84 = .ok (.iaload, 1) := by decide +kernel
theorem dX8_lays_85 : decode cX8_lays 85 = .ok (.iastore, 1) := by decide +kernel
theorem dX8_lays_86 : decode cX8_lays 86 = .ok (.iconst 0, 1) := by decide +kernel
theorem dX8_lays_87 : decode cX8_lays 87 = .ok (.istore_n 1, 1) := by decide +kernel
theorem dX8_lays_88 : decode cX8_lays 88 = .ok (.iload_n 1, 1) := by decide +kernel
theorem dX8_lays_89 : decode cX8_lays 89 = .ok (.bipush 16, 2) := by decide +kernel
theorem dX8_lays_91 : decode cX8_lays 91 = .ok (.if_icmp .ge 22, 3) := by decide +kernel
theorem dX8_lays_94 : decode cX8_lays 94 = .ok (.aload_n 0, 1) := by decide +kernel
theorem dX8_lays_95 : decode cX8_lays 95 = .ok (.getfield 7, 3) := by decide +kernel
theorem dX8_lays_98 : decode cX8_lays 98 = .ok (.bipush 10, 2) := by decide +kernel
theorem dX8_lays_100 : decode cX8_lays 100 = .ok (.iconst 2, 1) := by decide +kernel
theorem dX8_lays_101 : decode cX8_lays 101 = .ok (.iload_n 1, 1) := by decide +kernel
theorem dX8_lays_102 : decode cX8_lays 102 = .ok (.imul, 1) := by decide +kernel
theorem dX8_lays_103 : decode cX8_lays 103 = .ok (.iadd, 1) := by decide +kernel
theorem dX8_lays_104 : decode cX8_lays 104 = .ok (.bipush (-4), 2) := by decide +kernel
theorem dX8_lays_106 : decode cX8_lays 106 = .ok (.iastore, 1) := by decide +kernel
theorem dX8_lays_107 : decode cX8_lays 107 = .ok (.iinc 1 1, 3) := by decide +kernel
theorem dX8_lays_110 : decode cX8_lays 110 = .ok (.goto (-22), 3) := by decide +kernel
theorem dX8_lays_113 : decode cX8_lays 113 = .ok (.iconst 0, 1) := by decide +kernel
theorem dX8_lays_114 : decode cX8_lays 114 = .ok (.istore_n 1, 1) := by decide +kernel
theorem dX8_lays_115 : decode cX8_lays 115 = .ok (.iload_n 1, 1) := by decide +kernel
theorem dX8_lays_116 : decode cX8_lays 116 = .ok (.bipush 6, 2) := by decide +kernel
theorem dX8_lays_118 : decode cX8_lays 118 = .ok (.if_icmp .ge 147, 3) := by decide +kernel
theorem dX8_lays_121 : decode cX8_lays 121 = .ok (.aload_n 0, 1) := by decide +kernel
theorem dX8_lays_122 : decode cX8_lays 122 = .ok (.getfield 7, 3) := by decide +kernel
theorem dX8_lays_125 : decode cX8_lays 125 = .ok (.iconst 4, 1) := by decide +kernel
theorem dX8_lays_126 : decode cX8_lays 126 = .ok (.iload_n 1, 1) := by decide +kernel
theorem dX8_lays_127 : decode cX8_lays 127 = .ok (.iadd, 1) := by decide +kernel
theorem dX8_lays_128 : decode cX8_lays 128 = .ok (.iconst 1, 1) := by decide +kernel
theorem dX8_lays_129 : decode cX8_lays 129 = .ok (.iastore, 1) := by decide +kernel
theorem dX8_lays_130 : decode cX8_lays 130 = .ok (.iconst 0, 1) := by decide +kernel
theorem dX8_lays_131 : decode cX8_lays 131 = .ok (.istore_n 2, 1) := by decide +kernel
theorem dX8_lays_132 : decode cX8_lays 132 = .ok (.iload_n 2, 1) := by decide +kernel
theorem dX8_lays_133 : decode cX8_lays 133 = .ok (.iconst 2, 1) := by decide +kernel
theorem dX8_lays_134 : decode cX8_lays 134 = .ok (.if_icmp .ge 125, 3) := by decide +kernel
theorem dX8_lays_137 : decode cX8_lays 137 = .ok (.iload_n 2, 1) := by decide +kernel
theorem dX8_lays_138 : decode cX8_lays 138 = .ok (.iload_n 1, 1) := by decide +kernel
theorem dX8_lays_139 : decode cX8_lays 139 = .ok (.invokestatic 92, 3) := by decide +kernel
theorem dX8_lays_142 : decode cX8_lays 142 = .ok (.istore_n 3, 1) := by decide +kernel
theorem dX8_lays_143 : decode cX8_lays 143 = .ok (.aload_n 0, 1) := by decide +kernel
theorem dX8_lays_144 : decode cX8_lays 144 = .ok (.getfield 7, 3) := by decide +kernel
theorem dX8_lays_147 : decode cX8_lays 147 = .ok (.iload_n 3, 1) := by decide +kernel
theorem dX8_lays_148 : decode cX8_lays 148 = .ok (.iconst 0, 1) := by decide +kernel
theorem dX8_lays_149 : decode cX8_lays 149 = .ok (.iadd, 1) := by decide +kernel
theorem dX8_lays_150 : decode cX8_lays 150 = .ok (.iload_n 1, 1) := by decide +kernel
theorem dX8_lays_151 : decode cX8_lays 151 = .ok (.aload_n 0, 1) := by decide +kernel
theorem dX8_lays_152 : decode cX8_lays 152 = .ok (.getfield 83, 3) := by decide +kernel
theorem dX8_lays_155 : decode cX8_lays 155 = .ok (.if_icmp .ge 18, 3) := by decide +kernel
theorem dX8_lays_158 : decode cX8_lays 158 = .ok (.aload_n 0, 1) := by decide +kernel
theorem dX8_lays_159 : decode cX8_lays 159 = .ok (.getfield 25, 3) := by decide +kernel
theorem dX8_lays_162 : decode cX8_lays 162 = .ok (.iconst 4, 1) := by decide +kernel
theorem dX8_lays_163 : decode cX8_lays 163 = .ok (.iload_n 1, 1) := by decide +kernel
theorem dX8_lays_164 : decode cX8_lays 164 = .ok (.imul, 1) := by decide +kernel
theorem dX8_lays_165 : decode cX8_lays 165 = .ok (.iconst 2, 1) := by decide +kernel
theorem dX8_lays_166 : decode cX8_lays 166 = .ok (.iload_n 2, 1) := by decide +kernel
theorem dX8_lays_167 : decode cX8_lays 167 = .ok (.imul, 1) := by decide +kernel
theorem dX8_lays_168 : decode cX8_lays 168 = .ok (.iadd, 1) := by decide +kernel
theorem dX8_lays_169 : decode cX8_lays 169 = .ok (.iaload, 1) := by decide +kernel
theorem dX8_lays_170 : decode cX8_lays 170 = .ok (.goto 4, 3) := by decide +kernel
theorem dX8_lays_173 : decode cX8_lays 173 = .ok (.iconst 0, 1) := by decide +kernel
theorem dX8_lays_174 : decode cX8_lays 174 = .ok (.iastore, 1) := by decide +kernel
theorem dX8_lays_175 : decode cX8_lays 175 = .ok (.aload_n 0, 1) := by decide +kernel
theorem dX8_lays_176 : decode cX8_lays 176 = .ok (.getfield 7, 3) := by decide +kernel
theorem dX8_lays_179 : decode cX8_lays 179 = .ok (.iload_n 3, 1) := by decide +kernel
theorem dX8_lays_180 : decode cX8_lays 180 = .ok (.iconst 1, 1) := by decide +kernel
theorem dX8_lays_181 : decode cX8_lays 181 = .ok (.iadd, 1) := by decide +kernel
theorem dX8_lays_182 : decode cX8_lays 182 = .ok (.iload_n 1, 1) := by decide +kernel
theorem dX8_lays_183 : decode cX8_lays 183 = .ok (.aload_n 0, 1) := by decide +kernel
theorem dX8_lays_184 : decode cX8_lays 184 = .ok (.getfield 83, 3) := by decide +kernel
theorem dX8_lays_187 : decode cX8_lays 187 = .ok (.if_icmp .ge 20, 3) := by decide +kernel
theorem dX8_lays_190 : decode cX8_lays 190 = .ok (.aload_n 0, 1) := by decide +kernel
theorem dX8_lays_191 : decode cX8_lays 191 = .ok (.getfield 25, 3) := by decide +kernel
theorem dX8_lays_194 : decode cX8_lays 194 = .ok (.iconst 4, 1) := by decide +kernel
theorem dX8_lays_195 : decode cX8_lays 195 = .ok (.iload_n 1, 1) := by decide +kernel
theorem dX8_lays_196 : decode cX8_lays 196 = .ok (.imul, 1) := by decide +kernel
theorem dX8_lays_197 : decode cX8_lays 197 = .ok (.iconst 2, 1) := by decide +kernel
theorem dX8_lays_198 : decode cX8_lays 198 = .ok (.iload_n 2, 1) := by decide +kernel
theorem dX8_lays_199 : decode cX8_lays 199 = .ok (.imul, 1) := by decide +kernel
theorem dX8_lays_200 : decode cX8_lays 200 = .ok (.iadd, 1) := by decide +kernel
theorem dX8_lays_201 : decode cX8_lays 201 = .ok (.iconst 1, 1) := by decide +kernel
theorem dX8_lays_202 : decode cX8_lays 202 = .ok (.iadd, 1) := by decide +kernel
theorem dX8_lays_203 : decode cX8_lays 203 = .ok (.iaload, 1) := by decide +kernel
theorem dX8_lays_204 : decode cX8_lays 204 = .ok (.goto 4, 3) := by decide +kernel
theorem dX8_lays_207 : decode cX8_lays 207 = .ok (.iconst 0, 1) := by decide +kernel
theorem dX8_lays_208 : decode cX8_lays 208 = .ok (.iastore, 1) := by decide +kernel
theorem dX8_lays_209 : decode cX8_lays 209 = .ok (.aload_n 0, 1) := by decide +kernel
theorem dX8_lays_210 : decode cX8_lays 210 = .ok (.getfield 7, 3) := by decide +kernel
theorem dX8_lays_213 : decode cX8_lays 213 = .ok (.iload_n 3, 1) := by decide +kernel
theorem dX8_lays_214 : decode cX8_lays 214 = .ok (.bipush 8, 2) := by decide +kernel
theorem dX8_lays_216 : decode cX8_lays 216 = .ok (.iadd, 1) := by decide +kernel
theorem dX8_lays_217 : decode cX8_lays 217 = .ok (.bipush (-4), 2) := by decide +kernel
theorem dX8_lays_219 : decode cX8_lays 219 = .ok (.iastore, 1) := by decide +kernel
theorem dX8_lays_220 : decode cX8_lays 220 = .ok (.aload_n 0, 1) := by decide +kernel
theorem dX8_lays_221 : decode cX8_lays 221 = .ok (.getfield 7, 3) := by decide +kernel
theorem dX8_lays_224 : decode cX8_lays 224 = .ok (.iload_n 3, 1) := by decide +kernel
theorem dX8_lays_225 : decode cX8_lays 225 = .ok (.bipush 13, 2) := by decide +kernel
theorem dX8_lays_227 : decode cX8_lays 227 = .ok (.iadd, 1) := by decide +kernel
theorem dX8_lays_228 : decode cX8_lays 228 = .ok (.bipush (-4), 2) := by decide +kernel
theorem dX8_lays_230 : decode cX8_lays 230 = .ok (.iastore, 1) := by decide +kernel
theorem dX8_lays_231 : decode cX8_lays 231 = .ok (.aload_n 0, 1) := by decide +kernel
theorem dX8_lays_232 : decode cX8_lays 232 = .ok (.getfield 7, 3) := by decide +kernel
theorem dX8_lays_235 : decode cX8_lays 235 = .ok (.iload_n 3, 1) := by decide +kernel
theorem dX8_lays_236 : decode cX8_lays 236 = .ok (.bipush 14, 2) := by decide +kernel
theorem dX8_lays_238 : decode cX8_lays 238 = .ok (.iadd, 1) := by decide +kernel
theorem dX8_lays_239 : decode cX8_lays 239 = .ok (.iconst 1, 1) := by decide +kernel
theorem dX8_lays_240 : decode cX8_lays 240 = .ok (.iastore, 1) := by decide +kernel
theorem dX8_lays_241 : decode cX8_lays 241 = .ok (.aload_n 0, 1) := by decide +kernel
theorem dX8_lays_242 : decode cX8_lays 242 = .ok (.getfield 19, 3) := by decide +kernel
theorem dX8_lays_245 : decode cX8_lays 245 = .ok (.bipush 6, 2) := by decide +kernel
theorem dX8_lays_247 : decode cX8_lays 247 = .ok (.iload_n 2, 1) := by decide +kernel
theorem dX8_lays_248 : decode cX8_lays 248 = .ok (.imul, 1) := by decide +kernel
theorem dX8_lays_249 : decode cX8_lays 249 = .ok (.iload_n 1, 1) := by decide +kernel
theorem dX8_lays_250 : decode cX8_lays 250 = .ok (.iadd, 1) := by decide +kernel
theorem dX8_lays_251 : decode cX8_lays 251 = .ok (.iconst 0, 1) := by decide +kernel
theorem dX8_lays_252 : decode cX8_lays 252 = .ok (.iastore, 1) := by decide +kernel
theorem dX8_lays_253 : decode cX8_lays 253 = .ok (.iinc 2 1, 3) := by decide +kernel
theorem dX8_lays_256 : decode cX8_lays 256 = .ok (.goto (-124), 3) := by decide +kernel
theorem dX8_lays_259 : decode cX8_lays 259 = .ok (.iinc 1 1, 3) := by decide +kernel
theorem dX8_lays_262 : decode cX8_lays 262 = .ok (.goto (-147), 3) := by decide +kernel
theorem dX8_lays_265 : decode cX8_lays 265 = .ok (.aload_n 0, 1) := by decide +kernel
theorem dX8_lays_266 : decode cX8_lays 266 = .ok (.iconst 0, 1) := by decide +kernel
theorem dX8_lays_267 : decode cX8_lays 267 = .ok (.putfield 96, 3) := by decide +kernel
theorem dX8_lays_270 : decode cX8_lays 270 = .ok (.return_, 1) := by decide +kernel
set_option maxRecDepth 20000 in
theorem ggX8_lay_X8_faultAt : GoodIn wsX8_lay wsX8_faultAt := goodIn_r _ [7, 8, 9, 10, 11, 12, 6, 13, 1, 14, 15, 16, 17, 18, 19, 20, 21, 22, 23, 24, 25, 26, 27, 28, 29, 30, 31, 32, 33, 34, 35, 36, 37, 50, 51, 52, 53, 54, 55, 56, 57, 58, 59, 60, 61, 62, 63, 64, 65, 66, 67] (by decide +kernel) (by decide +kernel)
set_option maxRecDepth 20000 in
theorem gX8_lay_X8_faultAt : GoodIn wsX8_lay (wsV RX8 79 RX8 yX8_faultAt wsX8_faultAt) := goodIn_app (goodIn_of _ (by decide +kernel)) ggX8_lay_X8_faultAt
set_option maxRecDepth 20000 in
theorem ggX8_lay_X8_lays : GoodIn wsX8_lay wsX8_lays := goodIn_r _ [41, 1, 2, 15, 42, 43, 44, 14, 37, 45, 46, 47, 48, 6, 49, 50, 51, 52, 53, 54, 55, 56, 57, 58, 59, 60, 61, 62, 63, 64, 65, 66, 67] (by decide +kernel) (by decide +kernel)
set_option maxRecDepth 20000 in
theorem gX8_lay_X8_lays : GoodIn wsX8_lay (wsV RX8 51 RX8 yX8_lays wsX8_lays) := goodIn_app (goodIn_of _ (by decide +kernel)) ggX8_lay_X8_lays
theorem dX8_lay_0 : decode cX8_lay 0 = .ok (.aload_n 0, 1) := by decide +kernel
theorem dX8_lay_1 : decode cX8_lay 1 = .ok (.invokevirtual 79, 3) := by decide +kernel
theorem dX8_lay_4 : decode cX8_lay 4 = .ok (.bipush (-4), 2) := by decide +kernel
theorem dX8_lay_6 : decode cX8_lay 6 = .ok (.if_icmp .ne 10, 3) := by decide +kernel
theorem dX8_lay_9 : decode cX8_lay 9 = .ok (.aload_n 0, 1) := by decide +kernel
theorem dX8_lay_10 : decode cX8_lay 10 = .ok (.getfield 54, 3) := by decide +kernel
theorem dX8_lay_13 : decode cX8_lay 13 = .ok (.ifCond .ne 6, 3) := by decide +kernel
theorem dX8_lay_16 : decode cX8_lay 16 = .ok (.bipush (-2), 2) := by decide +kernel
theorem dX8_lay_18 : decode cX8_lay 18 = .ok (.ireturn, 1) := by decide +kernel
theorem dX8_lay_19 : decode cX8_lay 19 = .ok (.aload_n 0, 1) := by decide +kernel
theorem dX8_lay_20 : decode cX8_lay 20 = .ok (.invokevirtual 51, 3) := by decide +kernel
theorem dX8_lay_23 : decode cX8_lay 23 = .ok (.aload_n 0, 1) := by decide +kernel
theorem dX8_lay_24 : decode cX8_lay 24 = .ok (.getfield 83, 3) := by decide +kernel
theorem dX8_lay_27 : decode cX8_lay 27 = .ok (.ireturn, 1) := by decide +kernel
theorem dX8_isEnd_0 : decode cX8_isEnd 0 = .ok (.iload_n 0, 1) := by decide +kernel
theorem dX8_isEnd_1 : decode cX8_isEnd 1 = .ok (.ifCond .eq 8, 3) := by decide +kernel
theorem dX8_isEnd_4 : decode cX8_isEnd 4 = .ok (.iload_n 0, 1) := by decide +kernel
theorem dX8_isEnd_5 : decode cX8_isEnd 5 = .ok (.iconst 1, 1) := by decide +kernel
theorem dX8_isEnd_6 : decode cX8_isEnd 6 = .ok (.if_icmp .ne 7, 3) := by decide +kernel
theorem dX8_isEnd_9 : decode cX8_isEnd 9 = .ok (.iconst 1, 1) := by decide +kernel
theorem dX8_isEnd_10 : decode cX8_isEnd 10 = .ok (.goto 4, 3) := by decide +kernel
theorem dX8_isEnd_13 : decode cX8_isEnd 13 = .ok (.iconst 0, 1) := by decide +kernel
theorem dX8_isEnd_14 : decode cX8_isEnd 14 = .ok (.ireturn, 1) := by decide +kernel
set_option maxRecDepth 20000 in
theorem ggX8_isLink_X8_within : GoodIn wsX8_isLink wsX8_within := goodIn_r _ [5] (by decide +kernel) (by decide +kernel)
set_option maxRecDepth 20000 in
theorem gX8_isLink_X8_within : GoodIn wsX8_isLink (va_wsS RX8 68 yX8_within wsX8_within) := goodIn_app (goodIn_of _ (by decide +kernel)) ggX8_isLink_X8_within
theorem dX8_isLink_0 : decode cX8_isLink 0 = .ok (.iload_n 1, 1) := by decide +kernel
theorem dX8_isLink_1 : decode cX8_isLink 1 = .ok (.iconst 0, 1) := by decide +kernel
theorem dX8_isLink_2 : decode cX8_isLink 2 = .ok (.aload_n 0, 1) := by decide +kernel
theorem dX8_isLink_3 : decode cX8_isLink 3 = .ok (.getfield 83, 3) := by decide +kernel
theorem dX8_isLink_6 : decode cX8_isLink 6 = .ok (.iconst 1, 1) := by decide +kernel
theorem dX8_isLink_7 : decode cX8_isLink 7 = .ok (.isub, 1) := by decide +kernel
theorem dX8_isLink_8 : decode cX8_isLink 8 = .ok (.invokestatic 68, 3) := by decide +kernel
theorem dX8_isLink_11 : decode cX8_isLink 11 = .ok (.ireturn, 1) := by decide +kernel
theorem dX8_keeps_0 : decode cX8_keeps 0 = .ok (.aload_n 0, 1) := by decide +kernel
theorem dX8_keeps_1 : decode cX8_keeps 1 = .ok (.getfield 96, 3) := by decide +kernel
theorem dX8_keeps_4 : decode cX8_keeps 4 = .ok (.bipush 6, 2) := by decide +kernel
theorem dX8_keeps_6 : decode cX8_keeps 6 = .ok (.if_icmp .ne 44, 3) := by decide +kernel
theorem dX8_keeps_9 : decode cX8_keeps 9 = .ok (.iconst 0, 1) := by decide +kernel
theorem dX8_keeps_10 : decode cX8_keeps 10 = .ok (.istore_n 1, 1) := by decide +kernel
theorem dX8_keeps_11 : decode cX8_keeps 11 = .ok (.iload_n 1, 1) := by decide +kernel
theorem dX8_keeps_12 : decode cX8_keeps 12 = .ok (.sipush 1175, 3) := by decide +kernel
theorem dX8_keeps_15 : decode cX8_keeps 15 = .ok (.if_icmp .ge 25, 3) := by decide +kernel
theorem dX8_keeps_18 : decode cX8_keeps 18 = .ok (.aload_n 0, 1) := by decide +kernel
theorem dX8_keeps_19 : decode cX8_keeps 19 = .ok (.getfield 16, 3) := by decide +kernel
theorem dX8_keeps_22 : decode cX8_keeps 22 = .ok (.iload_n 1, 1) := by decide +kernel
theorem dX8_keeps_23 : decode cX8_keeps 23 = .ok (.aload_n 0, 1) := by decide +kernel
theorem dX8_keeps_24 : decode cX8_keeps 24 = .ok (.getfield 16, 3) := by decide +kernel
theorem dX8_keeps_27 : decode cX8_keeps 27 = .ok (.iload_n 1, 1) := by decide +kernel
theorem dX8_keeps_28 : decode cX8_keeps 28 = .ok (.sipush 235, 3) := by decide +kernel
theorem dX8_keeps_31 : decode cX8_keeps 31 = .ok (.iadd, 1) := by decide +kernel
theorem dX8_keeps_32 : decode cX8_keeps 32 = .ok (.iaload, 1) := by decide +kernel
theorem dX8_keeps_33 : decode cX8_keeps 33 = .ok (.iastore, 1) := by decide +kernel
theorem dX8_keeps_34 : decode cX8_keeps 34 = .ok (.iinc 1 1, 3) := by decide +kernel
theorem dX8_keeps_37 : decode cX8_keeps 37 = .ok (.goto (-26), 3) := by decide +kernel
theorem dX8_keeps_40 : decode cX8_keeps 40 = .ok (.aload_n 0, 1) := by decide +kernel
theorem dX8_keeps_41 : decode cX8_keeps 41 = .ok (.dup, 1) := by decide +kernel
theorem dX8_keeps_42 : decode cX8_keeps 42 = .ok (.getfield 96, 3) := by decide +kernel
theorem dX8_keeps_45 : decode cX8_keeps 45 = .ok (.iconst 1, 1) := by decide +kernel
theorem dX8_keeps_46 : decode cX8_keeps 46 = .ok (.isub, 1) := by decide +kernel
theorem dX8_keeps_47 : decode cX8_keeps 47 = .ok (.putfield 96, 3) := by decide +kernel
theorem dX8_keeps_50 : decode cX8_keeps 50 = .ok (.iconst 0, 1) := by decide +kernel
theorem dX8_keeps_51 : decode cX8_keeps 51 = .ok (.istore_n 1, 1) := by decide +kernel
theorem dX8_keeps_52 : decode cX8_keeps 52 = .ok (.iload_n 1, 1) := by decide +kernel
theorem dX8_keeps_53 : decode cX8_keeps 53 = .ok (.sipush 235, 3) := by decide +kernel
theorem dX8_keeps_56 : decode cX8_keeps 56 = .ok (.if_icmp .ge 30, 3) := by decide +kernel
theorem dX8_keeps_59 : decode cX8_keeps 59 = .ok (.aload_n 0, 1) := by decide +kernel
theorem dX8_keeps_60 : decode cX8_keeps 60 = .ok (.getfield 16, 3) := by decide +kernel
theorem dX8_keeps_63 : decode cX8_keeps 63 = .ok (.sipush 235, 3) := by decide +kernel
theorem dX8_keeps_66 : decode cX8_keeps 66 = .ok (.aload_n 0, 1) := by decide +kernel
theorem dX8_keeps_67 : decode cX8_keeps 67 = .ok (.getfield 96, 3) := by decide +kernel
theorem dX8_keeps_70 : decode cX8_keeps 70 = .ok (.imul, 1) := by decide +kernel
theorem dX8_keeps_71 : decode cX8_keeps 71 = .ok (.iload_n 1, 1) := by decide +kernel
theorem dX8_keeps_72 : decode cX8_keeps 72 = .ok (.iadd, 1) := by decide +kernel
theorem dX8_keeps_73 : decode cX8_keeps 73 = .ok (.aload_n 0, 1) := by decide +kernel
theorem dX8_keeps_74 : decode cX8_keeps 74 = .ok (.getfield 7, 3) := by decide +kernel
theorem dX8_keeps_77 : decode cX8_keeps 77 = .ok (.iload_n 1, 1) := by decide +kernel
theorem dX8_keeps_78 : decode cX8_keeps 78 = .ok (.iaload, 1) := by decide +kernel
theorem dX8_keeps_79 : decode cX8_keeps 79 = .ok (.iastore, 1) := by decide +kernel
theorem dX8_keeps_80 : decode cX8_keeps 80 = .ok (.iinc 1 1, 3) := by decide +kernel
theorem dX8_keeps_83 : decode cX8_keeps 83 = .ok (.goto (-31), 3) := by decide +kernel
theorem dX8_keeps_86 : decode cX8_keeps 86 = .ok (.aload_n 0, 1) := by decide +kernel
theorem dX8_keeps_87 : decode cX8_keeps 87 = .ok (.dup, 1) := by decide +kernel
theorem dX8_keeps_88 : decode cX8_keeps 88 = .ok (.getfield 96, 3) := by decide +kernel
theorem dX8_keeps_91 : decode cX8_keeps 91 = .ok (.iconst 1, 1) := by decide +kernel
theorem dX8_keeps_92 : decode cX8_keeps 92 = .ok (.iadd, 1) := by decide +kernel
theorem dX8_keeps_93 : decode cX8_keeps 93 = .ok (.putfield 96, 3) := by decide +kernel
theorem dX8_keeps_96 : decode cX8_keeps 96 = .ok (.return_, 1) := by decide +kernel
theorem dX8_upMany_0 : decode cX8_upMany 0 = .ok (.iconst 0, 1) := by decide +kernel
theorem dX8_upMany_1 : decode cX8_upMany 1 = .ok (.istore_n 1, 1) := by decide +kernel
theorem dX8_upMany_2 : decode cX8_upMany 2 = .ok (.iconst 0, 1) := by decide +kernel
theorem dX8_upMany_3 : decode cX8_upMany 3 = .ok (.istore_n 2, 1) := by decide +kernel
theorem dX8_upMany_4 : decode cX8_upMany 4 = .ok (.iload_n 2, 1) := by decide +kernel
theorem dX8_upMany_5 : decode cX8_upMany 5 = .ok (.aload_n 0, 1) := by decide +kernel
theorem dX8_upMany_6 : decode cX8_upMany 6 = .ok (.getfield 83, 3) := by decide +kernel
theorem dX8_upMany_9 : decode cX8_upMany 9 = .ok (.if_icmp .ge 20, 3) := by decide +kernel
theorem dX8_upMany_12 : decode cX8_upMany 12 = .ok (.iload_n 1, 1) := by decide +kernel
theorem dX8_upMany_13 : decode cX8_upMany 13 = .ok (.aload_n 0, 1) := by decide +kernel
theorem dX8_upMany_14 : decode cX8_upMany 14 = .ok (.getfield 7, 3) := by decide +kernel
theorem dX8_upMany_17 : decode cX8_upMany 17 = .ok (.iconst 4, 1) := by decide +kernel
theorem dX8_upMany_18 : decode cX8_upMany 18 = .ok (.iload_n 2, 1) := by decide +kernel
theorem dX8_upMany_19 : decode cX8_upMany 19 = .ok (.iadd, 1) := by decide +kernel
theorem dX8_upMany_20 : decode cX8_upMany 20 = .ok (.iaload, 1) := by decide +kernel
theorem dX8_upMany_21 : decode cX8_upMany 21 = .ok (.iadd, 1) := by decide +kernel
theorem dX8_upMany_22 : decode cX8_upMany 22 = .ok (.istore_n 1, 1) := by decide +kernel
theorem dX8_upMany_23 : decode cX8_upMany 23 = .ok (.iinc 2 1, 3) := by decide +kernel
theorem dX8_upMany_26 : decode cX8_upMany 26 = .ok (.goto (-22), 3) := by decide +kernel
theorem dX8_upMany_29 : decode cX8_upMany 29 = .ok (.iload_n 1, 1) := by decide +kernel
theorem dX8_upMany_30 : decode cX8_upMany 30 = .ok (.ireturn, 1) := by decide +kernel
set_option maxRecDepth 20000 in
theorem ggX8_plug_X8_isLink : GoodIn wsX8_plug wsX8_isLink := goodIn_r _ [6, 7, 8, 9, 5, 10, 21, 22, 23, 24, 25, 26, 27, 28, 29, 30, 31, 32, 33, 34, 35, 36, 37, 38] (by decide +kernel) (by decide +kernel)
set_option maxRecDepth 20000 in
theorem gX8_plug_X8_isLink : GoodIn wsX8_plug (wsV RX8 99 RX8 yX8_isLink wsX8_isLink) := goodIn_app (goodIn_of _ (by decide +kernel)) ggX8_plug_X8_isLink
set_option maxRecDepth 20000 in
theorem ggX8_plug_X8_within : GoodIn wsX8_plug wsX8_within := goodIn_r _ [10] (by decide +kernel) (by decide +kernel)
set_option maxRecDepth 20000 in
theorem gX8_plug_X8_within : GoodIn wsX8_plug (va_wsS RX8 68 yX8_within wsX8_within) := goodIn_app (goodIn_of _ (by decide +kernel)) ggX8_plug_X8_within
set_option maxRecDepth 20000 in
theorem ggX8_plug_X8_keeps : GoodIn wsX8_plug wsX8_keeps := goodIn_r _ [14, 15, 16, 1, 21, 22, 23, 24, 25, 26, 27, 28, 29, 30, 31, 32, 33, 34, 35, 36, 37, 38] (by decide +kernel) (by decide +kernel)
set_option maxRecDepth 20000 in
theorem gX8_plug_X8_keeps : GoodIn wsX8_plug (wsV RX8 102 RX8 yX8_keeps wsX8_keeps) := goodIn_app (goodIn_of _ (by decide +kernel)) ggX8_plug_X8_keeps
set_option maxRecDepth 20000 in
theorem ggX8_plug_X8_upMany : GoodIn wsX8_plug wsX8_upMany := goodIn_r _ [20, 7, 1, 21, 22, 23, 24, 25, 26, 27, 28, 29, 30, 31, 32, 33, 34, 35, 36, 37, 38] (by decide +kernel) (by decide +kernel)
set_option maxRecDepth 20000 in
theorem gX8_plug_X8_upMany : GoodIn wsX8_plug (wsV RX8 105 RX8 yX8_upMany wsX8_upMany) := goodIn_app (goodIn_of _ (by decide +kernel)) ggX8_plug_X8_upMany
theorem dX8_plug_0 : decode cX8_plug 0 = .ok (.aload_n 0, 1) := by decide +kernel
theorem dX8_plug_1 : decode cX8_plug 1 = .ok (.iload_n 1, 1) := by decide +kernel
theorem dX8_plug_2 : decode cX8_plug 2 = .ok (.invokevirtual 99, 3) := by decide +kernel
theorem dX8_plug_5 : decode cX8_plug 5 = .ok (.ifCond .eq 12, 3) := by decide +kernel
theorem dX8_plug_8 : decode cX8_plug 8 = .ok (.iload_n 2, 1) := by decide +kernel
theorem dX8_plug_9 : decode cX8_plug 9 = .ok (.iconst 0, 1) := by decide +kernel
theorem dX8_plug_10 : decode cX8_plug 10 = .ok (.iconst 1, 1) := by decide +kernel
theorem dX8_plug_11 : decode cX8_plug 11 = .ok (.invokestatic 68, 3) := by decide +kernel
theorem dX8_plug_14 : decode cX8_plug 14 = .ok (.ifCond .ne 5, 3) := by decide +kernel
theorem dX8_plug_17 : decode cX8_plug 17 = .ok (.iconst (-1), 1) := by decide +kernel
theorem dX8_plug_18 : decode cX8_plug 18 = .ok (.ireturn, 1) := by decide +kernel
theorem dX8_plug_19 : decode cX8_plug 19 = .ok (.aload_n 0, 1) := by decide +kernel
theorem dX8_plug_20 : decode cX8_plug 20 = .ok (.getfield 7, 3) := by decide +kernel
theorem dX8_plug_23 : decode cX8_plug 23 = .ok (.iconst 4, 1) := by decide +kernel
theorem dX8_plug_24 : decode cX8_plug 24 = .ok (.iload_n 1, 1) := by decide +kernel
theorem dX8_plug_25 : decode cX8_plug 25 = .ok (.iadd, 1) := by decide +kernel
theorem dX8_plug_26 : decode cX8_plug 26 = .ok (.iaload, 1) := by decide +kernel
theorem dX8_plug_27 : decode cX8_plug 27 = .ok (.iload_n 2, 1) := by decide +kernel
theorem dX8_plug_28 : decode cX8_plug 28 = .ok (.if_icmp .ne 6, 3) := by decide +kernel
theorem dX8_plug_31 : decode cX8_plug 31 = .ok (.bipush (-2), 2) := by decide +kernel
theorem dX8_plug_33 : decode cX8_plug 33 = .ok (.ireturn, 1) := by decide +kernel
theorem dX8_plug_34 : decode cX8_plug 34 = .ok (.aload_n 0, 1) := by decide +kernel
theorem dX8_plug_35 : decode cX8_plug 35 = .ok (.invokevirtual 102, 3) := by decide +kernel
theorem dX8_plug_38 : decode cX8_plug 38 = .ok (.aload_n 0, 1) := by decide +kernel
theorem dX8_plug_39 : decode cX8_plug 39 = .ok (.getfield 7, 3) := by decide +kernel
theorem dX8_plug_42 : decode cX8_plug 42 = .ok (.iconst 4, 1) := by decide +kernel
theorem dX8_plug_43 : decode cX8_plug 43 = .ok (.iload_n 1, 1) := by decide +kernel
theorem dX8_plug_44 : decode cX8_plug 44 = .ok (.iadd, 1) := by decide +kernel
end
section
theorem dX8_plug_45 : decode cX8_plug 45 = .ok (.iload_n 2, 1) := by decide +kernel
theorem dX8_plug_46 : decode cX8_plug 46 = .ok (.iastore, 1) := by decide +kernel
theorem dX8_plug_47 : decode cX8_plug 47 = .ok (.aload_n 0, 1) := by decide +kernel
theorem dX8_plug_48 : decode cX8_plug 48 = .ok (.invokevirtual 105, 3) := by decide +kernel
theorem dX8_plug_51 : decode cX8_plug 51 = .ok (.ireturn, 1) := by decide +kernel
set_option maxRecDepth 20000 in
theorem ggX8_mute_X8_isEnd : GoodIn wsX8_mute wsX8_isEnd := goodIn_r _ [6] (by decide +kernel) (by decide +kernel)
set_option maxRecDepth 20000 in
theorem gX8_mute_X8_isEnd : GoodIn wsX8_mute (va_wsS RX8 108 yX8_isEnd wsX8_isEnd) := goodIn_app (goodIn_of _ (by decide +kernel)) ggX8_mute_X8_isEnd
set_option maxRecDepth 20000 in
theorem ggX8_mute_X8_isLink : GoodIn wsX8_mute wsX8_isLink := goodIn_r _ [10, 2, 11, 12, 5, 13, 23, 24, 25, 26, 27, 28, 29, 30, 31, 32, 33, 34, 35, 36, 37, 38, 39, 40] (by decide +kernel) (by decide +kernel)
set_option maxRecDepth 20000 in
theorem gX8_mute_X8_isLink : GoodIn wsX8_mute (wsV RX8 99 RX8 yX8_isLink wsX8_isLink) := goodIn_app (goodIn_of _ (by decide +kernel)) ggX8_mute_X8_isLink
set_option maxRecDepth 20000 in
theorem ggX8_mute_X8_within : GoodIn wsX8_mute wsX8_within := goodIn_r _ [13] (by decide +kernel) (by decide +kernel)
set_option maxRecDepth 20000 in
theorem gX8_mute_X8_within : GoodIn wsX8_mute (va_wsS RX8 68 yX8_within wsX8_within) := goodIn_app (goodIn_of _ (by decide +kernel)) ggX8_mute_X8_within
set_option maxRecDepth 20000 in
theorem ggX8_mute_X8_place : GoodIn wsX8_mute wsX8_place := goodIn_r _ [16] (by decide +kernel) (by decide +kernel)
set_option maxRecDepth 20000 in
theorem gX8_mute_X8_place : GoodIn wsX8_mute (va_wsS RX8 92 yX8_place wsX8_place) := goodIn_app (goodIn_of _ (by decide +kernel)) ggX8_mute_X8_place
set_option maxRecDepth 20000 in
theorem ggX8_mute_X8_keeps : GoodIn wsX8_mute wsX8_keeps := goodIn_r _ [20, 21, 22, 1, 23, 24, 25, 26, 27, 28, 29, 30, 31, 32, 33, 34, 35, 36, 37, 38, 39, 40] (by decide +kernel) (by decide +kernel)
set_option maxRecDepth 20000 in
theorem gX8_mute_X8_keeps : GoodIn wsX8_mute (wsV RX8 102 RX8 yX8_keeps wsX8_keeps) := goodIn_app (goodIn_of _ (by decide +kernel)) ggX8_mute_X8_keeps
theorem dX8_mute_0 : decode cX8_mute 0 = .ok (.iload_n 1, 1) := by decide +kernel
theorem dX8_mute_1 : decode cX8_mute 1 = .ok (.invokestatic 108, 3) := by decide +kernel
theorem dX8_mute_4 : decode cX8_mute 4 = .ok (.ifCond .eq 20, 3) := by decide +kernel
theorem dX8_mute_7 : decode cX8_mute 7 = .ok (.aload_n 0, 1) := by decide +kernel
theorem dX8_mute_8 : decode cX8_mute 8 = .ok (.iload_n 2, 1) := by decide +kernel
theorem dX8_mute_9 : decode cX8_mute 9 = .ok (.invokevirtual 99, 3) := by decide +kernel
theorem dX8_mute_12 : decode cX8_mute 12 = .ok (.ifCond .eq 12, 3) := by decide +kernel
theorem dX8_mute_15 : decode cX8_mute 15 = .ok (.iload_n 3, 1) := by decide +kernel
theorem dX8_mute_16 : decode cX8_mute 16 = .ok (.iconst 0, 1) := by decide +kernel
theorem dX8_mute_17 : decode cX8_mute 17 = .ok (.iconst 1, 1) := by decide +kernel
theorem dX8_mute_18 : decode cX8_mute 18 = .ok (.invokestatic 68, 3) := by decide +kernel
theorem dX8_mute_21 : decode cX8_mute 21 = .ok (.ifCond .ne 5, 3) := by decide +kernel
theorem dX8_mute_24 : decode cX8_mute 24 = .ok (.iconst (-1), 1) := by decide +kernel
theorem dX8_mute_25 : decode cX8_mute 25 = .ok (.ireturn, 1) := by decide +kernel
theorem dX8_mute_26 : decode cX8_mute 26 = .ok (.aload_n 0, 1) := by decide +kernel
theorem dX8_mute_27 : decode cX8_mute 27 = .ok (.getfield 7, 3) := by decide +kernel
theorem dX8_mute_30 : decode cX8_mute 30 = .ok (.iload_n 1, 1) := by decide +kernel
theorem dX8_mute_31 : decode cX8_mute 31 = .ok (.iload_n 2, 1) := by decide +kernel
theorem dX8_mute_32 : decode cX8_mute 32 = .ok (.invokestatic 92, 3) := by decide +kernel
theorem dX8_mute_35 : decode cX8_mute 35 = .ok (.iconst 2, 1) := by decide +kernel
theorem dX8_mute_36 : decode cX8_mute 36 = .ok (.iadd, 1) := by decide +kernel
theorem dX8_mute_37 : decode cX8_mute 37 = .ok (.iaload, 1) := by decide +kernel
theorem dX8_mute_38 : decode cX8_mute 38 = .ok (.iload_n 3, 1) := by decide +kernel
theorem dX8_mute_39 : decode cX8_mute 39 = .ok (.if_icmp .ne 6, 3) := by decide +kernel
theorem dX8_mute_42 : decode cX8_mute 42 = .ok (.bipush (-2), 2) := by decide +kernel
theorem dX8_mute_44 : decode cX8_mute 44 = .ok (.ireturn, 1) := by decide +kernel
theorem dX8_mute_45 : decode cX8_mute 45 = .ok (.aload_n 0, 1) := by decide +kernel
theorem dX8_mute_46 : decode cX8_mute 46 = .ok (.invokevirtual 102, 3) := by decide +kernel
theorem dX8_mute_49 : decode cX8_mute 49 = .ok (.aload_n 0, 1) := by decide +kernel
theorem dX8_mute_50 : decode cX8_mute 50 = .ok (.getfield 7, 3) := by decide +kernel
theorem dX8_mute_53 : decode cX8_mute 53 = .ok (.iload_n 1, 1) := by decide +kernel
theorem dX8_mute_54 : decode cX8_mute 54 = .ok (.iload_n 2, 1) := by decide +kernel
theorem dX8_mute_55 : decode cX8_mute 55 = .ok (.invokestatic 92, 3) := by decide +kernel
theorem dX8_mute_58 : decode cX8_mute 58 = .ok (.iconst 2, 1) := by decide +kernel
theorem dX8_mute_59 : decode cX8_mute 59 = .ok (.iadd, 1) := by decide +kernel
theorem dX8_mute_60 : decode cX8_mute 60 = .ok (.iload_n 3, 1) := by decide +kernel
theorem dX8_mute_61 : decode cX8_mute 61 = .ok (.iastore, 1) := by decide +kernel
theorem dX8_mute_62 : decode cX8_mute 62 = .ok (.iconst 0, 1) := by decide +kernel
theorem dX8_mute_63 : decode cX8_mute 63 = .ok (.istore 4, 2) := by decide +kernel
theorem dX8_mute_65 : decode cX8_mute 65 = .ok (.iconst 0, 1) := by decide +kernel
theorem dX8_mute_66 : decode cX8_mute 66 = .ok (.istore 5, 2) := by decide +kernel
theorem dX8_mute_68 : decode cX8_mute 68 = .ok (.iload 5, 2) := by decide +kernel
theorem dX8_mute_70 : decode cX8_mute 70 = .ok (.aload_n 0, 1) := by decide +kernel
theorem dX8_mute_71 : decode cX8_mute 71 = .ok (.getfield 83, 3) := by decide +kernel
theorem dX8_mute_74 : decode cX8_mute 74 = .ok (.if_icmp .ge 27, 3) := by decide +kernel
theorem dX8_mute_77 : decode cX8_mute 77 = .ok (.iload 4, 2) := by decide +kernel
theorem dX8_mute_79 : decode cX8_mute 79 = .ok (.aload_n 0, 1) := by decide +kernel
theorem dX8_mute_80 : decode cX8_mute 80 = .ok (.getfield 7, 3) := by decide +kernel
theorem dX8_mute_83 : decode cX8_mute 83 = .ok (.iload_n 1, 1) := by decide +kernel
theorem dX8_mute_84 : decode cX8_mute 84 = .ok (.iload 5, 2) := by decide +kernel
theorem dX8_mute_86 : decode cX8_mute 86 = .ok (.invokestatic 92, 3) := by decide +kernel
theorem dX8_mute_89 : decode cX8_mute 89 = .ok (.iconst 2, 1) := by decide +kernel
theorem dX8_mute_90 : decode cX8_mute 90 = .ok (.iadd, 1) := by decide +kernel
theorem dX8_mute_91 : decode cX8_mute 91 = .ok (.iaload, 1) := by decide +kernel
theorem dX8_mute_92 : decode cX8_mute 92 = .ok (.iadd, 1) := by decide +kernel
theorem dX8_mute_93 : decode cX8_mute 93 = .ok (.istore 4, 2) := by decide +kernel
theorem dX8_mute_95 : decode cX8_mute 95 = .ok (.iinc 5 1, 3) := by decide +kernel
theorem dX8_mute_98 : decode cX8_mute 98 = .ok (.goto (-30), 3) := by decide +kernel
theorem dX8_mute_101 : decode cX8_mute 101 = .ok (.iload 4, 2) := by decide +kernel
theorem dX8_mute_103 : decode cX8_mute 103 = .ok (.ireturn, 1) := by decide +kernel
set_option maxRecDepth 20000 in
theorem ggX8_becomes_X8_keeps : GoodIn wsX8_becomes wsX8_keeps := goodIn_r _ [6, 7, 8, 1, 9, 10, 11, 12, 13, 14, 15, 16, 17, 18, 19, 20, 21, 22, 23, 24, 25, 26] (by decide +kernel) (by decide +kernel)
set_option maxRecDepth 20000 in
theorem gX8_becomes_X8_keeps : GoodIn wsX8_becomes (wsV RX8 102 RX8 yX8_keeps wsX8_keeps) := goodIn_app (goodIn_of _ (by decide +kernel)) ggX8_becomes_X8_keeps
theorem dX8_becomes_0 : decode cX8_becomes 0 = .ok (.aload_n 0, 1) := by decide +kernel
theorem dX8_becomes_1 : decode cX8_becomes 1 = .ok (.getfield 7, 3) := by decide +kernel
theorem dX8_becomes_4 : decode cX8_becomes 4 = .ok (.iload_n 1, 1) := by decide +kernel
theorem dX8_becomes_5 : decode cX8_becomes 5 = .ok (.iaload, 1) := by decide +kernel
theorem dX8_becomes_6 : decode cX8_becomes 6 = .ok (.istore_n 3, 1) := by decide +kernel
theorem dX8_becomes_7 : decode cX8_becomes 7 = .ok (.iload_n 3, 1) := by decide +kernel
theorem dX8_becomes_8 : decode cX8_becomes 8 = .ok (.iload_n 2, 1) := by decide +kernel
theorem dX8_becomes_9 : decode cX8_becomes 9 = .ok (.if_icmp .ne 6, 3) := by decide +kernel
theorem dX8_becomes_12 : decode cX8_becomes 12 = .ok (.bipush (-2), 2) := by decide +kernel
theorem dX8_becomes_14 : decode cX8_becomes 14 = .ok (.ireturn, 1) := by decide +kernel
theorem dX8_becomes_15 : decode cX8_becomes 15 = .ok (.aload_n 0, 1) := by decide +kernel
theorem dX8_becomes_16 : decode cX8_becomes 16 = .ok (.invokevirtual 102, 3) := by decide +kernel
theorem dX8_becomes_19 : decode cX8_becomes 19 = .ok (.aload_n 0, 1) := by decide +kernel
theorem dX8_becomes_20 : decode cX8_becomes 20 = .ok (.getfield 7, 3) := by decide +kernel
theorem dX8_becomes_23 : decode cX8_becomes 23 = .ok (.iload_n 1, 1) := by decide +kernel
theorem dX8_becomes_24 : decode cX8_becomes 24 = .ok (.iload_n 2, 1) := by decide +kernel
theorem dX8_becomes_25 : decode cX8_becomes 25 = .ok (.iastore, 1) := by decide +kernel
theorem dX8_becomes_26 : decode cX8_becomes 26 = .ok (.iload_n 3, 1) := by decide +kernel
theorem dX8_becomes_27 : decode cX8_becomes 27 = .ok (.ireturn, 1) := by decide +kernel
set_option maxRecDepth 20000 in
theorem ggX8_tell_X8_isEnd : GoodIn wsX8_tell wsX8_isEnd := goodIn_r _ [4] (by decide +kernel) (by decide +kernel)
set_option maxRecDepth 20000 in
theorem gX8_tell_X8_isEnd : GoodIn wsX8_tell (va_wsS RX8 108 yX8_isEnd wsX8_isEnd) := goodIn_app (goodIn_of _ (by decide +kernel)) ggX8_tell_X8_isEnd
set_option maxRecDepth 20000 in
theorem ggX8_tell_X8_isLink : GoodIn wsX8_tell wsX8_isLink := goodIn_r _ [8, 9, 10, 11, 3, 12, 27, 28, 29, 30, 31, 32, 33, 34, 35, 36, 37, 38, 39, 40, 41, 42, 43, 44] (by decide +kernel) (by decide +kernel)
set_option maxRecDepth 20000 in
theorem gX8_tell_X8_isLink : GoodIn wsX8_tell (wsV RX8 99 RX8 yX8_isLink wsX8_isLink) := goodIn_app (goodIn_of _ (by decide +kernel)) ggX8_tell_X8_isLink
set_option maxRecDepth 20000 in
theorem ggX8_tell_X8_within : GoodIn wsX8_tell wsX8_within := goodIn_r _ [12] (by decide +kernel) (by decide +kernel)
set_option maxRecDepth 20000 in
theorem gX8_tell_X8_within : GoodIn wsX8_tell (va_wsS RX8 68 yX8_within wsX8_within) := goodIn_app (goodIn_of _ (by decide +kernel)) ggX8_tell_X8_within
set_option maxRecDepth 20000 in
theorem ggX8_tell_X8_place : GoodIn wsX8_tell wsX8_place := goodIn_r _ [15] (by decide +kernel) (by decide +kernel)
set_option maxRecDepth 20000 in
theorem gX8_tell_X8_place : GoodIn wsX8_tell (va_wsS RX8 92 yX8_place wsX8_place) := goodIn_app (goodIn_of _ (by decide +kernel)) ggX8_tell_X8_place
set_option maxRecDepth 20000 in
theorem ggX8_tell_X8_becomes : GoodIn wsX8_tell wsX8_becomes := goodIn_r _ [19, 20, 21, 22, 23, 3, 24, 25, 26, 27, 28, 29, 30, 31, 32, 33, 34, 35, 36, 37, 38, 39, 40, 41, 42, 43, 44] (by decide +kernel) (by decide +kernel)
set_option maxRecDepth 20000 in
theorem gX8_tell_X8_becomes : GoodIn wsX8_tell (wsV RX8 111 RX8 yX8_becomes wsX8_becomes) := goodIn_app (goodIn_of _ (by decide +kernel)) ggX8_tell_X8_becomes
theorem dX8_tell_0 : decode cX8_tell 0 = .ok (.iload_n 1, 1) := by decide +kernel
theorem dX8_tell_1 : decode cX8_tell 1 = .ok (.invokestatic 108, 3) := by decide +kernel
theorem dX8_tell_4 : decode cX8_tell 4 = .ok (.ifCond .eq 31, 3) := by decide +kernel
theorem dX8_tell_7 : decode cX8_tell 7 = .ok (.aload_n 0, 1) := by decide +kernel
theorem dX8_tell_8 : decode cX8_tell 8 = .ok (.iload_n 2, 1) := by decide +kernel
theorem dX8_tell_9 : decode cX8_tell 9 = .ok (.invokevirtual 99, 3) := by decide +kernel
theorem dX8_tell_12 : decode cX8_tell 12 = .ok (.ifCond .eq 23, 3) := by decide +kernel
theorem dX8_tell_15 : decode cX8_tell 15 = .ok (.iload_n 3, 1) := by decide +kernel
theorem dX8_tell_16 : decode cX8_tell 16 = .ok (.iconst 0, 1) := by decide +kernel
theorem dX8_tell_17 : decode cX8_tell 17 = .ok (.iconst 1, 1) := by decide +kernel
theorem dX8_tell_18 : decode cX8_tell 18 = .ok (.invokestatic 68, 3) := by decide +kernel
theorem dX8_tell_21 : decode cX8_tell 21 = .ok (.ifCond .eq 14, 3) := by decide +kernel
theorem dX8_tell_24 : decode cX8_tell 24 = .ok (.iload 4, 2) := by decide +kernel
theorem dX8_tell_26 : decode cX8_tell 26 = .ok (.iconst 0, 1) := by decide +kernel
theorem dX8_tell_27 : decode cX8_tell 27 = .ok (.bipush 9, 2) := by decide +kernel
theorem dX8_tell_29 : decode cX8_tell 29 = .ok (.invokestatic 68, 3) := by decide +kernel
theorem dX8_tell_32 : decode cX8_tell 32 = .ok (.ifCond .ne 5, 3) := by decide +kernel
theorem dX8_tell_35 : decode cX8_tell 35 = .ok (.iconst (-1), 1) := by decide +kernel
theorem dX8_tell_36 : decode cX8_tell 36 = .ok (.ireturn, 1) := by decide +kernel
theorem dX8_tell_37 : decode cX8_tell 37 = .ok (.aload_n 0, 1) := by decide +kernel
theorem dX8_tell_38 : decode cX8_tell 38 = .ok (.iload_n 1, 1) := by decide +kernel
theorem dX8_tell_39 : decode cX8_tell 39 = .ok (.iload_n 2, 1) := by decide +kernel
theorem dX8_tell_40 : decode cX8_tell 40 = .ok (.invokestatic 92, 3) := by decide +kernel
theorem dX8_tell_43 : decode cX8_tell 43 = .ok (.iload_n 3, 1) := by decide +kernel
theorem dX8_tell_44 : decode cX8_tell 44 = .ok (.iadd, 1) := by decide +kernel
theorem dX8_tell_45 : decode cX8_tell 45 = .ok (.iload 4, 2) := by decide +kernel
theorem dX8_tell_47 : decode cX8_tell 47 = .ok (.invokevirtual 111, 3) := by decide +kernel
theorem dX8_tell_50 : decode cX8_tell 50 = .ok (.ireturn, 1) := by decide +kernel
set_option maxRecDepth 20000 in
theorem ggX8_set_X8_within : GoodIn wsX8_set wsX8_within := goodIn_r _ [4] (by decide +kernel) (by decide +kernel)
set_option maxRecDepth 20000 in
theorem gX8_set_X8_within : GoodIn wsX8_set (va_wsS RX8 68 yX8_within wsX8_within) := goodIn_app (goodIn_of _ (by decide +kernel)) ggX8_set_X8_within
set_option maxRecDepth 20000 in
theorem ggX8_set_X8_becomes : GoodIn wsX8_set wsX8_becomes := goodIn_r _ [8, 9, 10, 11, 12, 3, 13, 14, 15, 16, 17, 18, 19, 20, 21, 22, 23, 24, 25, 26, 27, 28, 29, 30, 31, 32, 33] (by decide +kernel) (by decide +kernel)
set_option maxRecDepth 20000 in
theorem gX8_set_X8_becomes : GoodIn wsX8_set (wsV RX8 111 RX8 yX8_becomes wsX8_becomes) := goodIn_app (goodIn_of _ (by decide +kernel)) ggX8_set_X8_becomes
theorem dX8_set_0 : decode cX8_set 0 = .ok (.iload_n 1, 1) := by decide +kernel
theorem dX8_set_1 : decode cX8_set 1 = .ok (.iconst 0, 1) := by decide +kernel
theorem dX8_set_2 : decode cX8_set 2 = .ok (.iconst 2, 1) := by decide +kernel
theorem dX8_set_3 : decode cX8_set 3 = .ok (.invokestatic 68, 3) := by decide +kernel
theorem dX8_set_6 : decode cX8_set 6 = .ok (.ifCond .eq 32, 3) := by decide +kernel
theorem dX8_set_9 : decode cX8_set 9 = .ok (.iload_n 2, 1) := by decide +kernel
theorem dX8_set_10 : decode cX8_set 10 = .ok (.iload_n 1, 1) := by decide +kernel
theorem dX8_set_11 : decode cX8_set 11 = .ok (.iconst 2, 1) := by decide +kernel
theorem dX8_set_12 : decode cX8_set 12 = .ok (.if_icmp .ne 7, 3) := by decide +kernel
theorem dX8_set_15 : decode cX8_set 15 = .ok (.iconst 1, 1) := by decide +kernel
theorem dX8_set_16 : decode cX8_set 16 = .ok (.goto 4, 3) := by decide +kernel
theorem dX8_set_19 : decode cX8_set 19 = .ok (.iconst 0, 1) := by decide +kernel
theorem dX8_set_20 : decode cX8_set 20 = .ok (.iload_n 1, 1) := by decide +kernel
theorem dX8_set_21 : decode cX8_set 21 = .ok (.iconst 2, 1) := by decide +kernel
theorem dX8_set_22 : decode cX8_set 22 = .ok (.if_icmp .ne 8, 3) := by decide +kernel
theorem dX8_set_25 : decode cX8_set 25 = .ok (.bipush 6, 2) := by decide +kernel
theorem dX8_set_27 : decode cX8_set 27 = .ok (.goto 5, 3) := by decide +kernel
theorem dX8_set_30 : decode cX8_set 30 = .ok (.bipush 9, 2) := by decide +kernel
theorem dX8_set_32 : decode cX8_set 32 = .ok (.invokestatic 68, 3) := by decide +kernel
theorem dX8_set_35 : decode cX8_set 35 = .ok (.ifCond .ne 5, 3) := by decide +kernel
theorem dX8_set_38 : decode cX8_set 38 = .ok (.iconst (-1), 1) := by decide +kernel
theorem dX8_set_39 : decode cX8_set 39 = .ok (.ireturn, 1) := by decide +kernel
theorem dX8_set_40 : decode cX8_set 40 = .ok (.aload_n 0, 1) := by decide +kernel
theorem dX8_set_41 : decode cX8_set 41 = .ok (.iload_n 1, 1) := by decide +kernel
theorem dX8_set_42 : decode cX8_set 42 = .ok (.iload_n 2, 1) := by decide +kernel
theorem dX8_set_43 : decode cX8_set 43 = .ok (.invokevirtual 111, 3) := by decide +kernel
theorem dX8_set_46 : decode cX8_set 46 = .ok (.ireturn, 1) := by decide +kernel
theorem dX8_undo_0 : decode cX8_undo 0 = .ok (.aload_n 0, 1) := by decide +kernel
theorem dX8_undo_1 : decode cX8_undo 1 = .ok (.getfield 96, 3) := by decide +kernel
theorem dX8_undo_4 : decode cX8_undo 4 = .ok (.ifCond .ne 6, 3) := by decide +kernel
theorem dX8_undo_7 : decode cX8_undo 7 = .ok (.bipush (-2), 2) := by decide +kernel
theorem dX8_undo_9 : decode cX8_undo 9 = .ok (.ireturn, 1) := by decide +kernel
theorem dX8_undo_10 : decode cX8_undo 10 = .ok (.aload_n 0, 1) := by decide +kernel
theorem dX8_undo_11 : decode cX8_undo 11 = .ok (.dup, 1) := by decide +kernel
theorem dX8_undo_12 : decode cX8_undo 12 = .ok (.getfield 96, 3) := by decide +kernel
theorem dX8_undo_15 : decode cX8_undo 15 = .ok (.iconst 1, 1) := by decide +kernel
theorem dX8_undo_16 : decode cX8_undo 16 = .ok (.isub, 1) := by decide +kernel
theorem dX8_undo_17 : decode cX8_undo 17 = .ok (.putfield 96, 3) := by decide +kernel
theorem dX8_undo_20 : decode cX8_undo 20 = .ok (.iconst 0, 1) := by decide +kernel
theorem dX8_undo_21 : decode cX8_undo 21 = .ok (.istore_n 1, 1) := by decide +kernel
theorem dX8_undo_22 : decode cX8_undo 22 = .ok (.iload_n 1, 1) := by decide +kernel
theorem dX8_undo_23 : decode cX8_undo 23 = .ok (.sipush 235, 3) := by decide +kernel
theorem dX8_undo_26 : decode cX8_undo 26 = .ok (.if_icmp .ge 30, 3) := by decide +kernel
theorem dX8_undo_29 : decode cX8_undo 29 = .ok (.aload_n 0, 1) := by decide +kernel
theorem dX8_undo_30 : decode cX8_undo 30 = .ok (.getfield 7, 3) := by decide +kernel
theorem dX8_undo_33 : decode cX8_undo 33 = .ok (.iload_n 1, 1) := by decide +kernel
theorem dX8_undo_34 : decode cX8_undo 34 = .ok (.aload_n 0, 1) := by decide +kernel
theorem dX8_undo_35 : decode cX8_undo 35 = .ok (.getfield 16, 3) := by decide +kernel
theorem dX8_undo_38 : decode cX8_undo 38 = .ok (.sipush 235, 3) := by decide +kernel
theorem dX8_undo_41 : decode cX8_undo 41 = .ok (.aload_n 0, 1) := by decide +kernel
theorem dX8_undo_42 : decode cX8_undo 42 = .ok (.getfield 96, 3) := by decide +kernel
theorem dX8_undo_45 : decode cX8_undo 45 = .ok (.imul, 1) := by decide +kernel
theorem dX8_undo_46 : decode cX8_undo 46 = .ok (.iload_n 1, 1) := by decide +kernel
theorem dX8_undo_47 : decode cX8_undo 47 = .ok (.iadd, 1) := by decide +kernel
theorem dX8_undo_48 : decode cX8_undo 48 = .ok (.iaload, 1) := by decide +kernel
theorem dX8_undo_49 : decode cX8_undo 49 = .ok (.iastore, 1) := by decide +kernel
theorem dX8_undo_50 : decode cX8_undo 50 = .ok (.iinc 1 1, 3) := by decide +kernel
theorem dX8_undo_53 : decode cX8_undo 53 = .ok (.goto (-31), 3) := by decide +kernel
theorem dX8_undo_56 : decode cX8_undo 56 = .ok (.aload_n 0, 1) := by decide +kernel
theorem dX8_undo_57 : decode cX8_undo 57 = .ok (.getfield 96, 3) := by decide +kernel
theorem dX8_undo_60 : decode cX8_undo 60 = .ok (.ireturn, 1) := by decide +kernel
theorem dX8_knowsNothing_0 : decode cX8_knowsNothing 0 = .ok (.aload_n 0, 1) := by decide +kernel
theorem dX8_knowsNothing_1 : decode cX8_knowsNothing 1 = .ok (.getfield 7, 3) := by decide +kernel
theorem dX8_knowsNothing_4 : decode cX8_knowsNothing 4 = .ok (.iload_n 1, 1) := by decide +kernel
theorem dX8_knowsNothing_5 : decode cX8_knowsNothing 5 = .ok (.bipush 8, 2) := by decide +kernel
theorem dX8_knowsNothing_7 : decode cX8_knowsNothing 7 = .ok (.iadd, 1) := by decide +kernel
theorem dX8_knowsNothing_8 : decode cX8_knowsNothing 8 = .ok (.bipush (-4), 2) := by decide +kernel
theorem dX8_knowsNothing_10 : decode cX8_knowsNothing 10 = .ok (.iastore, 1) := by decide +kernel
theorem dX8_knowsNothing_11 : decode cX8_knowsNothing 11 = .ok (.return_, 1) := by decide +kernel
set_option maxRecDepth 20000 in
theorem ggX8_comes_X8_place : GoodIn wsX8_comes wsX8_place := goodIn_r _ [5] (by decide +kernel) (by decide +kernel)
set_option maxRecDepth 20000 in
theorem gX8_comes_X8_place : GoodIn wsX8_comes (va_wsS RX8 92 yX8_place wsX8_place) := goodIn_app (goodIn_of _ (by decide +kernel)) ggX8_comes_X8_place
set_option maxRecDepth 20000 in
theorem ggX8_comes_X8_knowsNothing : GoodIn wsX8_comes wsX8_knowsNothing := goodIn_r _ [9, 1, 10, 11, 12, 13, 14, 15, 16, 17, 18, 19, 20, 21, 22, 23, 24, 25, 26, 27] (by decide +kernel) (by decide +kernel)
set_option maxRecDepth 20000 in
theorem gX8_comes_X8_knowsNothing : GoodIn wsX8_comes (wsV RX8 114 RX8 yX8_knowsNothing wsX8_knowsNothing) := goodIn_app (goodIn_of _ (by decide +kernel)) ggX8_comes_X8_knowsNothing
theorem dX8_comes_0 : decode cX8_comes 0 = .ok (.iload_n 1, 1) := by decide +kernel
theorem dX8_comes_1 : decode cX8_comes 1 = .ok (.iload_n 2, 1) := by decide +kernel
theorem dX8_comes_2 : decode cX8_comes 2 = .ok (.invokestatic 92, 3) := by decide +kernel
theorem dX8_comes_5 : decode cX8_comes 5 = .ok (.istore_n 3, 1) := by decide +kernel
theorem dX8_comes_6 : decode cX8_comes 6 = .ok (.iconst 1, 1) := by decide +kernel
theorem dX8_comes_7 : decode cX8_comes 7 = .ok (.iload_n 1, 1) := by decide +kernel
theorem dX8_comes_8 : decode cX8_comes 8 = .ok (.isub, 1) := by decide +kernel
theorem dX8_comes_9 : decode cX8_comes 9 = .ok (.iload_n 2, 1) := by decide +kernel
theorem dX8_comes_10 : decode cX8_comes 10 = .ok (.invokestatic 92, 3) := by decide +kernel
theorem dX8_comes_13 : decode cX8_comes 13 = .ok (.istore 4, 2) := by decide +kernel
theorem dX8_comes_15 : decode cX8_comes 15 = .ok (.aload_n 0, 1) := by decide +kernel
theorem dX8_comes_16 : decode cX8_comes 16 = .ok (.getfield 7, 3) := by decide +kernel
theorem dX8_comes_19 : decode cX8_comes 19 = .ok (.iconst 4, 1) := by decide +kernel
theorem dX8_comes_20 : decode cX8_comes 20 = .ok (.iload_n 2, 1) := by decide +kernel
theorem dX8_comes_21 : decode cX8_comes 21 = .ok (.iadd, 1) := by decide +kernel
theorem dX8_comes_22 : decode cX8_comes 22 = .ok (.iaload, 1) := by decide +kernel
theorem dX8_comes_23 : decode cX8_comes 23 = .ok (.ifCond .ne 11, 3) := by decide +kernel
theorem dX8_comes_26 : decode cX8_comes 26 = .ok (.aload_n 0, 1) := by decide +kernel
theorem dX8_comes_27 : decode cX8_comes 27 = .ok (.iload_n 3, 1) := by decide +kernel
theorem dX8_comes_28 : decode cX8_comes 28 = .ok (.invokevirtual 114, 3) := by decide +kernel
theorem dX8_comes_31 : decode cX8_comes 31 = .ok (.goto 113, 3) := by decide +kernel
theorem dX8_comes_34 : decode cX8_comes 34 = .ok (.aload_n 0, 1) := by decide +kernel
theorem dX8_comes_35 : decode cX8_comes 35 = .ok (.getfield 7, 3) := by decide +kernel
theorem dX8_comes_38 : decode cX8_comes 38 = .ok (.iload 4, 2) := by decide +kernel
theorem dX8_comes_40 : decode cX8_comes 40 = .ok (.iconst 3, 1) := by decide +kernel
theorem dX8_comes_41 : decode cX8_comes 41 = .ok (.iadd, 1) := by decide +kernel
theorem dX8_comes_42 : decode cX8_comes 42 = .ok (.iaload, 1) := by decide +kernel
theorem dX8_comes_43 : decode cX8_comes 43 = .ok (.iconst 1, 1) := by decide +kernel
theorem dX8_comes_44 : decode cX8_comes 44 = .ok (.if_icmp .ne 55, 3) := by decide +kernel
theorem dX8_comes_47 : decode cX8_comes 47 = .ok (.iconst 0, 1) := by decide +kernel
theorem dX8_comes_48 : decode cX8_comes 48 = .ok (.istore 5, 2) := by decide +kernel
theorem dX8_comes_50 : decode cX8_comes 50 = .ok (.iload 5, 2) := by decide +kernel
theorem dX8_comes_52 : decode cX8_comes 52 = .ok (.iconst 4, 1) := by decide +kernel
theorem dX8_comes_53 : decode cX8_comes 53 = .ok (.if_icmp .ge 33, 3) := by decide +kernel
theorem dX8_comes_56 : decode cX8_comes 56 = .ok (.aload_n 0, 1) := by decide +kernel
theorem dX8_comes_57 : decode cX8_comes 57 = .ok (.getfield 7, 3) := by decide +kernel
theorem dX8_comes_60 : decode cX8_comes 60 = .ok (.iload_n 3, 1) := by decide +kernel
theorem dX8_comes_61 : decode cX8_comes 61 = .ok (.bipush 9, 2) := by decide +kernel
theorem dX8_comes_63 : decode cX8_comes 63 = .ok (.iadd, 1) := by decide +kernel
theorem dX8_comes_64 : decode cX8_comes 64 = .ok (.iload 5, 2) := by decide +kernel
theorem dX8_comes_66 : decode cX8_comes 66 = .ok (.iadd, 1) := by decide +kernel
theorem dX8_comes_67 : decode cX8_comes 67 = .ok (.aload_n 0, 1) := by decide +kernel
theorem dX8_comes_68 : decode cX8_comes 68 = .ok (.getfield 7, 3) := by decide +kernel
theorem dX8_comes_71 : decode cX8_comes 71 = .ok (.iload 4, 2) := by decide +kernel
theorem dX8_comes_73 : decode cX8_comes 73 = .ok (.iconst 4, 1) := by decide +kernel
theorem dX8_comes_74 : decode cX8_comes 74 = .ok (.iadd, 1) := by decide +kernel
theorem dX8_comes_75 : decode cX8_comes 75 = .ok (.iload 5, 2) := by decide +kernel
theorem dX8_comes_77 : decode cX8_comes 77 = .ok (.iadd, 1) := by decide +kernel
theorem dX8_comes_78 : decode cX8_comes 78 = .ok (.iaload, 1) := by decide +kernel
theorem dX8_comes_79 : decode cX8_comes 79 = .ok (.iastore, 1) := by decide +kernel
theorem dX8_comes_80 : decode cX8_comes 80 = .ok (.iinc 5 1, 3) := by decide +kernel
theorem dX8_comes_83 : decode cX8_comes 83 = .ok (.goto (-33), 3) := by decide +kernel
theorem dX8_comes_86 : decode cX8_comes 86 = .ok (.aload_n 0, 1) := by decide +kernel
theorem dX8_comes_87 : decode cX8_comes 87 = .ok (.getfield 7, 3) := by decide +kernel
theorem dX8_comes_90 : decode cX8_comes 90 = .ok (.iload_n 3, 1) := by decide +kernel
theorem dX8_comes_91 : decode cX8_comes 91 = .ok (.bipush 8, 2) := by decide +kernel
theorem dX8_comes_93 : decode cX8_comes 93 = .ok (.iadd, 1) := by decide +kernel
theorem dX8_comes_94 : decode cX8_comes 94 = .ok (.iconst 0, 1) := by decide +kernel
theorem dX8_comes_95 : decode cX8_comes 95 = .ok (.iastore, 1) := by decide +kernel
theorem dX8_comes_96 : decode cX8_comes 96 = .ok (.goto 48, 3) := by decide +kernel
theorem dX8_comes_99 : decode cX8_comes 99 = .ok (.aload_n 0, 1) := by decide +kernel
theorem dX8_comes_100 : decode cX8_comes 100 = .ok (.getfield 7, 3) := by decide +kernel
theorem dX8_comes_103 : decode cX8_comes 103 = .ok (.iload_n 3, 1) := by decide +kernel
theorem dX8_comes_104 : decode cX8_comes 104 = .ok (.bipush 8, 2) := by decide +kernel
theorem dX8_comes_106 : decode cX8_comes 106 = .ok (.iadd, 1) := by decide +kernel
theorem dX8_comes_107 : decode cX8_comes 107 = .ok (.iaload, 1) := by decide +kernel
theorem dX8_comes_108 : decode cX8_comes 108 = .ok (.bipush (-4), 2) := by decide +kernel
theorem dX8_comes_110 : decode cX8_comes 110 = .ok (.if_icmp .eq 34, 3) := by decide +kernel
theorem dX8_comes_113 : decode cX8_comes 113 = .ok (.aload_n 0, 1) := by decide +kernel
theorem dX8_comes_114 : decode cX8_comes 114 = .ok (.getfield 7, 3) := by decide +kernel
theorem dX8_comes_117 : decode cX8_comes 117 = .ok (.iload_n 3, 1) := by decide +kernel
theorem dX8_comes_118 : decode cX8_comes 118 = .ok (.bipush 8, 2) := by decide +kernel
theorem dX8_comes_120 : decode cX8_comes 120 = .ok (.iadd, 1) := by decide +kernel
theorem dX8_comes_121 : decode cX8_comes 121 = .ok (.dup2, 1) := by decide +kernel
theorem dX8_comes_122 : decode cX8_comes 122 = .ok (.iaload, 1) := by decide +kernel
theorem dX8_comes_123 : decode cX8_comes 123 = .ok (.iconst 1, 1) := by decide +kernel
theorem dX8_comes_124 : decode cX8_comes 124 = .ok (.iadd, 1) := by decide +kernel
theorem dX8_comes_125 : decode cX8_comes 125 = .ok (.iastore, 1) := by decide +kernel
theorem dX8_comes_126 : decode cX8_comes 126 = .ok (.aload_n 0, 1) := by decide +kernel
theorem dX8_comes_127 : decode cX8_comes 127 = .ok (.getfield 7, 3) := by decide +kernel
theorem dX8_comes_130 : decode cX8_comes 130 = .ok (.iload_n 3, 1) := by decide +kernel
theorem dX8_comes_131 : decode cX8_comes 131 = .ok (.bipush 8, 2) := by decide +kernel
theorem dX8_comes_133 : decode cX8_comes 133 = .ok (.iadd, 1) := by decide +kernel
theorem dX8_comes_134 : decode cX8_comes 134 = .ok (.iaload, 1) := by decide +kernel
theorem dX8_comes_135 : decode cX8_comes 135 = .ok (.iconst 3, 1) := by decide +kernel
theorem dX8_comes_136 : decode cX8_comes 136 = .ok (.if_icmp .ne 8, 3) := by decide +kernel
theorem dX8_comes_139 : decode cX8_comes 139 = .ok (.aload_n 0, 1) := by decide +kernel
theorem dX8_comes_140 : decode cX8_comes 140 = .ok (.iload_n 3, 1) := by decide +kernel
theorem dX8_comes_141 : decode cX8_comes 141 = .ok (.invokevirtual 114, 3) := by decide +kernel
theorem dX8_comes_144 : decode cX8_comes 144 = .ok (.return_, 1) := by decide +kernel
set_option maxRecDepth 20000 in
theorem ggX8_isOpen_X8_place : GoodIn wsX8_isOpen wsX8_place := goodIn_r _ [5] (by decide +kernel) (by decide +kernel)
set_option maxRecDepth 20000 in
theorem gX8_isOpen_X8_place : GoodIn wsX8_isOpen (va_wsS RX8 92 yX8_place wsX8_place) := goodIn_app (goodIn_of _ (by decide +kernel)) ggX8_isOpen_X8_place
theorem dX8_isOpen_0 : decode cX8_isOpen 0 = .ok (.aload_n 0, 1) := by decide +kernel
theorem dX8_isOpen_1 : decode cX8_isOpen 1 = .ok (.getfield 7, 3) := by decide +kernel
theorem dX8_isOpen_4 : decode cX8_isOpen 4 = .ok (.iload_n 1, 1) := by decide +kernel
theorem dX8_isOpen_5 : decode cX8_isOpen 5 = .ok (.iload_n 2, 1) := by decide +kernel
theorem dX8_isOpen_6 : decode cX8_isOpen 6 = .ok (.invokestatic 92, 3) := by decide +kernel
theorem dX8_isOpen_9 : decode cX8_isOpen 9 = .ok (.bipush 8, 2) := by decide +kernel
theorem dX8_isOpen_11 : decode cX8_isOpen 11 = .ok (.iadd, 1) := by decide +kernel
theorem dX8_isOpen_12 : decode cX8_isOpen 12 = .ok (.iaload, 1) := by decide +kernel
theorem dX8_isOpen_13 : decode cX8_isOpen 13 = .ok (.bipush (-4), 2) := by decide +kernel
theorem dX8_isOpen_15 : decode cX8_isOpen 15 = .ok (.if_icmp .eq 7, 3) := by decide +kernel
theorem dX8_isOpen_18 : decode cX8_isOpen 18 = .ok (.iconst 1, 1) := by decide +kernel
theorem dX8_isOpen_19 : decode cX8_isOpen 19 = .ok (.goto 4, 3) := by decide +kernel
theorem dX8_isOpen_22 : decode cX8_isOpen 22 = .ok (.iconst 0, 1) := by decide +kernel
theorem dX8_isOpen_23 : decode cX8_isOpen 23 = .ok (.ireturn, 1) := by decide +kernel
set_option maxRecDepth 20000 in
theorem ggX8_doesDecide_X8_isOpen : GoodIn wsX8_doesDecide wsX8_isOpen := goodIn_r _ [7, 2, 8, 9, 6, 10, 11, 12, 13, 14, 15, 16, 17, 18, 19, 20, 21, 22, 23, 24, 25, 26, 27, 28] (by decide +kernel) (by decide +kernel)
set_option maxRecDepth 20000 in
theorem gX8_doesDecide_X8_isOpen : GoodIn wsX8_doesDecide (wsV RX8 118 RX8 yX8_isOpen wsX8_isOpen) := goodIn_app (goodIn_of _ (by decide +kernel)) ggX8_doesDecide_X8_isOpen
set_option maxRecDepth 20000 in
theorem ggX8_doesDecide_X8_place : GoodIn wsX8_doesDecide wsX8_place := goodIn_r _ [10] (by decide +kernel) (by decide +kernel)
set_option maxRecDepth 20000 in
theorem gX8_doesDecide_X8_place : GoodIn wsX8_doesDecide (va_wsS RX8 92 yX8_place wsX8_place) := goodIn_app (goodIn_of _ (by decide +kernel)) ggX8_doesDecide_X8_place
theorem dX8_doesDecide_0 : decode cX8_doesDecide 0 = .ok (.iconst 0, 1) := by decide +kernel
theorem dX8_doesDecide_1 : decode cX8_doesDecide 1 = .ok (.istore_n 2, 1) := by decide +kernel
theorem dX8_doesDecide_2 : decode cX8_doesDecide 2 = .ok (.iload_n 2, 1) := by decide +kernel
theorem dX8_doesDecide_3 : decode cX8_doesDecide 3 = .ok (.aload_n 0, 1) := by decide +kernel
theorem dX8_doesDecide_4 : decode cX8_doesDecide 4 = .ok (.getfield 83, 3) := by decide +kernel
theorem dX8_doesDecide_7 : decode cX8_doesDecide 7 = .ok (.if_icmp .ge 64, 3) := by decide +kernel
theorem dX8_doesDecide_10 : decode cX8_doesDecide 10 = .ok (.aload_n 0, 1) := by decide +kernel
theorem dX8_doesDecide_11 : decode cX8_doesDecide 11 = .ok (.iload_n 1, 1) := by decide +kernel
theorem dX8_doesDecide_12 : decode cX8_doesDecide 12 = .ok (.iload_n 2, 1) := by decide +kernel
theorem dX8_doesDecide_13 : decode cX8_doesDecide 13 = .ok (.invokevirtual 118, 3) := by decide +kernel
theorem dX8_doesDecide_16 : decode cX8_doesDecide 16 = .ok (.ifCond .eq 49, 3) := by decide +kernel
theorem dX8_doesDecide_19 : decode cX8_doesDecide 19 = .ok (.aload_n 0, 1) := by decide +kernel
theorem dX8_doesDecide_20 : decode cX8_doesDecide 20 = .ok (.getfield 7, 3) := by decide +kernel
theorem dX8_doesDecide_23 : decode cX8_doesDecide 23 = .ok (.iconst 0, 1) := by decide +kernel
theorem dX8_doesDecide_24 : decode cX8_doesDecide 24 = .ok (.iload_n 1, 1) := by decide +kernel
theorem dX8_doesDecide_25 : decode cX8_doesDecide 25 = .ok (.iadd, 1) := by decide +kernel
theorem dX8_doesDecide_26 : decode cX8_doesDecide 26 = .ok (.iaload, 1) := by decide +kernel
theorem dX8_doesDecide_27 : decode cX8_doesDecide 27 = .ok (.istore_n 3, 1) := by decide +kernel
theorem dX8_doesDecide_28 : decode cX8_doesDecide 28 = .ok (.aload_n 0, 1) := by decide +kernel
theorem dX8_doesDecide_29 : decode cX8_doesDecide 29 = .ok (.getfield 7, 3) := by decide +kernel
theorem dX8_doesDecide_32 : decode cX8_doesDecide 32 = .ok (.iload_n 1, 1) := by decide +kernel
theorem dX8_doesDecide_33 : decode cX8_doesDecide 33 = .ok (.iload_n 2, 1) := by decide +kernel
theorem dX8_doesDecide_34 : decode cX8_doesDecide 34 = .ok (.invokestatic 92, 3) := by decide +kernel
theorem dX8_doesDecide_37 : decode cX8_doesDecide 37 = .ok (.bipush 11, 2) := by decide +kernel
theorem dX8_doesDecide_39 : decode cX8_doesDecide 39 = .ok (.iadd, 1) := by decide +kernel
theorem dX8_doesDecide_40 : decode cX8_doesDecide 40 = .ok (.iaload, 1) := by decide +kernel
theorem dX8_doesDecide_41 : decode cX8_doesDecide 41 = .ok (.istore 4, 2) := by decide +kernel
theorem dX8_doesDecide_43 : decode cX8_doesDecide 43 = .ok (.iload_n 3, 1) := by decide +kernel
theorem dX8_doesDecide_44 : decode cX8_doesDecide 44 = .ok (.iload 4, 2) := by decide +kernel
theorem dX8_doesDecide_46 : decode cX8_doesDecide 46 = .ok (.if_icmp .lt 13, 3) := by decide +kernel
theorem dX8_doesDecide_49 : decode cX8_doesDecide 49 = .ok (.iload_n 3, 1) := by decide +kernel
theorem dX8_doesDecide_50 : decode cX8_doesDecide 50 = .ok (.iload 4, 2) := by decide +kernel
theorem dX8_doesDecide_52 : decode cX8_doesDecide 52 = .ok (.if_icmp .ne 11, 3) := by decide +kernel
theorem dX8_doesDecide_55 : decode cX8_doesDecide 55 = .ok (.iload_n 1, 1) := by decide +kernel
theorem dX8_doesDecide_56 : decode cX8_doesDecide 56 = .ok (.ifCond .ne 7, 3) := by decide +kernel
theorem dX8_doesDecide_59 : decode cX8_doesDecide 59 = .ok (.iconst 1, 1) := by decide +kernel
theorem dX8_doesDecide_60 : decode cX8_doesDecide 60 = .ok (.goto 4, 3) := by decide +kernel
theorem dX8_doesDecide_63 : decode cX8_doesDecide 63 = .ok (.iconst 0, 1) := by decide +kernel
theorem dX8_doesDecide_64 : decode cX8_doesDecide 64 = .ok (.ireturn, 1) := by decide +kernel
theorem dX8_doesDecide_65 : decode cX8_doesDecide 65 = .ok (.iinc 2 1, 3) := by decide +kernel
theorem dX8_doesDecide_68 : decode cX8_doesDecide 68 = .ok (.goto (-66), 3) := by decide +kernel
theorem dX8_doesDecide_71 : decode cX8_doesDecide 71 = .ok (.iconst 1, 1) := by decide +kernel
theorem dX8_doesDecide_72 : decode cX8_doesDecide 72 = .ok (.ireturn, 1) := by decide +kernel
set_option maxRecDepth 20000 in
theorem ggX8_isPair_X8_place : GoodIn wsX8_isPair wsX8_place := goodIn_r _ [5] (by decide +kernel) (by decide +kernel)
set_option maxRecDepth 20000 in
theorem gX8_isPair_X8_place : GoodIn wsX8_isPair (va_wsS RX8 92 yX8_place wsX8_place) := goodIn_app (goodIn_of _ (by decide +kernel)) ggX8_isPair_X8_place
theorem dX8_isPair_0 : decode cX8_isPair 0 = .ok (.aload_n 0, 1) := by decide +kernel
theorem dX8_isPair_1 : decode cX8_isPair 1 = .ok (.getfield 7, 3) := by decide +kernel
theorem dX8_isPair_4 : decode cX8_isPair 4 = .ok (.iload_n 1, 1) := by decide +kernel
theorem dX8_isPair_5 : decode cX8_isPair 5 = .ok (.iload_n 2, 1) := by decide +kernel
theorem dX8_isPair_6 : decode cX8_isPair 6 = .ok (.invokestatic 92, 3) := by decide +kernel
theorem dX8_isPair_9 : decode cX8_isPair 9 = .ok (.iconst 0, 1) := by decide +kernel
theorem dX8_isPair_10 : decode cX8_isPair 10 = .ok (.iadd, 1) := by decide +kernel
theorem dX8_isPair_11 : decode cX8_isPair 11 = .ok (.iaload, 1) := by decide +kernel
theorem dX8_isPair_12 : decode cX8_isPair 12 = .ok (.aload_n 0, 1) := by decide +kernel
theorem dX8_isPair_13 : decode cX8_isPair 13 = .ok (.getfield 7, 3) := by decide +kernel
theorem dX8_isPair_16 : decode cX8_isPair 16 = .ok (.iload_n 1, 1) := by decide +kernel
theorem dX8_isPair_17 : decode cX8_isPair 17 = .ok (.iload_n 3, 1) := by decide +kernel
theorem dX8_isPair_18 : decode cX8_isPair 18 = .ok (.invokestatic 92, 3) := by decide +kernel
theorem dX8_isPair_21 : decode cX8_isPair 21 = .ok (.iconst 0, 1) := by decide +kernel
theorem dX8_isPair_22 : decode cX8_isPair 22 = .ok (.iadd, 1) := by decide +kernel
theorem dX8_isPair_23 : decode cX8_isPair 23 = .ok (.iaload, 1) := by decide +kernel
theorem dX8_isPair_24 : decode cX8_isPair 24 = .ok (.if_icmp .ne 36, 3) := by decide +kernel
theorem dX8_isPair_27 : decode cX8_isPair 27 = .ok (.aload_n 0, 1) := by decide +kernel
theorem dX8_isPair_28 : decode cX8_isPair 28 = .ok (.getfield 7, 3) := by decide +kernel
theorem dX8_isPair_31 : decode cX8_isPair 31 = .ok (.iload_n 1, 1) := by decide +kernel
theorem dX8_isPair_32 : decode cX8_isPair 32 = .ok (.iload_n 2, 1) := by decide +kernel
theorem dX8_isPair_33 : decode cX8_isPair 33 = .ok (.invokestatic 92, 3) := by decide +kernel
theorem dX8_isPair_36 : decode cX8_isPair 36 = .ok (.bipush 9, 2) := by decide +kernel
theorem dX8_isPair_38 : decode cX8_isPair 38 = .ok (.iadd, 1) := by decide +kernel
theorem dX8_isPair_39 : decode cX8_isPair 39 = .ok (.iaload, 1) := by decide +kernel
theorem dX8_isPair_40 : decode cX8_isPair 40 = .ok (.aload_n 0, 1) := by decide +kernel
theorem dX8_isPair_41 : decode cX8_isPair 41 = .ok (.getfield 7, 3) := by decide +kernel
theorem dX8_isPair_44 : decode cX8_isPair 44 = .ok (.iload_n 1, 1) := by decide +kernel
theorem dX8_isPair_45 : decode cX8_isPair 45 = .ok (.iload_n 3, 1) := by decide +kernel
theorem dX8_isPair_46 : decode cX8_isPair 46 = .ok (.invokestatic 92, 3) := by decide +kernel
theorem dX8_isPair_49 : decode cX8_isPair 49 = .ok (.bipush 9, 2) := by decide +kernel
theorem dX8_isPair_51 : decode cX8_isPair 51 = .ok (.iadd, 1) := by decide +kernel
theorem dX8_isPair_52 : decode cX8_isPair 52 = .ok (.iaload, 1) := by decide +kernel
theorem dX8_isPair_53 : decode cX8_isPair 53 = .ok (.if_icmp .ne 7, 3) := by decide +kernel
theorem dX8_isPair_56 : decode cX8_isPair 56 = .ok (.iconst 1, 1) := by decide +kernel
theorem dX8_isPair_57 : decode cX8_isPair 57 = .ok (.goto 4, 3) := by decide +kernel
theorem dX8_isPair_60 : decode cX8_isPair 60 = .ok (.iconst 0, 1) := by decide +kernel
theorem dX8_isPair_61 : decode cX8_isPair 61 = .ok (.ireturn, 1) := by decide +kernel
set_option maxRecDepth 20000 in
theorem ggX8_ahead_X8_place : GoodIn wsX8_ahead wsX8_place := goodIn_r _ [6] (by decide +kernel) (by decide +kernel)
set_option maxRecDepth 20000 in
theorem gX8_ahead_X8_place : GoodIn wsX8_ahead (va_wsS RX8 92 yX8_place wsX8_place) := goodIn_app (goodIn_of _ (by decide +kernel)) ggX8_ahead_X8_place
set_option maxRecDepth 20000 in
theorem ggX8_ahead_X8_isOpen : GoodIn wsX8_ahead wsX8_isOpen := goodIn_r _ [10, 1, 3, 4, 5, 6, 15, 16, 17, 18, 19, 20, 21, 22, 23, 24, 25, 26, 27, 28, 29, 30, 31, 32] (by decide +kernel) (by decide +kernel)
set_option maxRecDepth 20000 in
theorem gX8_ahead_X8_isOpen : GoodIn wsX8_ahead (wsV RX8 118 RX8 yX8_isOpen wsX8_isOpen) := goodIn_app (goodIn_of _ (by decide +kernel)) ggX8_ahead_X8_isOpen
set_option maxRecDepth 20000 in
theorem ggX8_ahead_X8_isPair : GoodIn wsX8_ahead wsX8_isPair := goodIn_r _ [14, 1, 3, 4, 5, 6, 15, 16, 17, 18, 19, 20, 21, 22, 23, 24, 25, 26, 27, 28, 29, 30, 31, 32] (by decide +kernel) (by decide +kernel)
set_option maxRecDepth 20000 in
theorem gX8_ahead_X8_isPair : GoodIn wsX8_ahead (wsV RX8 122 RX8 yX8_isPair wsX8_isPair) := goodIn_app (goodIn_of _ (by decide +kernel)) ggX8_ahead_X8_isPair
theorem dX8_ahead_0 : decode cX8_ahead 0 = .ok (.iconst 0, 1) := by decide +kernel
theorem dX8_ahead_1 : decode cX8_ahead 1 = .ok (.istore 5, 2) := by decide +kernel
theorem dX8_ahead_3 : decode cX8_ahead 3 = .ok (.aload_n 0, 1) := by decide +kernel
theorem dX8_ahead_4 : decode cX8_ahead 4 = .ok (.getfield 7, 3) := by decide +kernel
theorem dX8_ahead_7 : decode cX8_ahead 7 = .ok (.iload_n 1, 1) := by decide +kernel
theorem dX8_ahead_8 : decode cX8_ahead 8 = .ok (.iload_n 2, 1) := by decide +kernel
theorem dX8_ahead_9 : decode cX8_ahead 9 = .ok (.invokestatic 92, 3) := by decide +kernel
theorem dX8_ahead_12 : decode cX8_ahead 12 = .ok (.iload_n 3, 1) := by decide +kernel
theorem dX8_ahead_13 : decode cX8_ahead 13 = .ok (.iadd, 1) := by decide +kernel
theorem dX8_ahead_14 : decode cX8_ahead 14 = .ok (.iaload, 1) := by decide +kernel
theorem dX8_ahead_15 : decode cX8_ahead 15 = .ok (.istore 6, 2) := by decide +kernel
theorem dX8_ahead_17 : decode cX8_ahead 17 = .ok (.iconst 0, 1) := by decide +kernel
theorem dX8_ahead_18 : decode cX8_ahead 18 = .ok (.istore 7, 2) := by decide +kernel
theorem dX8_ahead_20 : decode cX8_ahead 20 = .ok (.iload 7, 2) := by decide +kernel
theorem dX8_ahead_22 : decode cX8_ahead 22 = .ok (.aload_n 0, 1) := by decide +kernel
theorem dX8_ahead_23 : decode cX8_ahead 23 = .ok (.getfield 83, 3) := by decide +kernel
theorem dX8_ahead_26 : decode cX8_ahead 26 = .ok (.if_icmp .ge 92, 3) := by decide +kernel
theorem dX8_ahead_29 : decode cX8_ahead 29 = .ok (.aload_n 0, 1) := by decide +kernel
theorem dX8_ahead_30 : decode cX8_ahead 30 = .ok (.getfield 7, 3) := by decide +kernel
theorem dX8_ahead_33 : decode cX8_ahead 33 = .ok (.iload_n 1, 1) := by decide +kernel
theorem dX8_ahead_34 : decode cX8_ahead 34 = .ok (.iload 7, 2) := by decide +kernel
theorem dX8_ahead_36 : decode cX8_ahead 36 = .ok (.invokestatic 92, 3) := by decide +kernel
theorem dX8_ahead_39 : decode cX8_ahead 39 = .ok (.iload_n 3, 1) := by decide +kernel
theorem dX8_ahead_40 : decode cX8_ahead 40 = .ok (.iadd, 1) := by decide +kernel
theorem dX8_ahead_41 : decode cX8_ahead 41 = .ok (.iaload, 1) := by decide +kernel
theorem dX8_ahead_42 : decode cX8_ahead 42 = .ok (.istore 8, 2) := by decide +kernel
theorem dX8_ahead_44 : decode cX8_ahead 44 = .ok (.aload_n 0, 1) := by decide +kernel
theorem dX8_ahead_45 : decode cX8_ahead 45 = .ok (.iload_n 1, 1) := by decide +kernel
theorem dX8_ahead_46 : decode cX8_ahead 46 = .ok (.iload 7, 2) := by decide +kernel
theorem dX8_ahead_48 : decode cX8_ahead 48 = .ok (.invokevirtual 118, 3) := by decide +kernel
theorem dX8_ahead_51 : decode cX8_ahead 51 = .ok (.ifCond .eq 27, 3) := by decide +kernel
theorem dX8_ahead_54 : decode cX8_ahead 54 = .ok (.iload 8, 2) := by decide +kernel
theorem dX8_ahead_56 : decode cX8_ahead 56 = .ok (.iload 6, 2) := by decide +kernel
theorem dX8_ahead_58 : decode cX8_ahead 58 = .ok (.if_icmp .lt 16, 3) := by decide +kernel
theorem dX8_ahead_61 : decode cX8_ahead 61 = .ok (.iload 8, 2) := by decide +kernel
theorem dX8_ahead_63 : decode cX8_ahead 63 = .ok (.iload 6, 2) := by decide +kernel
theorem dX8_ahead_65 : decode cX8_ahead 65 = .ok (.if_icmp .ne 13, 3) := by decide +kernel
theorem dX8_ahead_68 : decode cX8_ahead 68 = .ok (.iload 7, 2) := by decide +kernel
theorem dX8_ahead_70 : decode cX8_ahead 70 = .ok (.iload_n 2, 1) := by decide +kernel
theorem dX8_ahead_71 : decode cX8_ahead 71 = .ok (.if_icmp .ge 7, 3) := by decide +kernel
theorem dX8_ahead_74 : decode cX8_ahead 74 = .ok (.iconst 1, 1) := by decide +kernel
theorem dX8_ahead_75 : decode cX8_ahead 75 = .ok (.goto 4, 3) := by decide +kernel
theorem dX8_ahead_78 : decode cX8_ahead 78 = .ok (.iconst 0, 1) := by decide +kernel
theorem dX8_ahead_79 : decode cX8_ahead 79 = .ok (.istore 9, 2) := by decide +kernel
theorem dX8_ahead_81 : decode cX8_ahead 81 = .ok (.iload 5, 2) := by decide +kernel
theorem dX8_ahead_83 : decode cX8_ahead 83 = .ok (.iload 9, 2) := by decide +kernel
theorem dX8_ahead_85 : decode cX8_ahead 85 = .ok (.ifCond .eq 23, 3) := by decide +kernel
theorem dX8_ahead_88 : decode cX8_ahead 88 = .ok (.iload 4, 2) := by decide +kernel
theorem dX8_ahead_90 : decode cX8_ahead 90 = .ok (.ifCond .ne 14, 3) := by decide +kernel
theorem dX8_ahead_93 : decode cX8_ahead 93 = .ok (.aload_n 0, 1) := by decide +kernel
theorem dX8_ahead_94 : decode cX8_ahead 94 = .ok (.iload_n 1, 1) := by decide +kernel
theorem dX8_ahead_95 : decode cX8_ahead 95 = .ok (.iload_n 2, 1) := by decide +kernel
theorem dX8_ahead_96 : decode cX8_ahead 96 = .ok (.iload 7, 2) := by decide +kernel
theorem dX8_ahead_98 : decode cX8_ahead 98 = .ok (.invokevirtual 122, 3) := by decide +kernel
theorem dX8_ahead_101 : decode cX8_ahead 101 = .ok (.ifCond .eq 7, 3) := by decide +kernel
theorem dX8_ahead_104 : decode cX8_ahead 104 = .ok (.iconst 1, 1) := by decide +kernel
theorem dX8_ahead_105 : decode cX8_ahead 105 = .ok (.goto 4, 3) := by decide +kernel
theorem dX8_ahead_108 : decode cX8_ahead 108 = .ok (.iconst 0, 1) := by decide +kernel
theorem dX8_ahead_109 : decode cX8_ahead 109 = .ok (.iadd, 1) := by decide +kernel
theorem dX8_ahead_110 : decode cX8_ahead 110 = .ok (.istore 5, 2) := by decide +kernel
theorem dX8_ahead_112 : decode cX8_ahead 112 = .ok (.iinc 7 1, 3) := by decide +kernel
theorem dX8_ahead_115 : decode cX8_ahead 115 = .ok (.goto (-95), 3) := by decide +kernel
theorem dX8_ahead_118 : decode cX8_ahead 118 = .ok (.iload 5, 2) := by decide +kernel
theorem dX8_ahead_120 : decode cX8_ahead 120 = .ok (.ireturn, 1) := by decide +kernel
set_option maxRecDepth 20000 in
theorem ggX8_chooses_X8_doesDecide : GoodIn wsX8_chooses wsX8_doesDecide := goodIn_r _ [8, 1, 3, 9, 10, 11, 7, 12, 13, 14, 15, 24, 25, 26, 27, 28, 29, 30, 31, 32, 33, 34, 35, 36, 37, 38, 39, 40, 41] (by decide +kernel) (by decide +kernel)
set_option maxRecDepth 20000 in
theorem gX8_chooses_X8_doesDecide : GoodIn wsX8_chooses (wsV RX8 125 RX8 yX8_doesDecide wsX8_doesDecide) := goodIn_app (goodIn_of _ (by decide +kernel)) ggX8_chooses_X8_doesDecide
set_option maxRecDepth 20000 in
theorem ggX8_chooses_X8_isOpen : GoodIn wsX8_chooses wsX8_isOpen := goodIn_r _ [12, 3, 13, 14, 7, 15, 24, 25, 26, 27, 28, 29, 30, 31, 32, 33, 34, 35, 36, 37, 38, 39, 40, 41] (by decide +kernel) (by decide +kernel)
set_option maxRecDepth 20000 in
theorem gX8_chooses_X8_isOpen : GoodIn wsX8_chooses (wsV RX8 118 RX8 yX8_isOpen wsX8_isOpen) := goodIn_app (goodIn_of _ (by decide +kernel)) ggX8_chooses_X8_isOpen
set_option maxRecDepth 20000 in
theorem ggX8_chooses_X8_ahead : GoodIn wsX8_chooses wsX8_ahead := goodIn_r _ [19, 3, 1, 13, 14, 7, 15, 9, 10, 11, 12, 20, 21, 22, 23, 24, 25, 26, 27, 28, 29, 30, 31, 32, 33, 34, 35, 36, 37, 38, 39, 40, 41] (by decide +kernel) (by decide +kernel)
set_option maxRecDepth 20000 in
theorem gX8_chooses_X8_ahead : GoodIn wsX8_chooses (wsV RX8 128 RX8 yX8_ahead wsX8_ahead) := goodIn_app (goodIn_of _ (by decide +kernel)) ggX8_chooses_X8_ahead
set_option maxRecDepth 20000 in
theorem ggX8_chooses_X8_isPair : GoodIn wsX8_chooses wsX8_isPair := goodIn_r _ [23, 3, 13, 14, 7, 15, 24, 25, 26, 27, 28, 29, 30, 31, 32, 33, 34, 35, 36, 37, 38, 39, 40, 41] (by decide +kernel) (by decide +kernel)
set_option maxRecDepth 20000 in
theorem gX8_chooses_X8_isPair : GoodIn wsX8_chooses (wsV RX8 122 RX8 yX8_isPair wsX8_isPair) := goodIn_app (goodIn_of _ (by decide +kernel)) ggX8_chooses_X8_isPair
theorem dX8_chooses_0 : decode cX8_chooses 0 = .ok (.aload_n 0, 1) := by decide +kernel
theorem dX8_chooses_1 : decode cX8_chooses 1 = .ok (.iload_n 1, 1) := by decide +kernel
theorem dX8_chooses_2 : decode cX8_chooses 2 = .ok (.invokevirtual 125, 3) := by decide +kernel
theorem dX8_chooses_5 : decode cX8_chooses 5 = .ok (.ifCond .eq 7, 3) := by decide +kernel
theorem dX8_chooses_8 : decode cX8_chooses 8 = .ok (.iconst 1, 1) := by decide +kernel
theorem dX8_chooses_9 : decode cX8_chooses 9 = .ok (.goto 5, 3) := by decide +kernel
theorem dX8_chooses_12 : decode cX8_chooses 12 = .ok (.bipush 10, 2) := by decide +kernel
theorem dX8_chooses_14 : decode cX8_chooses 14 = .ok (.istore_n 2, 1) := by decide +kernel
theorem dX8_chooses_15 : decode cX8_chooses 15 = .ok (.bipush (-4), 2) := by decide +kernel
theorem dX8_chooses_17 : decode cX8_chooses 17 = .ok (.istore_n 3, 1) := by decide +kernel
theorem dX8_chooses_18 : decode cX8_chooses 18 = .ok (.iconst 0, 1) := by decide +kernel
theorem dX8_chooses_19 : decode cX8_chooses 19 = .ok (.istore 4, 2) := by decide +kernel
theorem dX8_chooses_21 : decode cX8_chooses 21 = .ok (.iload 4, 2) := by decide +kernel
theorem dX8_chooses_23 : decode cX8_chooses 23 = .ok (.aload_n 0, 1) := by decide +kernel
theorem dX8_chooses_24 : decode cX8_chooses 24 = .ok (.getfield 83, 3) := by decide +kernel
theorem dX8_chooses_27 : decode cX8_chooses 27 = .ok (.if_icmp .ge 38, 3) := by decide +kernel
theorem dX8_chooses_30 : decode cX8_chooses 30 = .ok (.aload_n 0, 1) := by decide +kernel
theorem dX8_chooses_31 : decode cX8_chooses 31 = .ok (.iload_n 1, 1) := by decide +kernel
theorem dX8_chooses_32 : decode cX8_chooses 32 = .ok (.iload 4, 2) := by decide +kernel
theorem dX8_chooses_34 : decode cX8_chooses 34 = .ok (.invokevirtual 118, 3) := by decide +kernel
theorem dX8_chooses_37 : decode cX8_chooses 37 = .ok (.ifCond .eq 20, 3) := by decide +kernel
theorem dX8_chooses_40 : decode cX8_chooses 40 = .ok (.aload_n 0, 1) := by decide +kernel
theorem dX8_chooses_41 : decode cX8_chooses 41 = .ok (.iload_n 1, 1) := by decide +kernel
theorem dX8_chooses_42 : decode cX8_chooses 42 = .ok (.iload 4, 2) := by decide +kernel
theorem dX8_chooses_44 : decode cX8_chooses 44 = .ok (.iload_n 2, 1) := by decide +kernel
theorem dX8_chooses_45 : decode cX8_chooses 45 = .ok (.iconst 1, 1) := by decide +kernel
theorem dX8_chooses_46 : decode cX8_chooses 46 = .ok (.invokevirtual 128, 3) := by decide +kernel
theorem dX8_chooses_49 : decode cX8_chooses 49 = .ok (.ifCond .ne 8, 3) := by decide +kernel
theorem dX8_chooses_52 : decode cX8_chooses 52 = .ok (.iload 4, 2) := by decide +kernel
theorem dX8_chooses_54 : decode cX8_chooses 54 = .ok (.goto 4, 3) := by decide +kernel
theorem dX8_chooses_57 : decode cX8_chooses 57 = .ok (.iload_n 3, 1) := by decide +kernel
theorem dX8_chooses_58 : decode cX8_chooses 58 = .ok (.istore_n 3, 1) := by decide +kernel
theorem dX8_chooses_59 : decode cX8_chooses 59 = .ok (.iinc 4 1, 3) := by decide +kernel
theorem dX8_chooses_62 : decode cX8_chooses 62 = .ok (.goto (-41), 3) := by decide +kernel
theorem dX8_chooses_65 : decode cX8_chooses 65 = .ok (.iconst 0, 1) := by decide +kernel
theorem dX8_chooses_66 : decode cX8_chooses 66 = .ok (.istore 4, 2) := by decide +kernel
theorem dX8_chooses_68 : decode cX8_chooses 68 = .ok (.iload 4, 2) := by decide +kernel
theorem dX8_chooses_70 : decode cX8_chooses 70 = .ok (.aload_n 0, 1) := by decide +kernel
theorem dX8_chooses_71 : decode cX8_chooses 71 = .ok (.getfield 83, 3) := by decide +kernel
theorem dX8_chooses_74 : decode cX8_chooses 74 = .ok (.if_icmp .ge 60, 3) := by decide +kernel
theorem dX8_chooses_77 : decode cX8_chooses 77 = .ok (.aload_n 0, 1) := by decide +kernel
theorem dX8_chooses_78 : decode cX8_chooses 78 = .ok (.getfield 37, 3) := by decide +kernel
theorem dX8_chooses_81 : decode cX8_chooses 81 = .ok (.iload 4, 2) := by decide +kernel
theorem dX8_chooses_83 : decode cX8_chooses 83 = .ok (.aload_n 0, 1) := by decide +kernel
theorem dX8_chooses_84 : decode cX8_chooses 84 = .ok (.iload_n 1, 1) := by decide +kernel
theorem dX8_chooses_85 : decode cX8_chooses 85 = .ok (.iload 4, 2) := by decide +kernel
theorem dX8_chooses_87 : decode cX8_chooses 87 = .ok (.invokevirtual 118, 3) := by decide +kernel
theorem dX8_chooses_90 : decode cX8_chooses 90 = .ok (.ifCond .eq 36, 3) := by decide +kernel
theorem dX8_chooses_93 : decode cX8_chooses 93 = .ok (.aload_n 0, 1) := by decide +kernel
theorem dX8_chooses_94 : decode cX8_chooses 94 = .ok (.iload_n 1, 1) := by decide +kernel
theorem dX8_chooses_95 : decode cX8_chooses 95 = .ok (.iload 4, 2) := by decide +kernel
theorem dX8_chooses_97 : decode cX8_chooses 97 = .ok (.iload_n 3, 1) := by decide +kernel
theorem dX8_chooses_98 : decode cX8_chooses 98 = .ok (.invokevirtual 122, 3) := by decide +kernel
theorem dX8_chooses_101 : decode cX8_chooses 101 = .ok (.ifCond .eq 25, 3) := by decide +kernel
theorem dX8_chooses_104 : decode cX8_chooses 104 = .ok (.aload_n 0, 1) := by decide +kernel
theorem dX8_chooses_105 : decode cX8_chooses 105 = .ok (.iload_n 1, 1) := by decide +kernel
theorem dX8_chooses_106 : decode cX8_chooses 106 = .ok (.iload 4, 2) := by decide +kernel
theorem dX8_chooses_108 : decode cX8_chooses 108 = .ok (.iload_n 2, 1) := by decide +kernel
theorem dX8_chooses_109 : decode cX8_chooses 109 = .ok (.iconst 0, 1) := by decide +kernel
theorem dX8_chooses_110 : decode cX8_chooses 110 = .ok (.invokevirtual 128, 3) := by decide +kernel
theorem dX8_chooses_113 : decode cX8_chooses 113 = .ok (.aload_n 0, 1) := by decide +kernel
theorem dX8_chooses_114 : decode cX8_chooses 114 = .ok (.getfield 7, 3) := by decide +kernel
theorem dX8_chooses_117 : decode cX8_chooses 117 = .ok (.iconst 2, 1) := by decide +kernel
theorem dX8_chooses_118 : decode cX8_chooses 118 = .ok (.iaload, 1) := by decide +kernel
theorem dX8_chooses_119 : decode cX8_chooses 119 = .ok (.if_icmp .ge 7, 3) := by decide +kernel
theorem dX8_chooses_122 : decode cX8_chooses 122 = .ok (.iconst 1, 1) := by decide +kernel
theorem dX8_chooses_123 : decode cX8_chooses 123 = .ok (.goto 4, 3) := by decide +kernel
theorem dX8_chooses_126 : decode cX8_chooses 126 = .ok (.iconst 0, 1) := by decide +kernel
theorem dX8_chooses_127 : decode cX8_chooses 127 = .ok (.bastore, 1) := by decide +kernel
theorem dX8_chooses_128 : decode cX8_chooses 128 = .ok (.iinc 4 1, 3) := by decide +kernel
theorem dX8_chooses_131 : decode cX8_chooses 131 = .ok (.goto (-63), 3) := by decide +kernel
theorem dX8_chooses_134 : decode cX8_chooses 134 = .ok (.return_, 1) := by decide +kernel
theorem dX8_howOf_0 : decode cX8_howOf 0 = .ok (.aload_n 0, 1) := by decide +kernel
theorem dX8_howOf_1 : decode cX8_howOf 1 = .ok (.getfield 7, 3) := by decide +kernel
theorem dX8_howOf_4 : decode cX8_howOf 4 = .ok (.iconst 4, 1) := by decide +kernel
theorem dX8_howOf_5 : decode cX8_howOf 5 = .ok (.iload_n 2, 1) := by decide +kernel
theorem dX8_howOf_6 : decode cX8_howOf 6 = .ok (.iadd, 1) := by decide +kernel
theorem dX8_howOf_7 : decode cX8_howOf 7 = .ok (.iaload, 1) := by decide +kernel
theorem dX8_howOf_8 : decode cX8_howOf 8 = .ok (.ifCond .ne 5, 3) := by decide +kernel
theorem dX8_howOf_11 : decode cX8_howOf 11 = .ok (.iconst 0, 1) := by decide +kernel
theorem dX8_howOf_12 : decode cX8_howOf 12 = .ok (.ireturn, 1) := by decide +kernel
theorem dX8_howOf_13 : decode cX8_howOf 13 = .ok (.aload_n 0, 1) := by decide +kernel
theorem dX8_howOf_14 : decode cX8_howOf 14 = .ok (.getfield 7, 3) := by decide +kernel
theorem dX8_howOf_17 : decode cX8_howOf 17 = .ok (.iload_n 1, 1) := by decide +kernel
theorem dX8_howOf_18 : decode cX8_howOf 18 = .ok (.bipush 8, 2) := by decide +kernel
theorem dX8_howOf_20 : decode cX8_howOf 20 = .ok (.iadd, 1) := by decide +kernel
theorem dX8_howOf_21 : decode cX8_howOf 21 = .ok (.iaload, 1) := by decide +kernel
theorem dX8_howOf_22 : decode cX8_howOf 22 = .ok (.bipush (-4), 2) := by decide +kernel
theorem dX8_howOf_24 : decode cX8_howOf 24 = .ok (.if_icmp .ne 5, 3) := by decide +kernel
theorem dX8_howOf_27 : decode cX8_howOf 27 = .ok (.iconst 1, 1) := by decide +kernel
theorem dX8_howOf_28 : decode cX8_howOf 28 = .ok (.ireturn, 1) := by decide +kernel
theorem dX8_howOf_29 : decode cX8_howOf 29 = .ok (.aload_n 0, 1) := by decide +kernel
theorem dX8_howOf_30 : decode cX8_howOf 30 = .ok (.getfield 7, 3) := by decide +kernel
theorem dX8_howOf_33 : decode cX8_howOf 33 = .ok (.iload_n 1, 1) := by decide +kernel
theorem dX8_howOf_34 : decode cX8_howOf 34 = .ok (.bipush 13, 2) := by decide +kernel
theorem dX8_howOf_36 : decode cX8_howOf 36 = .ok (.iadd, 1) := by decide +kernel
theorem dX8_howOf_37 : decode cX8_howOf 37 = .ok (.iaload, 1) := by decide +kernel
theorem dX8_howOf_38 : decode cX8_howOf 38 = .ok (.bipush (-4), 2) := by decide +kernel
theorem dX8_howOf_40 : decode cX8_howOf 40 = .ok (.if_icmp .ne 5, 3) := by decide +kernel
theorem dX8_howOf_43 : decode cX8_howOf 43 = .ok (.iconst 2, 1) := by decide +kernel
theorem dX8_howOf_44 : decode cX8_howOf 44 = .ok (.ireturn, 1) := by decide +kernel
theorem dX8_howOf_45 : decode cX8_howOf 45 = .ok (.aload_n 0, 1) := by decide +kernel
theorem dX8_howOf_46 : decode cX8_howOf 46 = .ok (.getfield 7, 3) := by decide +kernel
theorem dX8_howOf_49 : decode cX8_howOf 49 = .ok (.iload_n 1, 1) := by decide +kernel
theorem dX8_howOf_50 : decode cX8_howOf 50 = .ok (.bipush 13, 2) := by decide +kernel
theorem dX8_howOf_52 : decode cX8_howOf 52 = .ok (.iadd, 1) := by decide +kernel
theorem dX8_howOf_53 : decode cX8_howOf 53 = .ok (.iaload, 1) := by decide +kernel
theorem dX8_howOf_54 : decode cX8_howOf 54 = .ok (.aload_n 0, 1) := by decide +kernel
theorem dX8_howOf_55 : decode cX8_howOf 55 = .ok (.getfield 86, 3) := by decide +kernel
theorem dX8_howOf_58 : decode cX8_howOf 58 = .ok (.if_icmp .ge 7, 3) := by decide +kernel
theorem dX8_howOf_61 : decode cX8_howOf 61 = .ok (.iconst 3, 1) := by decide +kernel
theorem dX8_howOf_62 : decode cX8_howOf 62 = .ok (.goto 20, 3) := by decide +kernel
theorem dX8_howOf_65 : decode cX8_howOf 65 = .ok (.aload_n 0, 1) := by decide +kernel
theorem dX8_howOf_66 : decode cX8_howOf 66 = .ok (.getfield 7, 3) := by decide +kernel
theorem dX8_howOf_69 : decode cX8_howOf 69 = .ok (.iload_n 1, 1) := by decide +kernel
theorem dX8_howOf_70 : decode cX8_howOf 70 = .ok (.bipush 12, 2) := by decide +kernel
theorem dX8_howOf_72 : decode cX8_howOf 72 = .ok (.iadd, 1) := by decide +kernel
theorem dX8_howOf_73 : decode cX8_howOf 73 = .ok (.iaload, 1) := by decide +kernel
theorem dX8_howOf_74 : decode cX8_howOf 74 = .ok (.ifCond .ne 7, 3) := by decide +kernel
theorem dX8_howOf_77 : decode cX8_howOf 77 = .ok (.iconst 4, 1) := by decide +kernel
theorem dX8_howOf_78 : decode cX8_howOf 78 = .ok (.goto 4, 3) := by decide +kernel
theorem dX8_howOf_81 : decode cX8_howOf 81 = .ok (.iconst 5, 1) := by decide +kernel
theorem dX8_howOf_82 : decode cX8_howOf 82 = .ok (.ireturn, 1) := by decide +kernel
set_option maxRecDepth 20000 in
theorem ggX8_becomesHow_X8_chooses : GoodIn wsX8_becomesHow wsX8_chooses := goodIn_r _ [8, 1, 3, 2, 9, 10, 11, 7, 12, 13, 14, 15, 16, 17, 18, 19, 20, 21, 22, 23, 24, 25, 26, 27, 33, 34, 35, 36, 37, 38, 39, 40, 41, 42, 43, 44, 45, 46, 47, 48, 49, 50] (by decide +kernel) (by decide +kernel)
set_option maxRecDepth 20000 in
theorem gX8_becomesHow_X8_chooses : GoodIn wsX8_becomesHow (wsV RX8 132 RX8 yX8_chooses wsX8_chooses) := goodIn_app (goodIn_of _ (by decide +kernel)) ggX8_becomesHow_X8_chooses
set_option maxRecDepth 20000 in
theorem ggX8_becomesHow_X8_place : GoodIn wsX8_becomesHow wsX8_place := goodIn_r _ [19] (by decide +kernel) (by decide +kernel)
set_option maxRecDepth 20000 in
theorem gX8_becomesHow_X8_place : GoodIn wsX8_becomesHow (va_wsS RX8 92 yX8_place wsX8_place) := goodIn_app (goodIn_of _ (by decide +kernel)) ggX8_becomesHow_X8_place
set_option maxRecDepth 20000 in
theorem ggX8_becomesHow_X8_howOf : GoodIn wsX8_becomesHow wsX8_howOf := goodIn_r _ [31, 2, 32, 33, 34, 35, 36, 37, 38, 39, 40, 41, 42, 43, 44, 45, 46, 47, 48, 49, 50] (by decide +kernel) (by decide +kernel)
set_option maxRecDepth 20000 in
theorem gX8_becomesHow_X8_howOf : GoodIn wsX8_becomesHow (wsV RX8 135 RX8 yX8_howOf wsX8_howOf) := goodIn_app (goodIn_of _ (by decide +kernel)) ggX8_becomesHow_X8_howOf
theorem dX8_becomesHow_0 : decode cX8_becomesHow 0 = .ok (.aload_n 0, 1) := by decide +kernel
theorem dX8_becomesHow_1 : decode cX8_becomesHow 1 = .ok (.iload_n 1, 1) := by decide +kernel
theorem dX8_becomesHow_2 : decode cX8_becomesHow 2 = .ok (.invokevirtual 132, 3) := by decide +kernel
theorem dX8_becomesHow_5 : decode cX8_becomesHow 5 = .ok (.iconst 0, 1) := by decide +kernel
theorem dX8_becomesHow_6 : decode cX8_becomesHow 6 = .ok (.istore_n 2, 1) := by decide +kernel
theorem dX8_becomesHow_7 : decode cX8_becomesHow 7 = .ok (.iload_n 2, 1) := by decide +kernel
theorem dX8_becomesHow_8 : decode cX8_becomesHow 8 = .ok (.aload_n 0, 1) := by decide +kernel
theorem dX8_becomesHow_9 : decode cX8_becomesHow 9 = .ok (.getfield 83, 3) := by decide +kernel
theorem dX8_becomesHow_12 : decode cX8_becomesHow 12 = .ok (.if_icmp .ge 129, 3) := by decide +kernel
theorem dX8_becomesHow_15 : decode cX8_becomesHow 15 = .ok (.iload_n 1, 1) := by decide +kernel
theorem dX8_becomesHow_16 : decode cX8_becomesHow 16 = .ok (.iload_n 2, 1) := by decide +kernel
theorem dX8_becomesHow_17 : decode cX8_becomesHow 17 = .ok (.invokestatic 92, 3) := by decide +kernel
theorem dX8_becomesHow_20 : decode cX8_becomesHow 20 = .ok (.istore_n 3, 1) := by decide +kernel
theorem dX8_becomesHow_21 : decode cX8_becomesHow 21 = .ok (.aload_n 0, 1) := by decide +kernel
theorem dX8_becomesHow_22 : decode cX8_becomesHow 22 = .ok (.getfield 7, 3) := by decide +kernel
theorem dX8_becomesHow_25 : decode cX8_becomesHow 25 = .ok (.iload_n 3, 1) := by decide +kernel
theorem dX8_becomesHow_26 : decode cX8_becomesHow 26 = .ok (.bipush 13, 2) := by decide +kernel
theorem dX8_becomesHow_28 : decode cX8_becomesHow 28 = .ok (.iadd, 1) := by decide +kernel
theorem dX8_becomesHow_29 : decode cX8_becomesHow 29 = .ok (.aload_n 0, 1) := by decide +kernel
theorem dX8_becomesHow_30 : decode cX8_becomesHow 30 = .ok (.getfield 37, 3) := by decide +kernel
theorem dX8_becomesHow_33 : decode cX8_becomesHow 33 = .ok (.iload_n 2, 1) := by decide +kernel
theorem dX8_becomesHow_34 : decode cX8_becomesHow 34 = .ok (.baload, 1) := by decide +kernel
theorem dX8_becomesHow_35 : decode cX8_becomesHow 35 = .ok (.ifCond .ne 8, 3) := by decide +kernel
theorem dX8_becomesHow_38 : decode cX8_becomesHow 38 = .ok (.bipush (-4), 2) := by decide +kernel
theorem dX8_becomesHow_40 : decode cX8_becomesHow 40 = .ok (.goto 32, 3) := by decide +kernel
theorem dX8_becomesHow_43 : decode cX8_becomesHow 43 = .ok (.aload_n 0, 1) := by decide +kernel
theorem dX8_becomesHow_44 : decode cX8_becomesHow 44 = .ok (.getfield 7, 3) := by decide +kernel
theorem dX8_becomesHow_47 : decode cX8_becomesHow 47 = .ok (.iload_n 3, 1) := by decide +kernel
theorem dX8_becomesHow_48 : decode cX8_becomesHow 48 = .ok (.bipush 13, 2) := by decide +kernel
theorem dX8_becomesHow_50 : decode cX8_becomesHow 50 = .ok (.iadd, 1) := by decide +kernel
theorem dX8_becomesHow_51 : decode cX8_becomesHow 51 = .ok (.iaload, 1) := by decide +kernel
theorem dX8_becomesHow_52 : decode cX8_becomesHow 52 = .ok (.bipush (-4), 2) := by decide +kernel
theorem dX8_becomesHow_54 : decode cX8_becomesHow 54 = .ok (.if_icmp .ne 7, 3) := by decide +kernel
theorem dX8_becomesHow_57 : decode cX8_becomesHow 57 = .ok (.iconst 0, 1) := by decide +kernel
theorem dX8_becomesHow_58 : decode cX8_becomesHow 58 = .ok (.goto 14, 3) := by decide +kernel
theorem dX8_becomesHow_61 : decode cX8_becomesHow 61 = .ok (.aload_n 0, 1) := by decide +kernel
theorem dX8_becomesHow_62 : decode cX8_becomesHow 62 = .ok (.getfield 7, 3) := by decide +kernel
theorem dX8_becomesHow_65 : decode cX8_becomesHow 65 = .ok (.iload_n 3, 1) := by decide +kernel
theorem dX8_becomesHow_66 : decode cX8_becomesHow 66 = .ok (.bipush 13, 2) := by decide +kernel
theorem dX8_becomesHow_68 : decode cX8_becomesHow 68 = .ok (.iadd, 1) := by decide +kernel
theorem dX8_becomesHow_69 : decode cX8_becomesHow 69 = .ok (.iaload, 1) := by decide +kernel
theorem dX8_becomesHow_70 : decode cX8_becomesHow 70 = .ok (.iconst 1, 1) := by decide +kernel
theorem dX8_becomesHow_71 : decode cX8_becomesHow 71 = .ok (.iadd, 1) := by decide +kernel
theorem dX8_becomesHow_72 : decode cX8_becomesHow 72 = .ok (.iastore, 1) := by decide +kernel
theorem dX8_becomesHow_73 : decode cX8_becomesHow 73 = .ok (.aload_n 0, 1) := by decide +kernel
theorem dX8_becomesHow_74 : decode cX8_becomesHow 74 = .ok (.getfield 7, 3) := by decide +kernel
theorem dX8_becomesHow_77 : decode cX8_becomesHow 77 = .ok (.iload_n 3, 1) := by decide +kernel
theorem dX8_becomesHow_78 : decode cX8_becomesHow 78 = .ok (.bipush 14, 2) := by decide +kernel
theorem dX8_becomesHow_80 : decode cX8_becomesHow 80 = .ok (.iadd, 1) := by decide +kernel
theorem dX8_becomesHow_81 : decode cX8_becomesHow 81 = .ok (.iaload, 1) := by decide +kernel
theorem dX8_becomesHow_82 : decode cX8_becomesHow 82 = .ok (.istore 4, 2) := by decide +kernel
theorem dX8_becomesHow_84 : decode cX8_becomesHow 84 = .ok (.aload_n 0, 1) := by decide +kernel
theorem dX8_becomesHow_85 : decode cX8_becomesHow 85 = .ok (.getfield 7, 3) := by decide +kernel
theorem dX8_becomesHow_88 : decode cX8_becomesHow 88 = .ok (.iload_n 3, 1) := by decide +kernel
theorem dX8_becomesHow_89 : decode cX8_becomesHow 89 = .ok (.bipush 14, 2) := by decide +kernel
theorem dX8_becomesHow_91 : decode cX8_becomesHow 91 = .ok (.iadd, 1) := by decide +kernel
theorem dX8_becomesHow_92 : decode cX8_becomesHow 92 = .ok (.aload_n 0, 1) := by decide +kernel
theorem dX8_becomesHow_93 : decode cX8_becomesHow 93 = .ok (.iload_n 3, 1) := by decide +kernel
theorem dX8_becomesHow_94 : decode cX8_becomesHow 94 = .ok (.iload_n 2, 1) := by decide +kernel
theorem dX8_becomesHow_95 : decode cX8_becomesHow 95 = .ok (.invokevirtual 135, 3) := by decide +kernel
theorem dX8_becomesHow_98 : decode cX8_becomesHow 98 = .ok (.iastore, 1) := by decide +kernel
theorem dX8_becomesHow_99 : decode cX8_becomesHow 99 = .ok (.aload_n 0, 1) := by decide +kernel
theorem dX8_becomesHow_100 : decode cX8_becomesHow 100 = .ok (.getfield 7, 3) := by decide +kernel
theorem dX8_becomesHow_103 : decode cX8_becomesHow 103 = .ok (.iload_n 3, 1) := by decide +kernel
theorem dX8_becomesHow_104 : decode cX8_becomesHow 104 = .ok (.bipush 15, 2) := by decide +kernel
theorem dX8_becomesHow_106 : decode cX8_becomesHow 106 = .ok (.iadd, 1) := by decide +kernel
theorem dX8_becomesHow_107 : decode cX8_becomesHow 107 = .ok (.dup2, 1) := by decide +kernel
theorem dX8_becomesHow_108 : decode cX8_becomesHow 108 = .ok (.iaload, 1) := by decide +kernel
theorem dX8_becomesHow_109 : decode cX8_becomesHow 109 = .ok (.aload_n 0, 1) := by decide +kernel
theorem dX8_becomesHow_110 : decode cX8_becomesHow 110 = .ok (.getfield 7, 3) := by decide +kernel
theorem dX8_becomesHow_113 : decode cX8_becomesHow 113 = .ok (.iload_n 3, 1) := by decide +kernel
theorem dX8_becomesHow_114 : decode cX8_becomesHow 114 = .ok (.bipush 14, 2) := by decide +kernel
theorem dX8_becomesHow_116 : decode cX8_becomesHow 116 = .ok (.iadd, 1) := by decide +kernel
theorem dX8_becomesHow_117 : decode cX8_becomesHow 117 = .ok (.iaload, 1) := by decide +kernel
theorem dX8_becomesHow_118 : decode cX8_becomesHow 118 = .ok (.iconst 5, 1) := by decide +kernel
theorem dX8_becomesHow_119 : decode cX8_becomesHow 119 = .ok (.if_icmp .ne 13, 3) := by decide +kernel
theorem dX8_becomesHow_122 : decode cX8_becomesHow 122 = .ok (.iload 4, 2) := by decide +kernel
theorem dX8_becomesHow_124 : decode cX8_becomesHow 124 = .ok (.iconst 5, 1) := by decide +kernel
theorem dX8_becomesHow_125 : decode cX8_becomesHow 125 = .ok (.if_icmp .eq 7, 3) := by decide +kernel
theorem dX8_becomesHow_128 : decode cX8_becomesHow 128 = .ok (.iconst 1, 1) := by decide +kernel
theorem dX8_becomesHow_129 : decode cX8_becomesHow 129 = .ok (.goto 4, 3) := by decide +kernel
theorem dX8_becomesHow_132 : decode cX8_becomesHow 132 = .ok (.iconst 0, 1) := by decide +kernel
theorem dX8_becomesHow_133 : decode cX8_becomesHow 133 = .ok (.iadd, 1) := by decide +kernel
theorem dX8_becomesHow_134 : decode cX8_becomesHow 134 = .ok (.iastore, 1) := by decide +kernel
theorem dX8_becomesHow_135 : decode cX8_becomesHow 135 = .ok (.iinc 2 1, 3) := by decide +kernel
theorem dX8_becomesHow_138 : decode cX8_becomesHow 138 = .ok (.goto (-131), 3) := by decide +kernel
theorem dX8_becomesHow_141 : decode cX8_becomesHow 141 = .ok (.return_, 1) := by decide +kernel
set_option maxRecDepth 20000 in
theorem ggX8_sends_X8_place : GoodIn wsX8_sends wsX8_place := goodIn_r _ [5] (by decide +kernel) (by decide +kernel)
set_option maxRecDepth 20000 in
theorem gX8_sends_X8_place : GoodIn wsX8_sends (va_wsS RX8 92 yX8_place wsX8_place) := goodIn_app (goodIn_of _ (by decide +kernel)) ggX8_sends_X8_place
theorem dX8_sends_0 : decode cX8_sends 0 = .ok (.iload_n 1, 1) := by decide +kernel
theorem dX8_sends_1 : decode cX8_sends 1 = .ok (.iload_n 2, 1) := by decide +kernel
theorem dX8_sends_2 : decode cX8_sends 2 = .ok (.invokestatic 92, 3) := by decide +kernel
theorem dX8_sends_5 : decode cX8_sends 5 = .ok (.istore_n 3, 1) := by decide +kernel
theorem dX8_sends_6 : decode cX8_sends 6 = .ok (.aload_n 0, 1) := by decide +kernel
theorem dX8_sends_7 : decode cX8_sends 7 = .ok (.getfield 7, 3) := by decide +kernel
theorem dX8_sends_10 : decode cX8_sends 10 = .ok (.iload_n 3, 1) := by decide +kernel
theorem dX8_sends_11 : decode cX8_sends 11 = .ok (.iconst 3, 1) := by decide +kernel
theorem dX8_sends_12 : decode cX8_sends 12 = .ok (.iadd, 1) := by decide +kernel
theorem dX8_sends_13 : decode cX8_sends 13 = .ok (.aload_n 0, 1) := by decide +kernel
theorem dX8_sends_14 : decode cX8_sends 14 = .ok (.getfield 7, 3) := by decide +kernel
theorem dX8_sends_17 : decode cX8_sends 17 = .ok (.iconst 4, 1) := by decide +kernel
theorem dX8_sends_18 : decode cX8_sends 18 = .ok (.iload_n 2, 1) := by decide +kernel
theorem dX8_sends_19 : decode cX8_sends 19 = .ok (.iadd, 1) := by decide +kernel
theorem dX8_sends_20 : decode cX8_sends 20 = .ok (.iaload, 1) := by decide +kernel
theorem dX8_sends_21 : decode cX8_sends 21 = .ok (.iconst 1, 1) := by decide +kernel
theorem dX8_sends_22 : decode cX8_sends 22 = .ok (.if_icmp .ne 18, 3) := by decide +kernel
theorem dX8_sends_25 : decode cX8_sends 25 = .ok (.aload_n 0, 1) := by decide +kernel
theorem dX8_sends_26 : decode cX8_sends 26 = .ok (.getfield 7, 3) := by decide +kernel
theorem dX8_sends_29 : decode cX8_sends 29 = .ok (.iload_n 3, 1) := by decide +kernel
theorem dX8_sends_30 : decode cX8_sends 30 = .ok (.iconst 2, 1) := by decide +kernel
theorem dX8_sends_31 : decode cX8_sends 31 = .ok (.iadd, 1) := by decide +kernel
theorem dX8_sends_32 : decode cX8_sends 32 = .ok (.iaload, 1) := by decide +kernel
theorem dX8_sends_33 : decode cX8_sends 33 = .ok (.ifCond .ne 7, 3) := by decide +kernel
theorem dX8_sends_36 : decode cX8_sends 36 = .ok (.iconst 1, 1) := by decide +kernel
theorem dX8_sends_37 : decode cX8_sends 37 = .ok (.goto 4, 3) := by decide +kernel
theorem dX8_sends_40 : decode cX8_sends 40 = .ok (.iconst 0, 1) := by decide +kernel
theorem dX8_sends_41 : decode cX8_sends 41 = .ok (.iastore, 1) := by decide +kernel
theorem dX8_sends_42 : decode cX8_sends 42 = .ok (.aload_n 0, 1) := by decide +kernel
theorem dX8_sends_43 : decode cX8_sends 43 = .ok (.getfield 7, 3) := by decide +kernel
theorem dX8_sends_46 : decode cX8_sends 46 = .ok (.iload_n 3, 1) := by decide +kernel
theorem dX8_sends_47 : decode cX8_sends 47 = .ok (.iconst 4, 1) := by decide +kernel
theorem dX8_sends_48 : decode cX8_sends 48 = .ok (.iadd, 1) := by decide +kernel
theorem dX8_sends_49 : decode cX8_sends 49 = .ok (.aload_n 0, 1) := by decide +kernel
theorem dX8_sends_50 : decode cX8_sends 50 = .ok (.getfield 7, 3) := by decide +kernel
theorem dX8_sends_53 : decode cX8_sends 53 = .ok (.iload_n 3, 1) := by decide +kernel
theorem dX8_sends_54 : decode cX8_sends 54 = .ok (.iconst 0, 1) := by decide +kernel
theorem dX8_sends_55 : decode cX8_sends 55 = .ok (.iadd, 1) := by decide +kernel
theorem dX8_sends_56 : decode cX8_sends 56 = .ok (.iaload, 1) := by decide +kernel
theorem dX8_sends_57 : decode cX8_sends 57 = .ok (.iastore, 1) := by decide +kernel
theorem dX8_sends_58 : decode cX8_sends 58 = .ok (.aload_n 0, 1) := by decide +kernel
theorem dX8_sends_59 : decode cX8_sends 59 = .ok (.getfield 7, 3) := by decide +kernel
theorem dX8_sends_62 : decode cX8_sends 62 = .ok (.iload_n 3, 1) := by decide +kernel
theorem dX8_sends_63 : decode cX8_sends 63 = .ok (.iconst 5, 1) := by decide +kernel
theorem dX8_sends_64 : decode cX8_sends 64 = .ok (.iadd, 1) := by decide +kernel
theorem dX8_sends_65 : decode cX8_sends 65 = .ok (.aload_n 0, 1) := by decide +kernel
theorem dX8_sends_66 : decode cX8_sends 66 = .ok (.getfield 7, 3) := by decide +kernel
theorem dX8_sends_69 : decode cX8_sends 69 = .ok (.iload_n 3, 1) := by decide +kernel
theorem dX8_sends_70 : decode cX8_sends 70 = .ok (.iconst 1, 1) := by decide +kernel
theorem dX8_sends_71 : decode cX8_sends 71 = .ok (.iadd, 1) := by decide +kernel
theorem dX8_sends_72 : decode cX8_sends 72 = .ok (.iaload, 1) := by decide +kernel
theorem dX8_sends_73 : decode cX8_sends 73 = .ok (.iastore, 1) := by decide +kernel
theorem dX8_sends_74 : decode cX8_sends 74 = .ok (.aload_n 0, 1) := by decide +kernel
theorem dX8_sends_75 : decode cX8_sends 75 = .ok (.getfield 7, 3) := by decide +kernel
theorem dX8_sends_78 : decode cX8_sends 78 = .ok (.iload_n 3, 1) := by decide +kernel
theorem dX8_sends_79 : decode cX8_sends 79 = .ok (.bipush 6, 2) := by decide +kernel
theorem dX8_sends_81 : decode cX8_sends 81 = .ok (.iadd, 1) := by decide +kernel
theorem dX8_sends_82 : decode cX8_sends 82 = .ok (.aload_n 0, 1) := by decide +kernel
theorem dX8_sends_83 : decode cX8_sends 83 = .ok (.getfield 7, 3) := by decide +kernel
theorem dX8_sends_86 : decode cX8_sends 86 = .ok (.iconst 0, 1) := by decide +kernel
theorem dX8_sends_87 : decode cX8_sends 87 = .ok (.iload_n 1, 1) := by decide +kernel
theorem dX8_sends_88 : decode cX8_sends 88 = .ok (.iadd, 1) := by decide +kernel
theorem dX8_sends_89 : decode cX8_sends 89 = .ok (.iaload, 1) := by decide +kernel
theorem dX8_sends_90 : decode cX8_sends 90 = .ok (.iastore, 1) := by decide +kernel
theorem dX8_sends_91 : decode cX8_sends 91 = .ok (.aload_n 0, 1) := by decide +kernel
theorem dX8_sends_92 : decode cX8_sends 92 = .ok (.getfield 7, 3) := by decide +kernel
theorem dX8_sends_95 : decode cX8_sends 95 = .ok (.iload_n 3, 1) := by decide +kernel
theorem dX8_sends_96 : decode cX8_sends 96 = .ok (.bipush 7, 2) := by decide +kernel
theorem dX8_sends_98 : decode cX8_sends 98 = .ok (.iadd, 1) := by decide +kernel
theorem dX8_sends_99 : decode cX8_sends 99 = .ok (.aload_n 0, 1) := by decide +kernel
theorem dX8_sends_100 : decode cX8_sends 100 = .ok (.getfield 7, 3) := by decide +kernel
theorem dX8_sends_103 : decode cX8_sends 103 = .ok (.iload_n 3, 1) := by decide +kernel
theorem dX8_sends_104 : decode cX8_sends 104 = .ok (.bipush 14, 2) := by decide +kernel
theorem dX8_sends_106 : decode cX8_sends 106 = .ok (.iadd, 1) := by decide +kernel
theorem dX8_sends_107 : decode cX8_sends 107 = .ok (.iaload, 1) := by decide +kernel
theorem dX8_sends_108 : decode cX8_sends 108 = .ok (.iconst 4, 1) := by decide +kernel
theorem dX8_sends_109 : decode cX8_sends 109 = .ok (.if_icmp .lt 7, 3) := by decide +kernel
theorem dX8_sends_112 : decode cX8_sends 112 = .ok (.iconst 1, 1) := by decide +kernel
theorem dX8_sends_113 : decode cX8_sends 113 = .ok (.goto 4, 3) := by decide +kernel
theorem dX8_sends_116 : decode cX8_sends 116 = .ok (.iconst 0, 1) := by decide +kernel
theorem dX8_sends_117 : decode cX8_sends 117 = .ok (.iastore, 1) := by decide +kernel
theorem dX8_sends_118 : decode cX8_sends 118 = .ok (.return_, 1) := by decide +kernel
set_option maxRecDepth 20000 in
theorem ggX8_isSending_X8_place : GoodIn wsX8_isSending wsX8_place := goodIn_r _ [5] (by decide +kernel) (by decide +kernel)
set_option maxRecDepth 20000 in
theorem gX8_isSending_X8_place : GoodIn wsX8_isSending (va_wsS RX8 92 yX8_place wsX8_place) := goodIn_app (goodIn_of _ (by decide +kernel)) ggX8_isSending_X8_place
theorem dX8_isSending_0 : decode cX8_isSending 0 = .ok (.aload_n 0, 1) := by decide +kernel
theorem dX8_isSending_1 : decode cX8_isSending 1 = .ok (.getfield 7, 3) := by decide +kernel
theorem dX8_isSending_4 : decode cX8_isSending 4 = .ok (.iload_n 1, 1) := by decide +kernel
theorem dX8_isSending_5 : decode cX8_isSending 5 = .ok (.iload_n 2, 1) := by decide +kernel
theorem dX8_isSending_6 : decode cX8_isSending 6 = .ok (.invokestatic 92, 3) := by decide +kernel
theorem dX8_isSending_9 : decode cX8_isSending 9 = .ok (.bipush 14, 2) := by decide +kernel
theorem dX8_isSending_11 : decode cX8_isSending 11 = .ok (.iadd, 1) := by decide +kernel
theorem dX8_isSending_12 : decode cX8_isSending 12 = .ok (.iaload, 1) := by decide +kernel
theorem dX8_isSending_13 : decode cX8_isSending 13 = .ok (.iconst 5, 1) := by decide +kernel
theorem dX8_isSending_14 : decode cX8_isSending 14 = .ok (.if_icmp .ne 7, 3) := by decide +kernel
theorem dX8_isSending_17 : decode cX8_isSending 17 = .ok (.iconst 1, 1) := by decide +kernel
theorem dX8_isSending_18 : decode cX8_isSending 18 = .ok (.goto 4, 3) := by decide +kernel
theorem dX8_isSending_21 : decode cX8_isSending 21 = .ok (.iconst 0, 1) := by decide +kernel
theorem dX8_isSending_22 : decode cX8_isSending 22 = .ok (.ireturn, 1) := by decide +kernel
set_option maxRecDepth 20000 in
theorem ggX8_wants_X8_isSending : GoodIn wsX8_wants wsX8_isSending := goodIn_r _ [6, 7, 8, 9, 5, 10, 11, 12, 13, 14, 15, 16, 17, 18, 19, 20, 21, 22, 23, 24, 25, 26, 27, 28] (by decide +kernel) (by decide +kernel)
set_option maxRecDepth 20000 in
theorem gX8_wants_X8_isSending : GoodIn wsX8_wants (wsV RX8 138 RX8 yX8_isSending wsX8_isSending) := goodIn_app (goodIn_of _ (by decide +kernel)) ggX8_wants_X8_isSending
theorem dX8_wants_0 : decode cX8_wants 0 = .ok (.iconst 0, 1) := by decide +kernel
theorem dX8_wants_1 : decode cX8_wants 1 = .ok (.istore_n 3, 1) := by decide +kernel
theorem dX8_wants_2 : decode cX8_wants 2 = .ok (.iconst 0, 1) := by decide +kernel
theorem dX8_wants_3 : decode cX8_wants 3 = .ok (.istore 4, 2) := by decide +kernel
theorem dX8_wants_5 : decode cX8_wants 5 = .ok (.iload 4, 2) := by decide +kernel
theorem dX8_wants_7 : decode cX8_wants 7 = .ok (.aload_n 0, 1) := by decide +kernel
theorem dX8_wants_8 : decode cX8_wants 8 = .ok (.getfield 83, 3) := by decide +kernel
theorem dX8_wants_11 : decode cX8_wants 11 = .ok (.if_icmp .ge 27, 3) := by decide +kernel
theorem dX8_wants_14 : decode cX8_wants 14 = .ok (.iload_n 3, 1) := by decide +kernel
theorem dX8_wants_15 : decode cX8_wants 15 = .ok (.aload_n 0, 1) := by decide +kernel
theorem dX8_wants_16 : decode cX8_wants 16 = .ok (.iload_n 1, 1) := by decide +kernel
theorem dX8_wants_17 : decode cX8_wants 17 = .ok (.iload 4, 2) := by decide +kernel
theorem dX8_wants_19 : decode cX8_wants 19 = .ok (.invokevirtual 138, 3) := by decide +kernel
theorem dX8_wants_22 : decode cX8_wants 22 = .ok (.ifCond .eq 7, 3) := by decide +kernel
theorem dX8_wants_25 : decode cX8_wants 25 = .ok (.iconst 1, 1) := by decide +kernel
theorem dX8_wants_26 : decode cX8_wants 26 = .ok (.goto 4, 3) := by decide +kernel
theorem dX8_wants_29 : decode cX8_wants 29 = .ok (.iconst 0, 1) := by decide +kernel
theorem dX8_wants_30 : decode cX8_wants 30 = .ok (.iadd, 1) := by decide +kernel
theorem dX8_wants_31 : decode cX8_wants 31 = .ok (.istore_n 3, 1) := by decide +kernel
theorem dX8_wants_32 : decode cX8_wants 32 = .ok (.iinc 4 1, 3) := by decide +kernel
theorem dX8_wants_35 : decode cX8_wants 35 = .ok (.goto (-30), 3) := by decide +kernel
theorem dX8_wants_38 : decode cX8_wants 38 = .ok (.iload_n 3, 1) := by decide +kernel
theorem dX8_wants_39 : decode cX8_wants 39 = .ok (.ifCond .ne 7, 3) := by decide +kernel
theorem dX8_wants_42 : decode cX8_wants 42 = .ok (.iconst 0, 1) := by decide +kernel
theorem dX8_wants_43 : decode cX8_wants 43 = .ok (.goto 11, 3) := by decide +kernel
theorem dX8_wants_46 : decode cX8_wants 46 = .ok (.bipush 7, 2) := by decide +kernel
theorem dX8_wants_48 : decode cX8_wants 48 = .ok (.iload_n 2, 1) := by decide +kernel
theorem dX8_wants_49 : decode cX8_wants 49 = .ok (.imul, 1) := by decide +kernel
theorem dX8_wants_50 : decode cX8_wants 50 = .ok (.iconst 3, 1) := by decide +kernel
theorem dX8_wants_51 : decode cX8_wants 51 = .ok (.iadd, 1) := by decide +kernel
theorem dX8_wants_52 : decode cX8_wants 52 = .ok (.iload_n 3, 1) := by decide +kernel
theorem dX8_wants_53 : decode cX8_wants 53 = .ok (.irem, 1) := by decide +kernel
theorem dX8_wants_54 : decode cX8_wants 54 = .ok (.istore 4, 2) := by decide +kernel
theorem dX8_wants_56 : decode cX8_wants 56 = .ok (.iconst 0, 1) := by decide +kernel
theorem dX8_wants_57 : decode cX8_wants 57 = .ok (.istore 5, 2) := by decide +kernel
theorem dX8_wants_59 : decode cX8_wants 59 = .ok (.iload 5, 2) := by decide +kernel
end
section
theorem dX8_wants_61 : decode cX8_wants 61 = .ok (.aload_n 0, 1) := by decide +kernel
theorem dX8_wants_62 : decode cX8_wants 62 = .ok (.getfield 83, 3) := by decide +kernel
theorem dX8_wants_65 : decode cX8_wants 65 = .ok (.if_icmp .ge 30, 3) := by decide +kernel
theorem dX8_wants_68 : decode cX8_wants 68 = .ok (.aload_n 0, 1) := by decide +kernel
theorem dX8_wants_69 : decode cX8_wants 69 = .ok (.iload_n 1, 1) := by decide +kernel
theorem dX8_wants_70 : decode cX8_wants 70 = .ok (.iload 5, 2) := by decide +kernel
theorem dX8_wants_72 : decode cX8_wants 72 = .ok (.invokevirtual 138, 3) := by decide +kernel
theorem dX8_wants_75 : decode cX8_wants 75 = .ok (.ifCond .eq 14, 3) := by decide +kernel
theorem dX8_wants_78 : decode cX8_wants 78 = .ok (.iload 4, 2) := by decide +kernel
theorem dX8_wants_80 : decode cX8_wants 80 = .ok (.ifCond .ne 6, 3) := by decide +kernel
theorem dX8_wants_83 : decode cX8_wants 83 = .ok (.iload 5, 2) := by decide +kernel
theorem dX8_wants_85 : decode cX8_wants 85 = .ok (.ireturn, 1) := by decide +kernel
theorem dX8_wants_86 : decode cX8_wants 86 = .ok (.iinc 4 (-1), 3) := by decide +kernel
theorem dX8_wants_89 : decode cX8_wants 89 = .ok (.iinc 5 1, 3) := by decide +kernel
theorem dX8_wants_92 : decode cX8_wants 92 = .ok (.goto (-33), 3) := by decide +kernel
theorem dX8_wants_95 : decode cX8_wants 95 = .ok (.bipush (-4), 2) := by decide +kernel
theorem dX8_wants_97 : decode cX8_wants 97 = .ok (.ireturn, 1) := by decide +kernel
set_option maxRecDepth 20000 in
theorem ggX8_deals_X8_wants : GoodIn wsX8_deals wsX8_wants := goodIn_r _ [7, 8, 9, 10, 11, 6, 12, 1, 13, 14, 15, 16, 17, 18, 19, 20, 21, 22, 23, 24, 25, 26, 27, 28, 29, 30, 31, 32, 33] (by decide +kernel) (by decide +kernel)
set_option maxRecDepth 20000 in
theorem gX8_deals_X8_wants : GoodIn wsX8_deals (wsV RX8 141 RX8 yX8_wants wsX8_wants) := goodIn_app (goodIn_of _ (by decide +kernel)) ggX8_deals_X8_wants
theorem dX8_deals_0 : decode cX8_deals 0 = .ok (.bipush 10, 2) := by decide +kernel
theorem dX8_deals_2 : decode cX8_deals 2 = .ok (.iconst 2, 1) := by decide +kernel
theorem dX8_deals_3 : decode cX8_deals 3 = .ok (.bipush 8, 2) := by decide +kernel
theorem dX8_deals_5 : decode cX8_deals 5 = .ok (.iload_n 1, 1) := by decide +kernel
theorem dX8_deals_6 : decode cX8_deals 6 = .ok (.imul, 1) := by decide +kernel
theorem dX8_deals_7 : decode cX8_deals 7 = .ok (.iload_n 2, 1) := by decide +kernel
theorem dX8_deals_8 : decode cX8_deals 8 = .ok (.iadd, 1) := by decide +kernel
theorem dX8_deals_9 : decode cX8_deals 9 = .ok (.imul, 1) := by decide +kernel
theorem dX8_deals_10 : decode cX8_deals 10 = .ok (.iadd, 1) := by decide +kernel
theorem dX8_deals_11 : decode cX8_deals 11 = .ok (.istore_n 3, 1) := by decide +kernel
theorem dX8_deals_12 : decode cX8_deals 12 = .ok (.aload_n 0, 1) := by decide +kernel
theorem dX8_deals_13 : decode cX8_deals 13 = .ok (.iload_n 1, 1) := by decide +kernel
theorem dX8_deals_14 : decode cX8_deals 14 = .ok (.iload_n 2, 1) := by decide +kernel
theorem dX8_deals_15 : decode cX8_deals 15 = .ok (.invokevirtual 141, 3) := by decide +kernel
theorem dX8_deals_18 : decode cX8_deals 18 = .ok (.istore 4, 2) := by decide +kernel
theorem dX8_deals_20 : decode cX8_deals 20 = .ok (.aload_n 0, 1) := by decide +kernel
theorem dX8_deals_21 : decode cX8_deals 21 = .ok (.getfield 7, 3) := by decide +kernel
theorem dX8_deals_24 : decode cX8_deals 24 = .ok (.iload_n 3, 1) := by decide +kernel
theorem dX8_deals_25 : decode cX8_deals 25 = .ok (.iconst 1, 1) := by decide +kernel
theorem dX8_deals_26 : decode cX8_deals 26 = .ok (.iadd, 1) := by decide +kernel
theorem dX8_deals_27 : decode cX8_deals 27 = .ok (.iaload, 1) := by decide +kernel
theorem dX8_deals_28 : decode cX8_deals 28 = .ok (.ifCond .le 46, 3) := by decide +kernel
theorem dX8_deals_31 : decode cX8_deals 31 = .ok (.aload_n 0, 1) := by decide +kernel
theorem dX8_deals_32 : decode cX8_deals 32 = .ok (.getfield 7, 3) := by decide +kernel
theorem dX8_deals_35 : decode cX8_deals 35 = .ok (.iload_n 3, 1) := by decide +kernel
theorem dX8_deals_36 : decode cX8_deals 36 = .ok (.iconst 1, 1) := by decide +kernel
theorem dX8_deals_37 : decode cX8_deals 37 = .ok (.iadd, 1) := by decide +kernel
theorem dX8_deals_38 : decode cX8_deals 38 = .ok (.dup2, 1) := by decide +kernel
theorem dX8_deals_39 : decode cX8_deals 39 = .ok (.iaload, 1) := by decide +kernel
theorem dX8_deals_40 : decode cX8_deals 40 = .ok (.iconst 1, 1) := by decide +kernel
theorem dX8_deals_41 : decode cX8_deals 41 = .ok (.isub, 1) := by decide +kernel
theorem dX8_deals_42 : decode cX8_deals 42 = .ok (.iastore, 1) := by decide +kernel
theorem dX8_deals_43 : decode cX8_deals 43 = .ok (.aload_n 0, 1) := by decide +kernel
theorem dX8_deals_44 : decode cX8_deals 44 = .ok (.getfield 7, 3) := by decide +kernel
theorem dX8_deals_47 : decode cX8_deals 47 = .ok (.iload_n 3, 1) := by decide +kernel
theorem dX8_deals_48 : decode cX8_deals 48 = .ok (.aload_n 0, 1) := by decide +kernel
theorem dX8_deals_49 : decode cX8_deals 49 = .ok (.getfield 7, 3) := by decide +kernel
theorem dX8_deals_52 : decode cX8_deals 52 = .ok (.iload_n 3, 1) := by decide +kernel
theorem dX8_deals_53 : decode cX8_deals 53 = .ok (.iconst 1, 1) := by decide +kernel
theorem dX8_deals_54 : decode cX8_deals 54 = .ok (.iadd, 1) := by decide +kernel
theorem dX8_deals_55 : decode cX8_deals 55 = .ok (.iaload, 1) := by decide +kernel
theorem dX8_deals_56 : decode cX8_deals 56 = .ok (.ifCond .ne 8, 3) := by decide +kernel
theorem dX8_deals_59 : decode cX8_deals 59 = .ok (.iload 4, 2) := by decide +kernel
theorem dX8_deals_61 : decode cX8_deals 61 = .ok (.goto 9, 3) := by decide +kernel
theorem dX8_deals_64 : decode cX8_deals 64 = .ok (.aload_n 0, 1) := by decide +kernel
theorem dX8_deals_65 : decode cX8_deals 65 = .ok (.getfield 7, 3) := by decide +kernel
theorem dX8_deals_68 : decode cX8_deals 68 = .ok (.iload_n 3, 1) := by decide +kernel
theorem dX8_deals_69 : decode cX8_deals 69 = .ok (.iaload, 1) := by decide +kernel
theorem dX8_deals_70 : decode cX8_deals 70 = .ok (.iastore, 1) := by decide +kernel
theorem dX8_deals_71 : decode cX8_deals 71 = .ok (.goto 62, 3) := by decide +kernel
theorem dX8_deals_74 : decode cX8_deals 74 = .ok (.iload 4, 2) := by decide +kernel
theorem dX8_deals_76 : decode cX8_deals 76 = .ok (.aload_n 0, 1) := by decide +kernel
theorem dX8_deals_77 : decode cX8_deals 77 = .ok (.getfield 7, 3) := by decide +kernel
theorem dX8_deals_80 : decode cX8_deals 80 = .ok (.iload_n 3, 1) := by decide +kernel
theorem dX8_deals_81 : decode cX8_deals 81 = .ok (.iaload, 1) := by decide +kernel
theorem dX8_deals_82 : decode cX8_deals 82 = .ok (.if_icmp .eq 51, 3) := by decide +kernel
theorem dX8_deals_85 : decode cX8_deals 85 = .ok (.aload_n 0, 1) := by decide +kernel
theorem dX8_deals_86 : decode cX8_deals 86 = .ok (.getfield 7, 3) := by decide +kernel
theorem dX8_deals_89 : decode cX8_deals 89 = .ok (.iload_n 3, 1) := by decide +kernel
theorem dX8_deals_90 : decode cX8_deals 90 = .ok (.iaload, 1) := by decide +kernel
theorem dX8_deals_91 : decode cX8_deals 91 = .ok (.bipush (-4), 2) := by decide +kernel
theorem dX8_deals_93 : decode cX8_deals 93 = .ok (.if_icmp .eq 17, 3) := by decide +kernel
theorem dX8_deals_96 : decode cX8_deals 96 = .ok (.iload 4, 2) := by decide +kernel
theorem dX8_deals_98 : decode cX8_deals 98 = .ok (.bipush (-4), 2) := by decide +kernel
theorem dX8_deals_100 : decode cX8_deals 100 = .ok (.if_icmp .eq 10, 3) := by decide +kernel
theorem dX8_deals_103 : decode cX8_deals 103 = .ok (.aload_n 0, 1) := by decide +kernel
theorem dX8_deals_104 : decode cX8_deals 104 = .ok (.getfield 89, 3) := by decide +kernel
theorem dX8_deals_107 : decode cX8_deals 107 = .ok (.ifCond .ne 14, 3) := by decide +kernel
theorem dX8_deals_110 : decode cX8_deals 110 = .ok (.aload_n 0, 1) := by decide +kernel
theorem dX8_deals_111 : decode cX8_deals 111 = .ok (.getfield 7, 3) := by decide +kernel
theorem dX8_deals_114 : decode cX8_deals 114 = .ok (.iload_n 3, 1) := by decide +kernel
theorem dX8_deals_115 : decode cX8_deals 115 = .ok (.iload 4, 2) := by decide +kernel
theorem dX8_deals_117 : decode cX8_deals 117 = .ok (.iastore, 1) := by decide +kernel
theorem dX8_deals_118 : decode cX8_deals 118 = .ok (.goto 15, 3) := by decide +kernel
theorem dX8_deals_121 : decode cX8_deals 121 = .ok (.aload_n 0, 1) := by decide +kernel
theorem dX8_deals_122 : decode cX8_deals 122 = .ok (.getfield 7, 3) := by decide +kernel
theorem dX8_deals_125 : decode cX8_deals 125 = .ok (.iload_n 3, 1) := by decide +kernel
theorem dX8_deals_126 : decode cX8_deals 126 = .ok (.iconst 1, 1) := by decide +kernel
theorem dX8_deals_127 : decode cX8_deals 127 = .ok (.iadd, 1) := by decide +kernel
theorem dX8_deals_128 : decode cX8_deals 128 = .ok (.aload_n 0, 1) := by decide +kernel
theorem dX8_deals_129 : decode cX8_deals 129 = .ok (.getfield 89, 3) := by decide +kernel
theorem dX8_deals_132 : decode cX8_deals 132 = .ok (.iastore, 1) := by decide +kernel
theorem dX8_deals_133 : decode cX8_deals 133 = .ok (.return_, 1) := by decide +kernel
set_option maxRecDepth 20000 in
theorem ggX8_ticks_X8_comes : GoodIn wsX8_ticks wsX8_comes := goodIn_r _ [7, 1, 8, 9, 6, 10, 11, 12, 13, 14, 62, 63, 64, 65, 66, 67, 68, 69, 70, 71, 72, 73, 74, 75, 76, 77, 78, 79] (by decide +kernel) (by decide +kernel)
set_option maxRecDepth 20000 in
theorem gX8_ticks_X8_comes : GoodIn wsX8_ticks (wsV RX8 144 RX8 yX8_comes wsX8_comes) := goodIn_app (goodIn_of _ (by decide +kernel)) ggX8_ticks_X8_comes
set_option maxRecDepth 20000 in
theorem ggX8_ticks_X8_becomesHow : GoodIn wsX8_ticks wsX8_becomesHow := goodIn_r _ [18, 2, 1, 19, 20, 21, 22, 6, 23, 24, 25, 26, 27, 28, 29, 30, 31, 8, 9, 10, 32, 33, 34, 35, 36, 37, 38, 39, 40, 41, 42, 43, 44, 62, 63, 64, 65, 66, 67, 68, 69, 70, 71, 72, 73, 74, 75, 76, 77, 78, 79] (by decide +kernel) (by decide +kernel)
set_option maxRecDepth 20000 in
theorem gX8_ticks_X8_becomesHow : GoodIn wsX8_ticks (wsV RX8 148 RX8 yX8_becomesHow wsX8_becomesHow) := goodIn_app (goodIn_of _ (by decide +kernel)) ggX8_ticks_X8_becomesHow
set_option maxRecDepth 20000 in
theorem ggX8_ticks_X8_sends : GoodIn wsX8_ticks wsX8_sends := goodIn_r _ [48, 1, 8, 9, 6, 10, 62, 63, 64, 65, 66, 67, 68, 69, 70, 71, 72, 73, 74, 75, 76, 77, 78, 79] (by decide +kernel) (by decide +kernel)
set_option maxRecDepth 20000 in
theorem gX8_ticks_X8_sends : GoodIn wsX8_ticks (wsV RX8 151 RX8 yX8_sends wsX8_sends) := goodIn_app (goodIn_of _ (by decide +kernel)) ggX8_ticks_X8_sends
set_option maxRecDepth 20000 in
theorem ggX8_ticks_X8_deals : GoodIn wsX8_ticks wsX8_deals := goodIn_r _ [52, 1, 53, 54, 55, 56, 6, 57, 2, 58, 59, 60, 61, 8, 9, 10, 62, 63, 64, 65, 66, 67, 68, 69, 70, 71, 72, 73, 74, 75, 76, 77, 78, 79] (by decide +kernel) (by decide +kernel)
set_option maxRecDepth 20000 in
theorem gX8_ticks_X8_deals : GoodIn wsX8_ticks (wsV RX8 154 RX8 yX8_deals wsX8_deals) := goodIn_app (goodIn_of _ (by decide +kernel)) ggX8_ticks_X8_deals
theorem dX8_ticks_0 : decode cX8_ticks 0 = .ok (.aload_n 0, 1) := by decide +kernel
theorem dX8_ticks_1 : decode cX8_ticks 1 = .ok (.getfield 7, 3) := by decide +kernel
theorem dX8_ticks_4 : decode cX8_ticks 4 = .ok (.iconst 3, 1) := by decide +kernel
theorem dX8_ticks_5 : decode cX8_ticks 5 = .ok (.dup2, 1) := by decide +kernel
theorem dX8_ticks_6 : decode cX8_ticks 6 = .ok (.iaload, 1) := by decide +kernel
theorem dX8_ticks_7 : decode cX8_ticks 7 = .ok (.iconst 1, 1) := by decide +kernel
theorem dX8_ticks_8 : decode cX8_ticks 8 = .ok (.iadd, 1) := by decide +kernel
theorem dX8_ticks_9 : decode cX8_ticks 9 = .ok (.iastore, 1) := by decide +kernel
theorem dX8_ticks_10 : decode cX8_ticks 10 = .ok (.iconst 0, 1) := by decide +kernel
theorem dX8_ticks_11 : decode cX8_ticks 11 = .ok (.istore_n 1, 1) := by decide +kernel
theorem dX8_ticks_12 : decode cX8_ticks 12 = .ok (.iload_n 1, 1) := by decide +kernel
theorem dX8_ticks_13 : decode cX8_ticks 13 = .ok (.iconst 2, 1) := by decide +kernel
theorem dX8_ticks_14 : decode cX8_ticks 14 = .ok (.aload_n 0, 1) := by decide +kernel
theorem dX8_ticks_15 : decode cX8_ticks 15 = .ok (.getfield 83, 3) := by decide +kernel
theorem dX8_ticks_18 : decode cX8_ticks 18 = .ok (.imul, 1) := by decide +kernel
theorem dX8_ticks_19 : decode cX8_ticks 19 = .ok (.if_icmp .ge 19, 3) := by decide +kernel
theorem dX8_ticks_22 : decode cX8_ticks 22 = .ok (.aload_n 0, 1) := by decide +kernel
theorem dX8_ticks_23 : decode cX8_ticks 23 = .ok (.iload_n 1, 1) := by decide +kernel
theorem dX8_ticks_24 : decode cX8_ticks 24 = .ok (.iconst 2, 1) := by decide +kernel
theorem dX8_ticks_25 : decode cX8_ticks 25 = .ok (.irem, 1) := by decide +kernel
theorem dX8_ticks_26 : decode cX8_ticks 26 = .ok (.iload_n 1, 1) := by decide +kernel
theorem dX8_ticks_27 : decode cX8_ticks 27 = .ok (.iconst 2, 1) := by decide +kernel
theorem dX8_ticks_28 : decode cX8_ticks 28 = .ok (.idiv, 1) := by decide +kernel
theorem dX8_ticks_29 : decode cX8_ticks 29 = .ok (.invokevirtual 144, 3) := by decide +kernel
theorem dX8_ticks_32 : decode cX8_ticks 32 = .ok (.iinc 1 1, 3) := by decide +kernel
theorem dX8_ticks_35 : decode cX8_ticks 35 = .ok (.goto (-23), 3) := by decide +kernel
theorem dX8_ticks_38 : decode cX8_ticks 38 = .ok (.aload_n 0, 1) := by decide +kernel
theorem dX8_ticks_39 : decode cX8_ticks 39 = .ok (.iconst 0, 1) := by decide +kernel
theorem dX8_ticks_40 : decode cX8_ticks 40 = .ok (.invokevirtual 148, 3) := by decide +kernel
theorem dX8_ticks_43 : decode cX8_ticks 43 = .ok (.aload_n 0, 1) := by decide +kernel
theorem dX8_ticks_44 : decode cX8_ticks 44 = .ok (.iconst 1, 1) := by decide +kernel
theorem dX8_ticks_45 : decode cX8_ticks 45 = .ok (.invokevirtual 148, 3) := by decide +kernel
theorem dX8_ticks_48 : decode cX8_ticks 48 = .ok (.iconst 0, 1) := by decide +kernel
theorem dX8_ticks_49 : decode cX8_ticks 49 = .ok (.istore_n 1, 1) := by decide +kernel
theorem dX8_ticks_50 : decode cX8_ticks 50 = .ok (.iload_n 1, 1) := by decide +kernel
theorem dX8_ticks_51 : decode cX8_ticks 51 = .ok (.iconst 2, 1) := by decide +kernel
theorem dX8_ticks_52 : decode cX8_ticks 52 = .ok (.aload_n 0, 1) := by decide +kernel
theorem dX8_ticks_53 : decode cX8_ticks 53 = .ok (.getfield 83, 3) := by decide +kernel
theorem dX8_ticks_56 : decode cX8_ticks 56 = .ok (.imul, 1) := by decide +kernel
theorem dX8_ticks_57 : decode cX8_ticks 57 = .ok (.if_icmp .ge 19, 3) := by decide +kernel
theorem dX8_ticks_60 : decode cX8_ticks 60 = .ok (.aload_n 0, 1) := by decide +kernel
theorem dX8_ticks_61 : decode cX8_ticks 61 = .ok (.iload_n 1, 1) := by decide +kernel
theorem dX8_ticks_62 : decode cX8_ticks 62 = .ok (.iconst 2, 1) := by decide +kernel
theorem dX8_ticks_63 : decode cX8_ticks 63 = .ok (.irem, 1) := by decide +kernel
theorem dX8_ticks_64 : decode cX8_ticks 64 = .ok (.iload_n 1, 1) := by decide +kernel
theorem dX8_ticks_65 : decode cX8_ticks 65 = .ok (.iconst 2, 1) := by decide +kernel
theorem dX8_ticks_66 : decode cX8_ticks 66 = .ok (.idiv, 1) := by decide +kernel
theorem dX8_ticks_67 : decode cX8_ticks 67 = .ok (.invokevirtual 151, 3) := by decide +kernel
theorem dX8_ticks_70 : decode cX8_ticks 70 = .ok (.iinc 1 1, 3) := by decide +kernel
theorem dX8_ticks_73 : decode cX8_ticks 73 = .ok (.goto (-23), 3) := by decide +kernel
theorem dX8_ticks_76 : decode cX8_ticks 76 = .ok (.iconst 0, 1) := by decide +kernel
theorem dX8_ticks_77 : decode cX8_ticks 77 = .ok (.istore_n 1, 1) := by decide +kernel
theorem dX8_ticks_78 : decode cX8_ticks 78 = .ok (.iload_n 1, 1) := by decide +kernel
theorem dX8_ticks_79 : decode cX8_ticks 79 = .ok (.bipush 16, 2) := by decide +kernel
theorem dX8_ticks_81 : decode cX8_ticks 81 = .ok (.if_icmp .ge 21, 3) := by decide +kernel
theorem dX8_ticks_84 : decode cX8_ticks 84 = .ok (.aload_n 0, 1) := by decide +kernel
theorem dX8_ticks_85 : decode cX8_ticks 85 = .ok (.iload_n 1, 1) := by decide +kernel
theorem dX8_ticks_86 : decode cX8_ticks 86 = .ok (.bipush 8, 2) := by decide +kernel
theorem dX8_ticks_88 : decode cX8_ticks 88 = .ok (.idiv, 1) := by decide +kernel
theorem dX8_ticks_89 : decode cX8_ticks 89 = .ok (.iload_n 1, 1) := by decide +kernel
theorem dX8_ticks_90 : decode cX8_ticks 90 = .ok (.bipush 8, 2) := by decide +kernel
theorem dX8_ticks_92 : decode cX8_ticks 92 = .ok (.irem, 1) := by decide +kernel
theorem dX8_ticks_93 : decode cX8_ticks 93 = .ok (.invokevirtual 154, 3) := by decide +kernel
theorem dX8_ticks_96 : decode cX8_ticks 96 = .ok (.iinc 1 1, 3) := by decide +kernel
theorem dX8_ticks_99 : decode cX8_ticks 99 = .ok (.goto (-21), 3) := by decide +kernel
theorem dX8_ticks_102 : decode cX8_ticks 102 = .ok (.return_, 1) := by decide +kernel
set_option maxRecDepth 20000 in
theorem ggX8_sendingSet_X8_isSending : GoodIn wsX8_sendingSet wsX8_isSending := goodIn_r _ [6, 7, 8, 9, 5, 10, 11, 12, 13, 14, 15, 16, 17, 18, 19, 20, 21, 22, 23, 24, 25, 26, 27, 28] (by decide +kernel) (by decide +kernel)
set_option maxRecDepth 20000 in
theorem gX8_sendingSet_X8_isSending : GoodIn wsX8_sendingSet (wsV RX8 138 RX8 yX8_isSending wsX8_isSending) := goodIn_app (goodIn_of _ (by decide +kernel)) ggX8_sendingSet_X8_isSending
theorem dX8_sendingSet_0 : decode cX8_sendingSet 0 = .ok (.iconst 0, 1) := by decide +kernel
theorem dX8_sendingSet_1 : decode cX8_sendingSet 1 = .ok (.istore_n 2, 1) := by decide +kernel
theorem dX8_sendingSet_2 : decode cX8_sendingSet 2 = .ok (.iconst 0, 1) := by decide +kernel
theorem dX8_sendingSet_3 : decode cX8_sendingSet 3 = .ok (.istore_n 3, 1) := by decide +kernel
theorem dX8_sendingSet_4 : decode cX8_sendingSet 4 = .ok (.iload_n 3, 1) := by decide +kernel
theorem dX8_sendingSet_5 : decode cX8_sendingSet 5 = .ok (.aload_n 0, 1) := by decide +kernel
theorem dX8_sendingSet_6 : decode cX8_sendingSet 6 = .ok (.getfield 83, 3) := by decide +kernel
theorem dX8_sendingSet_9 : decode cX8_sendingSet 9 = .ok (.if_icmp .ge 28, 3) := by decide +kernel
theorem dX8_sendingSet_12 : decode cX8_sendingSet 12 = .ok (.iload_n 2, 1) := by decide +kernel
theorem dX8_sendingSet_13 : decode cX8_sendingSet 13 = .ok (.aload_n 0, 1) := by decide +kernel
theorem dX8_sendingSet_14 : decode cX8_sendingSet 14 = .ok (.iload_n 1, 1) := by decide +kernel
theorem dX8_sendingSet_15 : decode cX8_sendingSet 15 = .ok (.iload_n 3, 1) := by decide +kernel
theorem dX8_sendingSet_16 : decode cX8_sendingSet 16 = .ok (.invokevirtual 138, 3) := by decide +kernel
theorem dX8_sendingSet_19 : decode cX8_sendingSet 19 = .ok (.ifCond .eq 9, 3) := by decide +kernel
theorem dX8_sendingSet_22 : decode cX8_sendingSet 22 = .ok (.iconst 1, 1) := by decide +kernel
theorem dX8_sendingSet_23 : decode cX8_sendingSet 23 = .ok (.iload_n 3, 1) := by decide +kernel
theorem dX8_sendingSet_24 : decode cX8_sendingSet 24 = .ok (.ishl, 1) := by decide +kernel
theorem dX8_sendingSet_25 : decode cX8_sendingSet 25 = .ok (.goto 4, 3) := by decide +kernel
theorem dX8_sendingSet_28 : decode cX8_sendingSet 28 = .ok (.iconst 0, 1) := by decide +kernel
theorem dX8_sendingSet_29 : decode cX8_sendingSet 29 = .ok (.ior, 1) := by decide +kernel
theorem dX8_sendingSet_30 : decode cX8_sendingSet 30 = .ok (.istore_n 2, 1) := by decide +kernel
theorem dX8_sendingSet_31 : decode cX8_sendingSet 31 = .ok (.iinc 3 1, 3) := by decide +kernel
theorem dX8_sendingSet_34 : decode cX8_sendingSet 34 = .ok (.goto (-30), 3) := by decide +kernel
theorem dX8_sendingSet_37 : decode cX8_sendingSet 37 = .ok (.iload_n 2, 1) := by decide +kernel
theorem dX8_sendingSet_38 : decode cX8_sendingSet 38 = .ok (.ireturn, 1) := by decide +kernel
set_option maxRecDepth 20000 in
theorem ggX8_agreed_X8_sendingSet : GoodIn wsX8_agreed wsX8_sendingSet := goodIn_r _ [5, 6, 7, 8, 9, 4, 10, 11, 12, 13, 14, 15, 16, 17, 18, 19, 20, 21, 22, 23, 24, 25, 26, 27, 28, 29, 30, 31, 32] (by decide +kernel) (by decide +kernel)
set_option maxRecDepth 20000 in
theorem gX8_agreed_X8_sendingSet : GoodIn wsX8_agreed (wsV RX8 157 RX8 yX8_sendingSet wsX8_sendingSet) := goodIn_app (goodIn_of _ (by decide +kernel)) ggX8_agreed_X8_sendingSet
theorem dX8_agreed_0 : decode cX8_agreed 0 = .ok (.aload_n 0, 1) := by decide +kernel
theorem dX8_agreed_1 : decode cX8_agreed 1 = .ok (.iconst 0, 1) := by decide +kernel
theorem dX8_agreed_2 : decode cX8_agreed 2 = .ok (.invokevirtual 157, 3) := by decide +kernel
theorem dX8_agreed_5 : decode cX8_agreed 5 = .ok (.istore_n 1, 1) := by decide +kernel
theorem dX8_agreed_6 : decode cX8_agreed 6 = .ok (.iload_n 1, 1) := by decide +kernel
theorem dX8_agreed_7 : decode cX8_agreed 7 = .ok (.ifCond .le 16, 3) := by decide +kernel
theorem dX8_agreed_10 : decode cX8_agreed 10 = .ok (.iload_n 1, 1) := by decide +kernel
theorem dX8_agreed_11 : decode cX8_agreed 11 = .ok (.aload_n 0, 1) := by decide +kernel
theorem dX8_agreed_12 : decode cX8_agreed 12 = .ok (.iconst 1, 1) := by decide +kernel
theorem dX8_agreed_13 : decode cX8_agreed 13 = .ok (.invokevirtual 157, 3) := by decide +kernel
theorem dX8_agreed_16 : decode cX8_agreed 16 = .ok (.if_icmp .ne 7, 3) := by decide +kernel
theorem dX8_agreed_19 : decode cX8_agreed 19 = .ok (.iconst 1, 1) := by decide +kernel
theorem dX8_agreed_20 : decode cX8_agreed 20 = .ok (.goto 4, 3) := by decide +kernel
theorem dX8_agreed_23 : decode cX8_agreed 23 = .ok (.iconst 0, 1) := by decide +kernel
theorem dX8_agreed_24 : decode cX8_agreed 24 = .ok (.ireturn, 1) := by decide +kernel
set_option maxRecDepth 20000 in
theorem ggX8_tick_X8_within : GoodIn wsX8_tick wsX8_within := goodIn_r _ [5] (by decide +kernel) (by decide +kernel)
set_option maxRecDepth 20000 in
theorem gX8_tick_X8_within : GoodIn wsX8_tick (va_wsS RX8 68 yX8_within wsX8_within) := goodIn_app (goodIn_of _ (by decide +kernel)) ggX8_tick_X8_within
set_option maxRecDepth 20000 in
theorem ggX8_tick_X8_keeps : GoodIn wsX8_tick wsX8_keeps := goodIn_r _ [9, 10, 11, 1, 83, 84, 85, 86, 87, 88, 89, 90, 91, 92, 93, 94, 95, 96, 97, 98, 99, 100] (by decide +kernel) (by decide +kernel)
set_option maxRecDepth 20000 in
theorem gX8_tick_X8_keeps : GoodIn wsX8_tick (wsV RX8 102 RX8 yX8_keeps wsX8_keeps) := goodIn_app (goodIn_of _ (by decide +kernel)) ggX8_tick_X8_keeps
set_option maxRecDepth 20000 in
theorem ggX8_tick_X8_ticks : GoodIn wsX8_tick wsX8_ticks := goodIn_r _ [15, 1, 16, 17, 18, 19, 4, 20, 21, 22, 23, 24, 25, 26, 27, 28, 29, 30, 31, 32, 33, 34, 35, 36, 37, 38, 39, 40, 41, 42, 43, 44, 45, 46, 47, 48, 49, 50, 51, 52, 53, 54, 55, 56, 57, 58, 59, 60, 61, 62, 63, 64, 65, 66, 67, 68, 69, 70, 71, 72, 73, 74, 83, 84, 85, 86, 87, 88, 89, 90, 91, 92, 93, 94, 95, 96, 97, 98, 99, 100] (by decide +kernel) (by decide +kernel)
set_option maxRecDepth 20000 in
theorem gX8_tick_X8_ticks : GoodIn wsX8_tick (wsV RX8 161 RX8 yX8_ticks wsX8_ticks) := goodIn_app (goodIn_of _ (by decide +kernel)) ggX8_tick_X8_ticks
set_option maxRecDepth 20000 in
theorem ggX8_tick_X8_agreed : GoodIn wsX8_tick wsX8_agreed := goodIn_r _ [78, 79, 80, 81, 4, 82, 16, 71, 72, 73, 74, 1, 21, 22, 23, 83, 84, 85, 86, 87, 88, 89, 90, 91, 92, 93, 94, 95, 96, 97, 98, 99, 100] (by decide +kernel) (by decide +kernel)
set_option maxRecDepth 20000 in
theorem gX8_tick_X8_agreed : GoodIn wsX8_tick (wsV RX8 164 RX8 yX8_agreed wsX8_agreed) := goodIn_app (goodIn_of _ (by decide +kernel)) ggX8_tick_X8_agreed
theorem dX8_tick_0 : decode cX8_tick 0 = .ok (.iload_n 1, 1) := by decide +kernel
theorem dX8_tick_1 : decode cX8_tick 1 = .ok (.iconst 1, 1) := by decide +kernel
theorem dX8_tick_2 : decode cX8_tick 2 = .ok (.bipush 40, 2) := by decide +kernel
theorem dX8_tick_4 : decode cX8_tick 4 = .ok (.invokestatic 68, 3) := by decide +kernel
theorem dX8_tick_7 : decode cX8_tick 7 = .ok (.ifCond .ne 5, 3) := by decide +kernel
theorem dX8_tick_10 : decode cX8_tick 10 = .ok (.iconst (-1), 1) := by decide +kernel
theorem dX8_tick_11 : decode cX8_tick 11 = .ok (.ireturn, 1) := by decide +kernel
theorem dX8_tick_12 : decode cX8_tick 12 = .ok (.aload_n 0, 1) := by decide +kernel
theorem dX8_tick_13 : decode cX8_tick 13 = .ok (.getfield 7, 3) := by decide +kernel
theorem dX8_tick_16 : decode cX8_tick 16 = .ok (.iconst 3, 1) := by decide +kernel
theorem dX8_tick_17 : decode cX8_tick 17 = .ok (.iaload, 1) := by decide +kernel
theorem dX8_tick_18 : decode cX8_tick 18 = .ok (.iload_n 1, 1) := by decide +kernel
theorem dX8_tick_19 : decode cX8_tick 19 = .ok (.iadd, 1) := by decide +kernel
theorem dX8_tick_20 : decode cX8_tick 20 = .ok (.sipush 9999, 3) := by decide +kernel
theorem dX8_tick_23 : decode cX8_tick 23 = .ok (.if_icmp .le 6, 3) := by decide +kernel
theorem dX8_tick_26 : decode cX8_tick 26 = .ok (.bipush (-2), 2) := by decide +kernel
theorem dX8_tick_28 : decode cX8_tick 28 = .ok (.ireturn, 1) := by decide +kernel
theorem dX8_tick_29 : decode cX8_tick 29 = .ok (.aload_n 0, 1) := by decide +kernel
theorem dX8_tick_30 : decode cX8_tick 30 = .ok (.invokevirtual 102, 3) := by decide +kernel
theorem dX8_tick_33 : decode cX8_tick 33 = .ok (.iconst 0, 1) := by decide +kernel
theorem dX8_tick_34 : decode cX8_tick 34 = .ok (.istore_n 2, 1) := by decide +kernel
theorem dX8_tick_35 : decode cX8_tick 35 = .ok (.iload_n 2, 1) := by decide +kernel
theorem dX8_tick_36 : decode cX8_tick 36 = .ok (.iload_n 1, 1) := by decide +kernel
theorem dX8_tick_37 : decode cX8_tick 37 = .ok (.if_icmp .ge 13, 3) := by decide +kernel
theorem dX8_tick_40 : decode cX8_tick 40 = .ok (.aload_n 0, 1) := by decide +kernel
theorem dX8_tick_41 : decode cX8_tick 41 = .ok (.invokevirtual 161, 3) := by decide +kernel
theorem dX8_tick_44 : decode cX8_tick 44 = .ok (.iinc 2 1, 3) := by decide +kernel
theorem dX8_tick_47 : decode cX8_tick 47 = .ok (.goto (-12), 3) := by decide +kernel
theorem dX8_tick_50 : decode cX8_tick 50 = .ok (.aload_n 0, 1) := by decide +kernel
theorem dX8_tick_51 : decode cX8_tick 51 = .ok (.invokevirtual 164, 3) := by decide +kernel
theorem dX8_tick_54 : decode cX8_tick 54 = .ok (.ireturn, 1) := by decide +kernel
theorem dX8_tellLink_0 : decode cX8_tellLink 0 = .ok (.iload_n 2, 1) := by decide +kernel
theorem dX8_tellLink_1 : decode cX8_tellLink 1 = .ok (.tableswitch 133 2 10 #[51, 61, 71, 71, 71, 71, 104, 114, 124], 51) := by decide +kernel
theorem dX8_tellLink_52 : decode cX8_tellLink 52 = .ok (.aload_n 0, 1) := by decide +kernel
theorem dX8_tellLink_53 : decode cX8_tellLink 53 = .ok (.getfield 7, 3) := by decide +kernel
theorem dX8_tellLink_56 : decode cX8_tellLink 56 = .ok (.iload_n 1, 1) := by decide +kernel
theorem dX8_tellLink_57 : decode cX8_tellLink 57 = .ok (.bipush 14, 2) := by decide +kernel
theorem dX8_tellLink_59 : decode cX8_tellLink 59 = .ok (.iadd, 1) := by decide +kernel
theorem dX8_tellLink_60 : decode cX8_tellLink 60 = .ok (.iaload, 1) := by decide +kernel
theorem dX8_tellLink_61 : decode cX8_tellLink 61 = .ok (.ireturn, 1) := by decide +kernel
theorem dX8_tellLink_62 : decode cX8_tellLink 62 = .ok (.aload_n 0, 1) := by decide +kernel
theorem dX8_tellLink_63 : decode cX8_tellLink 63 = .ok (.getfield 7, 3) := by decide +kernel
theorem dX8_tellLink_66 : decode cX8_tellLink 66 = .ok (.iload_n 1, 1) := by decide +kernel
theorem dX8_tellLink_67 : decode cX8_tellLink 67 = .ok (.bipush 8, 2) := by decide +kernel
theorem dX8_tellLink_69 : decode cX8_tellLink 69 = .ok (.iadd, 1) := by decide +kernel
theorem dX8_tellLink_70 : decode cX8_tellLink 70 = .ok (.iaload, 1) := by decide +kernel
theorem dX8_tellLink_71 : decode cX8_tellLink 71 = .ok (.ireturn, 1) := by decide +kernel
theorem dX8_tellLink_72 : decode cX8_tellLink 72 = .ok (.aload_n 0, 1) := by decide +kernel
theorem dX8_tellLink_73 : decode cX8_tellLink 73 = .ok (.getfield 7, 3) := by decide +kernel
theorem dX8_tellLink_76 : decode cX8_tellLink 76 = .ok (.iload_n 1, 1) := by decide +kernel
theorem dX8_tellLink_77 : decode cX8_tellLink 77 = .ok (.bipush 8, 2) := by decide +kernel
theorem dX8_tellLink_79 : decode cX8_tellLink 79 = .ok (.iadd, 1) := by decide +kernel
theorem dX8_tellLink_80 : decode cX8_tellLink 80 = .ok (.iaload, 1) := by decide +kernel
theorem dX8_tellLink_81 : decode cX8_tellLink 81 = .ok (.bipush (-4), 2) := by decide +kernel
theorem dX8_tellLink_83 : decode cX8_tellLink 83 = .ok (.if_icmp .ne 8, 3) := by decide +kernel
theorem dX8_tellLink_86 : decode cX8_tellLink 86 = .ok (.bipush (-4), 2) := by decide +kernel
theorem dX8_tellLink_88 : decode cX8_tellLink 88 = .ok (.goto 16, 3) := by decide +kernel
theorem dX8_tellLink_91 : decode cX8_tellLink 91 = .ok (.aload_n 0, 1) := by decide +kernel
theorem dX8_tellLink_92 : decode cX8_tellLink 92 = .ok (.getfield 7, 3) := by decide +kernel
theorem dX8_tellLink_95 : decode cX8_tellLink 95 = .ok (.iload_n 1, 1) := by decide +kernel
theorem dX8_tellLink_96 : decode cX8_tellLink 96 = .ok (.bipush 9, 2) := by decide +kernel
theorem dX8_tellLink_98 : decode cX8_tellLink 98 = .ok (.iadd, 1) := by decide +kernel
theorem dX8_tellLink_99 : decode cX8_tellLink 99 = .ok (.iload_n 2, 1) := by decide +kernel
theorem dX8_tellLink_100 : decode cX8_tellLink 100 = .ok (.iadd, 1) := by decide +kernel
theorem dX8_tellLink_101 : decode cX8_tellLink 101 = .ok (.iconst 4, 1) := by decide +kernel
theorem dX8_tellLink_102 : decode cX8_tellLink 102 = .ok (.isub, 1) := by decide +kernel
theorem dX8_tellLink_103 : decode cX8_tellLink 103 = .ok (.iaload, 1) := by decide +kernel
theorem dX8_tellLink_104 : decode cX8_tellLink 104 = .ok (.ireturn, 1) := by decide +kernel
theorem dX8_tellLink_105 : decode cX8_tellLink 105 = .ok (.aload_n 0, 1) := by decide +kernel
theorem dX8_tellLink_106 : decode cX8_tellLink 106 = .ok (.getfield 7, 3) := by decide +kernel
theorem dX8_tellLink_109 : decode cX8_tellLink 109 = .ok (.iload_n 1, 1) := by decide +kernel
theorem dX8_tellLink_110 : decode cX8_tellLink 110 = .ok (.bipush 13, 2) := by decide +kernel
theorem dX8_tellLink_112 : decode cX8_tellLink 112 = .ok (.iadd, 1) := by decide +kernel
theorem dX8_tellLink_113 : decode cX8_tellLink 113 = .ok (.iaload, 1) := by decide +kernel
theorem dX8_tellLink_114 : decode cX8_tellLink 114 = .ok (.ireturn, 1) := by decide +kernel
theorem dX8_tellLink_115 : decode cX8_tellLink 115 = .ok (.aload_n 0, 1) := by decide +kernel
theorem dX8_tellLink_116 : decode cX8_tellLink 116 = .ok (.getfield 7, 3) := by decide +kernel
theorem dX8_tellLink_119 : decode cX8_tellLink 119 = .ok (.iload_n 1, 1) := by decide +kernel
theorem dX8_tellLink_120 : decode cX8_tellLink 120 = .ok (.bipush 15, 2) := by decide +kernel
theorem dX8_tellLink_122 : decode cX8_tellLink 122 = .ok (.iadd, 1) := by decide +kernel
theorem dX8_tellLink_123 : decode cX8_tellLink 123 = .ok (.iaload, 1) := by decide +kernel
theorem dX8_tellLink_124 : decode cX8_tellLink 124 = .ok (.ireturn, 1) := by decide +kernel
theorem dX8_tellLink_125 : decode cX8_tellLink 125 = .ok (.aload_n 0, 1) := by decide +kernel
theorem dX8_tellLink_126 : decode cX8_tellLink 126 = .ok (.getfield 7, 3) := by decide +kernel
theorem dX8_tellLink_129 : decode cX8_tellLink 129 = .ok (.iload_n 1, 1) := by decide +kernel
theorem dX8_tellLink_130 : decode cX8_tellLink 130 = .ok (.iconst 2, 1) := by decide +kernel
theorem dX8_tellLink_131 : decode cX8_tellLink 131 = .ok (.iadd, 1) := by decide +kernel
theorem dX8_tellLink_132 : decode cX8_tellLink 132 = .ok (.iaload, 1) := by decide +kernel
theorem dX8_tellLink_133 : decode cX8_tellLink 133 = .ok (.ireturn, 1) := by decide +kernel
theorem dX8_tellLink_134 : decode cX8_tellLink 134 = .ok (.aload_n 0, 1) := by decide +kernel
theorem dX8_tellLink_135 : decode cX8_tellLink 135 = .ok (.getfield 7, 3) := by decide +kernel
theorem dX8_tellLink_138 : decode cX8_tellLink 138 = .ok (.iload_n 1, 1) := by decide +kernel
theorem dX8_tellLink_139 : decode cX8_tellLink 139 = .ok (.iload_n 2, 1) := by decide +kernel
theorem dX8_tellLink_140 : decode cX8_tellLink 140 = .ok (.iadd, 1) := by decide +kernel
theorem dX8_tellLink_141 : decode cX8_tellLink 141 = .ok (.iaload, 1) := by decide +kernel
theorem dX8_tellLink_142 : decode cX8_tellLink 142 = .ok (.ireturn, 1) := by decide +kernel
set_option maxRecDepth 20000 in
theorem ggX8_link_X8_isEnd : GoodIn wsX8_link wsX8_isEnd := goodIn_r _ [4] (by decide +kernel) (by decide +kernel)
set_option maxRecDepth 20000 in
theorem gX8_link_X8_isEnd : GoodIn wsX8_link (va_wsS RX8 108 yX8_isEnd wsX8_isEnd) := goodIn_app (goodIn_of _ (by decide +kernel)) ggX8_link_X8_isEnd
set_option maxRecDepth 20000 in
theorem ggX8_link_X8_isLink : GoodIn wsX8_link wsX8_isLink := goodIn_r _ [8, 9, 10, 11, 3, 12, 21, 22, 23, 24, 25, 26, 27, 28, 29, 30, 31, 32, 33, 34, 35, 36, 37, 38] (by decide +kernel) (by decide +kernel)
set_option maxRecDepth 20000 in
theorem gX8_link_X8_isLink : GoodIn wsX8_link (wsV RX8 99 RX8 yX8_isLink wsX8_isLink) := goodIn_app (goodIn_of _ (by decide +kernel)) ggX8_link_X8_isLink
set_option maxRecDepth 20000 in
theorem ggX8_link_X8_within : GoodIn wsX8_link wsX8_within := goodIn_r _ [12] (by decide +kernel) (by decide +kernel)
set_option maxRecDepth 20000 in
theorem gX8_link_X8_within : GoodIn wsX8_link (va_wsS RX8 68 yX8_within wsX8_within) := goodIn_app (goodIn_of _ (by decide +kernel)) ggX8_link_X8_within
set_option maxRecDepth 20000 in
theorem ggX8_link_X8_place : GoodIn wsX8_link wsX8_place := goodIn_r _ [15] (by decide +kernel) (by decide +kernel)
set_option maxRecDepth 20000 in
theorem gX8_link_X8_place : GoodIn wsX8_link (va_wsS RX8 92 yX8_place wsX8_place) := goodIn_app (goodIn_of _ (by decide +kernel)) ggX8_link_X8_place
set_option maxRecDepth 20000 in
theorem ggX8_link_X8_tellLink : GoodIn wsX8_link wsX8_tellLink := goodIn_r _ [19, 20, 21, 22, 23, 24, 25, 26, 27, 28, 29, 30, 31, 32, 33, 34, 35, 36, 37, 38] (by decide +kernel) (by decide +kernel)
set_option maxRecDepth 20000 in
theorem gX8_link_X8_tellLink : GoodIn wsX8_link (wsV RX8 167 RX8 yX8_tellLink wsX8_tellLink) := goodIn_app (goodIn_of _ (by decide +kernel)) ggX8_link_X8_tellLink
theorem dX8_link_0 : decode cX8_link 0 = .ok (.iload_n 1, 1) := by decide +kernel
theorem dX8_link_1 : decode cX8_link 1 = .ok (.invokestatic 108, 3) := by decide +kernel
theorem dX8_link_4 : decode cX8_link 4 = .ok (.ifCond .eq 34, 3) := by decide +kernel
theorem dX8_link_7 : decode cX8_link 7 = .ok (.aload_n 0, 1) := by decide +kernel
theorem dX8_link_8 : decode cX8_link 8 = .ok (.iload_n 2, 1) := by decide +kernel
theorem dX8_link_9 : decode cX8_link 9 = .ok (.invokevirtual 99, 3) := by decide +kernel
theorem dX8_link_12 : decode cX8_link 12 = .ok (.ifCond .eq 26, 3) := by decide +kernel
theorem dX8_link_15 : decode cX8_link 15 = .ok (.iload_n 3, 1) := by decide +kernel
theorem dX8_link_16 : decode cX8_link 16 = .ok (.iconst 0, 1) := by decide +kernel
theorem dX8_link_17 : decode cX8_link 17 = .ok (.bipush 10, 2) := by decide +kernel
theorem dX8_link_19 : decode cX8_link 19 = .ok (.invokestatic 68, 3) := by decide +kernel
theorem dX8_link_22 : decode cX8_link 22 = .ok (.ifCond .eq 16, 3) := by decide +kernel
theorem dX8_link_25 : decode cX8_link 25 = .ok (.aload_n 0, 1) := by decide +kernel
theorem dX8_link_26 : decode cX8_link 26 = .ok (.iload_n 1, 1) := by decide +kernel
theorem dX8_link_27 : decode cX8_link 27 = .ok (.iload_n 2, 1) := by decide +kernel
theorem dX8_link_28 : decode cX8_link 28 = .ok (.invokestatic 92, 3) := by decide +kernel
theorem dX8_link_31 : decode cX8_link 31 = .ok (.iload_n 3, 1) := by decide +kernel
theorem dX8_link_32 : decode cX8_link 32 = .ok (.invokevirtual 167, 3) := by decide +kernel
theorem dX8_link_35 : decode cX8_link 35 = .ok (.goto 4, 3) := by decide +kernel
theorem dX8_link_38 : decode cX8_link 38 = .ok (.iconst (-1), 1) := by decide +kernel
theorem dX8_link_39 : decode cX8_link 39 = .ok (.ireturn, 1) := by decide +kernel
set_option maxRecDepth 20000 in
theorem ggX8_bundle_X8_isEnd : GoodIn wsX8_bundle wsX8_isEnd := goodIn_r _ [6] (by decide +kernel) (by decide +kernel)
set_option maxRecDepth 20000 in
theorem gX8_bundle_X8_isEnd : GoodIn wsX8_bundle (va_wsS RX8 108 yX8_isEnd wsX8_isEnd) := goodIn_app (goodIn_of _ (by decide +kernel)) ggX8_bundle_X8_isEnd
set_option maxRecDepth 20000 in
theorem ggX8_bundle_X8_within : GoodIn wsX8_bundle wsX8_within := goodIn_r _ [9] (by decide +kernel) (by decide +kernel)
set_option maxRecDepth 20000 in
theorem gX8_bundle_X8_within : GoodIn wsX8_bundle (va_wsS RX8 68 yX8_within wsX8_within) := goodIn_app (goodIn_of _ (by decide +kernel)) ggX8_bundle_X8_within
set_option maxRecDepth 20000 in
theorem ggX8_bundle_X8_place : GoodIn wsX8_bundle wsX8_place := goodIn_r _ [12] (by decide +kernel) (by decide +kernel)
set_option maxRecDepth 20000 in
theorem gX8_bundle_X8_place : GoodIn wsX8_bundle (va_wsS RX8 92 yX8_place wsX8_place) := goodIn_app (goodIn_of _ (by decide +kernel)) ggX8_bundle_X8_place
set_option maxRecDepth 20000 in
theorem ggX8_bundle_X8_isSending : GoodIn wsX8_bundle wsX8_isSending := goodIn_r _ [16, 2, 10, 11, 5, 12, 17, 18, 19, 20, 21, 22, 23, 24, 25, 26, 27, 28, 29, 30, 31, 32, 33, 34] (by decide +kernel) (by decide +kernel)
set_option maxRecDepth 20000 in
theorem gX8_bundle_X8_isSending : GoodIn wsX8_bundle (wsV RX8 138 RX8 yX8_isSending wsX8_isSending) := goodIn_app (goodIn_of _ (by decide +kernel)) ggX8_bundle_X8_isSending
theorem dX8_bundle_0 : decode cX8_bundle 0 = .ok (.iload_n 1, 1) := by decide +kernel
theorem dX8_bundle_1 : decode cX8_bundle 1 = .ok (.invokestatic 108, 3) := by decide +kernel
theorem dX8_bundle_4 : decode cX8_bundle 4 = .ok (.ifCond .eq 12, 3) := by decide +kernel
theorem dX8_bundle_7 : decode cX8_bundle 7 = .ok (.iload_n 2, 1) := by decide +kernel
theorem dX8_bundle_8 : decode cX8_bundle 8 = .ok (.iconst 0, 1) := by decide +kernel
theorem dX8_bundle_9 : decode cX8_bundle 9 = .ok (.iconst 2, 1) := by decide +kernel
theorem dX8_bundle_10 : decode cX8_bundle 10 = .ok (.invokestatic 68, 3) := by decide +kernel
theorem dX8_bundle_13 : decode cX8_bundle 13 = .ok (.ifCond .ne 5, 3) := by decide +kernel
theorem dX8_bundle_16 : decode cX8_bundle 16 = .ok (.iconst (-1), 1) := by decide +kernel
theorem dX8_bundle_17 : decode cX8_bundle 17 = .ok (.ireturn, 1) := by decide +kernel
theorem dX8_bundle_18 : decode cX8_bundle 18 = .ok (.iconst 0, 1) := by decide +kernel
theorem dX8_bundle_19 : decode cX8_bundle 19 = .ok (.istore_n 3, 1) := by decide +kernel
theorem dX8_bundle_20 : decode cX8_bundle 20 = .ok (.iconst 0, 1) := by decide +kernel
theorem dX8_bundle_21 : decode cX8_bundle 21 = .ok (.istore 4, 2) := by decide +kernel
theorem dX8_bundle_23 : decode cX8_bundle 23 = .ok (.iload 4, 2) := by decide +kernel
theorem dX8_bundle_25 : decode cX8_bundle 25 = .ok (.aload_n 0, 1) := by decide +kernel
theorem dX8_bundle_26 : decode cX8_bundle 26 = .ok (.getfield 83, 3) := by decide +kernel
theorem dX8_bundle_29 : decode cX8_bundle 29 = .ok (.if_icmp .ge 97, 3) := by decide +kernel
theorem dX8_bundle_32 : decode cX8_bundle 32 = .ok (.iload_n 1, 1) := by decide +kernel
theorem dX8_bundle_33 : decode cX8_bundle 33 = .ok (.iload 4, 2) := by decide +kernel
theorem dX8_bundle_35 : decode cX8_bundle 35 = .ok (.invokestatic 92, 3) := by decide +kernel
theorem dX8_bundle_38 : decode cX8_bundle 38 = .ok (.istore 5, 2) := by decide +kernel
theorem dX8_bundle_40 : decode cX8_bundle 40 = .ok (.iload_n 2, 1) := by decide +kernel
theorem dX8_bundle_41 : decode cX8_bundle 41 = .ok (.ifCond .ne 26, 3) := by decide +kernel
theorem dX8_bundle_44 : decode cX8_bundle 44 = .ok (.aload_n 0, 1) := by decide +kernel
theorem dX8_bundle_45 : decode cX8_bundle 45 = .ok (.getfield 7, 3) := by decide +kernel
theorem dX8_bundle_48 : decode cX8_bundle 48 = .ok (.iload 5, 2) := by decide +kernel
theorem dX8_bundle_50 : decode cX8_bundle 50 = .ok (.bipush 8, 2) := by decide +kernel
theorem dX8_bundle_52 : decode cX8_bundle 52 = .ok (.iadd, 1) := by decide +kernel
theorem dX8_bundle_53 : decode cX8_bundle 53 = .ok (.iaload, 1) := by decide +kernel
theorem dX8_bundle_54 : decode cX8_bundle 54 = .ok (.bipush (-4), 2) := by decide +kernel
theorem dX8_bundle_56 : decode cX8_bundle 56 = .ok (.if_icmp .eq 7, 3) := by decide +kernel
theorem dX8_bundle_59 : decode cX8_bundle 59 = .ok (.iconst 1, 1) := by decide +kernel
theorem dX8_bundle_60 : decode cX8_bundle 60 = .ok (.goto 42, 3) := by decide +kernel
theorem dX8_bundle_63 : decode cX8_bundle 63 = .ok (.iconst 0, 1) := by decide +kernel
theorem dX8_bundle_64 : decode cX8_bundle 64 = .ok (.goto 38, 3) := by decide +kernel
theorem dX8_bundle_67 : decode cX8_bundle 67 = .ok (.iload_n 2, 1) := by decide +kernel
theorem dX8_bundle_68 : decode cX8_bundle 68 = .ok (.iconst 1, 1) := by decide +kernel
theorem dX8_bundle_69 : decode cX8_bundle 69 = .ok (.if_icmp .ne 26, 3) := by decide +kernel
theorem dX8_bundle_72 : decode cX8_bundle 72 = .ok (.aload_n 0, 1) := by decide +kernel
theorem dX8_bundle_73 : decode cX8_bundle 73 = .ok (.getfield 7, 3) := by decide +kernel
theorem dX8_bundle_76 : decode cX8_bundle 76 = .ok (.iload 5, 2) := by decide +kernel
theorem dX8_bundle_78 : decode cX8_bundle 78 = .ok (.bipush 13, 2) := by decide +kernel
theorem dX8_bundle_80 : decode cX8_bundle 80 = .ok (.iadd, 1) := by decide +kernel
theorem dX8_bundle_81 : decode cX8_bundle 81 = .ok (.iaload, 1) := by decide +kernel
theorem dX8_bundle_82 : decode cX8_bundle 82 = .ok (.bipush (-4), 2) := by decide +kernel
theorem dX8_bundle_84 : decode cX8_bundle 84 = .ok (.if_icmp .eq 7, 3) := by decide +kernel
theorem dX8_bundle_87 : decode cX8_bundle 87 = .ok (.iconst 1, 1) := by decide +kernel
theorem dX8_bundle_88 : decode cX8_bundle 88 = .ok (.goto 14, 3) := by decide +kernel
theorem dX8_bundle_91 : decode cX8_bundle 91 = .ok (.iconst 0, 1) := by decide +kernel
theorem dX8_bundle_92 : decode cX8_bundle 92 = .ok (.goto 10, 3) := by decide +kernel
theorem dX8_bundle_95 : decode cX8_bundle 95 = .ok (.aload_n 0, 1) := by decide +kernel
theorem dX8_bundle_96 : decode cX8_bundle 96 = .ok (.iload_n 1, 1) := by decide +kernel
theorem dX8_bundle_97 : decode cX8_bundle 97 = .ok (.iload 4, 2) := by decide +kernel
theorem dX8_bundle_99 : decode cX8_bundle 99 = .ok (.invokevirtual 138, 3) := by decide +kernel
theorem dX8_bundle_102 : decode cX8_bundle 102 = .ok (.istore 6, 2) := by decide +kernel
theorem dX8_bundle_104 : decode cX8_bundle 104 = .ok (.iload_n 3, 1) := by decide +kernel
theorem dX8_bundle_105 : decode cX8_bundle 105 = .ok (.iload 6, 2) := by decide +kernel
theorem dX8_bundle_107 : decode cX8_bundle 107 = .ok (.ifCond .eq 10, 3) := by decide +kernel
theorem dX8_bundle_110 : decode cX8_bundle 110 = .ok (.iconst 1, 1) := by decide +kernel
theorem dX8_bundle_111 : decode cX8_bundle 111 = .ok (.iload 4, 2) := by decide +kernel
theorem dX8_bundle_113 : decode cX8_bundle 113 = .ok (.ishl, 1) := by decide +kernel
theorem dX8_bundle_114 : decode cX8_bundle 114 = .ok (.goto 4, 3) := by decide +kernel
theorem dX8_bundle_117 : decode cX8_bundle 117 = .ok (.iconst 0, 1) := by decide +kernel
theorem dX8_bundle_118 : decode cX8_bundle 118 = .ok (.ior, 1) := by decide +kernel
theorem dX8_bundle_119 : decode cX8_bundle 119 = .ok (.istore_n 3, 1) := by decide +kernel
theorem dX8_bundle_120 : decode cX8_bundle 120 = .ok (.iinc 4 1, 3) := by decide +kernel
theorem dX8_bundle_123 : decode cX8_bundle 123 = .ok (.goto (-100), 3) := by decide +kernel
theorem dX8_bundle_126 : decode cX8_bundle 126 = .ok (.iload_n 3, 1) := by decide +kernel
theorem dX8_bundle_127 : decode cX8_bundle 127 = .ok (.ireturn, 1) := by decide +kernel
set_option maxRecDepth 20000 in
theorem ggX8_isFlow_X8_within : GoodIn wsX8_isFlow wsX8_within := goodIn_r _ [4] (by decide +kernel) (by decide +kernel)
set_option maxRecDepth 20000 in
theorem gX8_isFlow_X8_within : GoodIn wsX8_isFlow (va_wsS RX8 68 yX8_within wsX8_within) := goodIn_app (goodIn_of _ (by decide +kernel)) ggX8_isFlow_X8_within
theorem dX8_isFlow_0 : decode cX8_isFlow 0 = .ok (.iload_n 0, 1) := by decide +kernel
theorem dX8_isFlow_1 : decode cX8_isFlow 1 = .ok (.iconst 0, 1) := by decide +kernel
theorem dX8_isFlow_2 : decode cX8_isFlow 2 = .ok (.bipush 7, 2) := by decide +kernel
theorem dX8_isFlow_4 : decode cX8_isFlow 4 = .ok (.invokestatic 68, 3) := by decide +kernel
theorem dX8_isFlow_7 : decode cX8_isFlow 7 = .ok (.ireturn, 1) := by decide +kernel
set_option maxRecDepth 20000 in
theorem ggX8_flow_X8_isEnd : GoodIn wsX8_flow wsX8_isEnd := goodIn_r _ [5] (by decide +kernel) (by decide +kernel)
set_option maxRecDepth 20000 in
theorem gX8_flow_X8_isEnd : GoodIn wsX8_flow (va_wsS RX8 108 yX8_isEnd wsX8_isEnd) := goodIn_app (goodIn_of _ (by decide +kernel)) ggX8_flow_X8_isEnd
set_option maxRecDepth 20000 in
theorem ggX8_flow_X8_isFlow : GoodIn wsX8_flow wsX8_isFlow := goodIn_r _ [8, 9, 10, 4, 11] (by decide +kernel) (by decide +kernel)
set_option maxRecDepth 20000 in
theorem gX8_flow_X8_isFlow : GoodIn wsX8_flow (va_wsS RX8 170 yX8_isFlow wsX8_isFlow) := goodIn_app (goodIn_of _ (by decide +kernel)) ggX8_flow_X8_isFlow
set_option maxRecDepth 20000 in
theorem ggX8_flow_X8_within : GoodIn wsX8_flow wsX8_within := goodIn_r _ [11] (by decide +kernel) (by decide +kernel)
set_option maxRecDepth 20000 in
theorem gX8_flow_X8_within : GoodIn wsX8_flow (va_wsS RX8 68 yX8_within wsX8_within) := goodIn_app (goodIn_of _ (by decide +kernel)) ggX8_flow_X8_within
set_option maxRecDepth 20000 in
theorem ggX8_flow_X8_wants : GoodIn wsX8_flow wsX8_wants := goodIn_r _ [15, 16, 17, 18, 19, 4, 20, 1, 21, 22, 23, 24, 25, 26, 27, 28, 29, 30, 31, 32, 33, 34, 35, 36, 37, 38, 39, 40, 41] (by decide +kernel) (by decide +kernel)
set_option maxRecDepth 20000 in
theorem gX8_flow_X8_wants : GoodIn wsX8_flow (wsV RX8 141 RX8 yX8_wants wsX8_wants) := goodIn_app (goodIn_of _ (by decide +kernel)) ggX8_flow_X8_wants
theorem dX8_flow_0 : decode cX8_flow 0 = .ok (.iload_n 1, 1) := by decide +kernel
theorem dX8_flow_1 : decode cX8_flow 1 = .ok (.invokestatic 108, 3) := by decide +kernel
theorem dX8_flow_4 : decode cX8_flow 4 = .ok (.ifCond .eq 19, 3) := by decide +kernel
theorem dX8_flow_7 : decode cX8_flow 7 = .ok (.iload_n 2, 1) := by decide +kernel
theorem dX8_flow_8 : decode cX8_flow 8 = .ok (.invokestatic 170, 3) := by decide +kernel
theorem dX8_flow_11 : decode cX8_flow 11 = .ok (.ifCond .eq 12, 3) := by decide +kernel
theorem dX8_flow_14 : decode cX8_flow 14 = .ok (.iload_n 3, 1) := by decide +kernel
theorem dX8_flow_15 : decode cX8_flow 15 = .ok (.iconst 0, 1) := by decide +kernel
theorem dX8_flow_16 : decode cX8_flow 16 = .ok (.iconst 2, 1) := by decide +kernel
theorem dX8_flow_17 : decode cX8_flow 17 = .ok (.invokestatic 68, 3) := by decide +kernel
theorem dX8_flow_20 : decode cX8_flow 20 = .ok (.ifCond .ne 5, 3) := by decide +kernel
theorem dX8_flow_23 : decode cX8_flow 23 = .ok (.iconst (-1), 1) := by decide +kernel
theorem dX8_flow_24 : decode cX8_flow 24 = .ok (.ireturn, 1) := by decide +kernel
theorem dX8_flow_25 : decode cX8_flow 25 = .ok (.iload_n 3, 1) := by decide +kernel
theorem dX8_flow_26 : decode cX8_flow 26 = .ok (.iconst 2, 1) := by decide +kernel
theorem dX8_flow_27 : decode cX8_flow 27 = .ok (.if_icmp .ge 24, 3) := by decide +kernel
theorem dX8_flow_30 : decode cX8_flow 30 = .ok (.aload_n 0, 1) := by decide +kernel
theorem dX8_flow_31 : decode cX8_flow 31 = .ok (.getfield 7, 3) := by decide +kernel
theorem dX8_flow_34 : decode cX8_flow 34 = .ok (.bipush 10, 2) := by decide +kernel
theorem dX8_flow_36 : decode cX8_flow 36 = .ok (.iconst 2, 1) := by decide +kernel
theorem dX8_flow_37 : decode cX8_flow 37 = .ok (.bipush 8, 2) := by decide +kernel
theorem dX8_flow_39 : decode cX8_flow 39 = .ok (.iload_n 1, 1) := by decide +kernel
theorem dX8_flow_40 : decode cX8_flow 40 = .ok (.imul, 1) := by decide +kernel
theorem dX8_flow_41 : decode cX8_flow 41 = .ok (.iload_n 2, 1) := by decide +kernel
theorem dX8_flow_42 : decode cX8_flow 42 = .ok (.iadd, 1) := by decide +kernel
theorem dX8_flow_43 : decode cX8_flow 43 = .ok (.imul, 1) := by decide +kernel
theorem dX8_flow_44 : decode cX8_flow 44 = .ok (.iadd, 1) := by decide +kernel
theorem dX8_flow_45 : decode cX8_flow 45 = .ok (.iload_n 3, 1) := by decide +kernel
theorem dX8_flow_46 : decode cX8_flow 46 = .ok (.iadd, 1) := by decide +kernel
theorem dX8_flow_47 : decode cX8_flow 47 = .ok (.iaload, 1) := by decide +kernel
theorem dX8_flow_48 : decode cX8_flow 48 = .ok (.goto 9, 3) := by decide +kernel
theorem dX8_flow_51 : decode cX8_flow 51 = .ok (.aload_n 0, 1) := by decide +kernel
theorem dX8_flow_52 : decode cX8_flow 52 = .ok (.iload_n 1, 1) := by decide +kernel
theorem dX8_flow_53 : decode cX8_flow 53 = .ok (.iload_n 2, 1) := by decide +kernel
theorem dX8_flow_54 : decode cX8_flow 54 = .ok (.invokevirtual 141, 3) := by decide +kernel
theorem dX8_flow_57 : decode cX8_flow 57 = .ok (.ireturn, 1) := by decide +kernel
set_option maxRecDepth 20000 in
theorem ggX8_frame_X8_isEnd : GoodIn wsX8_frame wsX8_isEnd := goodIn_r _ [6] (by decide +kernel) (by decide +kernel)
set_option maxRecDepth 20000 in
theorem gX8_frame_X8_isEnd : GoodIn wsX8_frame (va_wsS RX8 108 yX8_isEnd wsX8_isEnd) := goodIn_app (goodIn_of _ (by decide +kernel)) ggX8_frame_X8_isEnd
set_option maxRecDepth 20000 in
theorem ggX8_frame_X8_isFlow : GoodIn wsX8_frame wsX8_isFlow := goodIn_r _ [9, 10, 11, 5, 12] (by decide +kernel) (by decide +kernel)
set_option maxRecDepth 20000 in
theorem gX8_frame_X8_isFlow : GoodIn wsX8_frame (va_wsS RX8 170 yX8_isFlow wsX8_isFlow) := goodIn_app (goodIn_of _ (by decide +kernel)) ggX8_frame_X8_isFlow
set_option maxRecDepth 20000 in
theorem ggX8_frame_X8_isSending : GoodIn wsX8_frame wsX8_isSending := goodIn_r _ [16, 1, 17, 18, 5, 19, 20, 21, 22, 23, 24, 25, 26, 27, 28, 29, 30, 31, 32, 33, 34, 35, 36, 37] (by decide +kernel) (by decide +kernel)
set_option maxRecDepth 20000 in
theorem gX8_frame_X8_isSending : GoodIn wsX8_frame (wsV RX8 138 RX8 yX8_isSending wsX8_isSending) := goodIn_app (goodIn_of _ (by decide +kernel)) ggX8_frame_X8_isSending
theorem dX8_frame_0 : decode cX8_frame 0 = .ok (.iload_n 1, 1) := by decide +kernel
theorem dX8_frame_1 : decode cX8_frame 1 = .ok (.invokestatic 108, 3) := by decide +kernel
theorem dX8_frame_4 : decode cX8_frame 4 = .ok (.ifCond .eq 10, 3) := by decide +kernel
theorem dX8_frame_7 : decode cX8_frame 7 = .ok (.iload_n 2, 1) := by decide +kernel
theorem dX8_frame_8 : decode cX8_frame 8 = .ok (.invokestatic 170, 3) := by decide +kernel
theorem dX8_frame_11 : decode cX8_frame 11 = .ok (.ifCond .ne 5, 3) := by decide +kernel
theorem dX8_frame_14 : decode cX8_frame 14 = .ok (.iconst (-1), 1) := by decide +kernel
theorem dX8_frame_15 : decode cX8_frame 15 = .ok (.ireturn, 1) := by decide +kernel
theorem dX8_frame_16 : decode cX8_frame 16 = .ok (.bipush 10, 2) := by decide +kernel
theorem dX8_frame_18 : decode cX8_frame 18 = .ok (.iconst 2, 1) := by decide +kernel
theorem dX8_frame_19 : decode cX8_frame 19 = .ok (.bipush 8, 2) := by decide +kernel
theorem dX8_frame_21 : decode cX8_frame 21 = .ok (.iload_n 1, 1) := by decide +kernel
theorem dX8_frame_22 : decode cX8_frame 22 = .ok (.imul, 1) := by decide +kernel
theorem dX8_frame_23 : decode cX8_frame 23 = .ok (.iload_n 2, 1) := by decide +kernel
theorem dX8_frame_24 : decode cX8_frame 24 = .ok (.iadd, 1) := by decide +kernel
theorem dX8_frame_25 : decode cX8_frame 25 = .ok (.imul, 1) := by decide +kernel
theorem dX8_frame_26 : decode cX8_frame 26 = .ok (.iadd, 1) := by decide +kernel
theorem dX8_frame_27 : decode cX8_frame 27 = .ok (.istore_n 3, 1) := by decide +kernel
theorem dX8_frame_28 : decode cX8_frame 28 = .ok (.aload_n 0, 1) := by decide +kernel
theorem dX8_frame_29 : decode cX8_frame 29 = .ok (.getfield 7, 3) := by decide +kernel
theorem dX8_frame_32 : decode cX8_frame 32 = .ok (.iload_n 3, 1) := by decide +kernel
theorem dX8_frame_33 : decode cX8_frame 33 = .ok (.iconst 1, 1) := by decide +kernel
theorem dX8_frame_34 : decode cX8_frame 34 = .ok (.iadd, 1) := by decide +kernel
theorem dX8_frame_35 : decode cX8_frame 35 = .ok (.iaload, 1) := by decide +kernel
theorem dX8_frame_36 : decode cX8_frame 36 = .ok (.ifCond .le 6, 3) := by decide +kernel
theorem dX8_frame_39 : decode cX8_frame 39 = .ok (.bipush (-2), 2) := by decide +kernel
theorem dX8_frame_41 : decode cX8_frame 41 = .ok (.ireturn, 1) := by decide +kernel
theorem dX8_frame_42 : decode cX8_frame 42 = .ok (.aload_n 0, 1) := by decide +kernel
theorem dX8_frame_43 : decode cX8_frame 43 = .ok (.getfield 7, 3) := by decide +kernel
theorem dX8_frame_46 : decode cX8_frame 46 = .ok (.iload_n 3, 1) := by decide +kernel
theorem dX8_frame_47 : decode cX8_frame 47 = .ok (.iaload, 1) := by decide +kernel
theorem dX8_frame_48 : decode cX8_frame 48 = .ok (.istore 4, 2) := by decide +kernel
theorem dX8_frame_50 : decode cX8_frame 50 = .ok (.iload 4, 2) := by decide +kernel
theorem dX8_frame_52 : decode cX8_frame 52 = .ok (.bipush (-4), 2) := by decide +kernel
theorem dX8_frame_54 : decode cX8_frame 54 = .ok (.if_icmp .eq 13, 3) := by decide +kernel
theorem dX8_frame_57 : decode cX8_frame 57 = .ok (.aload_n 0, 1) := by decide +kernel
theorem dX8_frame_58 : decode cX8_frame 58 = .ok (.iload_n 1, 1) := by decide +kernel
theorem dX8_frame_59 : decode cX8_frame 59 = .ok (.iload 4, 2) := by decide +kernel
theorem dX8_frame_61 : decode cX8_frame 61 = .ok (.invokevirtual 138, 3) := by decide +kernel
theorem dX8_frame_64 : decode cX8_frame 64 = .ok (.ifCond .ne 6, 3) := by decide +kernel
theorem dX8_frame_67 : decode cX8_frame 67 = .ok (.bipush (-4), 2) := by decide +kernel
theorem dX8_frame_69 : decode cX8_frame 69 = .ok (.ireturn, 1) := by decide +kernel
theorem dX8_frame_70 : decode cX8_frame 70 = .ok (.aload_n 0, 1) := by decide +kernel
theorem dX8_frame_71 : decode cX8_frame 71 = .ok (.getfield 19, 3) := by decide +kernel
theorem dX8_frame_74 : decode cX8_frame 74 = .ok (.bipush 6, 2) := by decide +kernel
theorem dX8_frame_76 : decode cX8_frame 76 = .ok (.iload_n 1, 1) := by decide +kernel
theorem dX8_frame_77 : decode cX8_frame 77 = .ok (.imul, 1) := by decide +kernel
theorem dX8_frame_78 : decode cX8_frame 78 = .ok (.iload 4, 2) := by decide +kernel
theorem dX8_frame_80 : decode cX8_frame 80 = .ok (.iadd, 1) := by decide +kernel
theorem dX8_frame_81 : decode cX8_frame 81 = .ok (.dup2, 1) := by decide +kernel
theorem dX8_frame_82 : decode cX8_frame 82 = .ok (.iaload, 1) := by decide +kernel
theorem dX8_frame_83 : decode cX8_frame 83 = .ok (.iconst 1, 1) := by decide +kernel
theorem dX8_frame_84 : decode cX8_frame 84 = .ok (.iadd, 1) := by decide +kernel
theorem dX8_frame_85 : decode cX8_frame 85 = .ok (.iastore, 1) := by decide +kernel
theorem dX8_frame_86 : decode cX8_frame 86 = .ok (.iload 4, 2) := by decide +kernel
theorem dX8_frame_88 : decode cX8_frame 88 = .ok (.ireturn, 1) := by decide +kernel
set_option maxRecDepth 20000 in
theorem ggX8_frames_X8_isEnd : GoodIn wsX8_frames wsX8_isEnd := goodIn_r _ [5] (by decide +kernel) (by decide +kernel)
set_option maxRecDepth 20000 in
theorem gX8_frames_X8_isEnd : GoodIn wsX8_frames (va_wsS RX8 108 yX8_isEnd wsX8_isEnd) := goodIn_app (goodIn_of _ (by decide +kernel)) ggX8_frames_X8_isEnd
set_option maxRecDepth 20000 in
theorem ggX8_frames_X8_isLink : GoodIn wsX8_frames wsX8_isLink := goodIn_r _ [9, 10, 11, 12, 4, 13, 14, 15, 16, 17, 18, 19, 20, 21, 22, 23, 24, 25, 26, 27, 28, 29, 30, 31] (by decide +kernel) (by decide +kernel)
set_option maxRecDepth 20000 in
theorem gX8_frames_X8_isLink : GoodIn wsX8_frames (wsV RX8 99 RX8 yX8_isLink wsX8_isLink) := goodIn_app (goodIn_of _ (by decide +kernel)) ggX8_frames_X8_isLink
theorem dX8_frames_0 : decode cX8_frames 0 = .ok (.iload_n 1, 1) := by decide +kernel
theorem dX8_frames_1 : decode cX8_frames 1 = .ok (.invokestatic 108, 3) := by decide +kernel
theorem dX8_frames_4 : decode cX8_frames 4 = .ok (.ifCond .eq 25, 3) := by decide +kernel
theorem dX8_frames_7 : decode cX8_frames 7 = .ok (.aload_n 0, 1) := by decide +kernel
theorem dX8_frames_8 : decode cX8_frames 8 = .ok (.iload_n 2, 1) := by decide +kernel
theorem dX8_frames_9 : decode cX8_frames 9 = .ok (.invokevirtual 99, 3) := by decide +kernel
theorem dX8_frames_12 : decode cX8_frames 12 = .ok (.ifCond .eq 17, 3) := by decide +kernel
theorem dX8_frames_15 : decode cX8_frames 15 = .ok (.aload_n 0, 1) := by decide +kernel
theorem dX8_frames_16 : decode cX8_frames 16 = .ok (.getfield 19, 3) := by decide +kernel
theorem dX8_frames_19 : decode cX8_frames 19 = .ok (.bipush 6, 2) := by decide +kernel
theorem dX8_frames_21 : decode cX8_frames 21 = .ok (.iload_n 1, 1) := by decide +kernel
theorem dX8_frames_22 : decode cX8_frames 22 = .ok (.imul, 1) := by decide +kernel
theorem dX8_frames_23 : decode cX8_frames 23 = .ok (.iload_n 2, 1) := by decide +kernel
theorem dX8_frames_24 : decode cX8_frames 24 = .ok (.iadd, 1) := by decide +kernel
theorem dX8_frames_25 : decode cX8_frames 25 = .ok (.iaload, 1) := by decide +kernel
theorem dX8_frames_26 : decode cX8_frames 26 = .ok (.goto 4, 3) := by decide +kernel
theorem dX8_frames_29 : decode cX8_frames 29 = .ok (.iconst (-1), 1) := by decide +kernel
theorem dX8_frames_30 : decode cX8_frames 30 = .ok (.ireturn, 1) := by decide +kernel
theorem dX8_isOther_0 : decode cX8_isOther 0 = .ok (.iconst 0, 1) := by decide +kernel
theorem dX8_isOther_1 : decode cX8_isOther 1 = .ok (.istore_n 1, 1) := by decide +kernel
theorem dX8_isOther_2 : decode cX8_isOther 2 = .ok (.iconst 0, 1) := by decide +kernel
theorem dX8_isOther_3 : decode cX8_isOther 3 = .ok (.istore_n 2, 1) := by decide +kernel
theorem dX8_isOther_4 : decode cX8_isOther 4 = .ok (.iload_n 2, 1) := by decide +kernel
theorem dX8_isOther_5 : decode cX8_isOther 5 = .ok (.bipush 12, 2) := by decide +kernel
theorem dX8_isOther_7 : decode cX8_isOther 7 = .ok (.if_icmp .ge 52, 3) := by decide +kernel
theorem dX8_isOther_10 : decode cX8_isOther 10 = .ok (.aload_n 0, 1) := by decide +kernel
theorem dX8_isOther_11 : decode cX8_isOther 11 = .ok (.getfield 7, 3) := by decide +kernel
theorem dX8_isOther_14 : decode cX8_isOther 14 = .ok (.bipush 42, 2) := by decide +kernel
theorem dX8_isOther_16 : decode cX8_isOther 16 = .ok (.bipush 16, 2) := by decide +kernel
theorem dX8_isOther_18 : decode cX8_isOther 18 = .ok (.iload_n 2, 1) := by decide +kernel
theorem dX8_isOther_19 : decode cX8_isOther 19 = .ok (.imul, 1) := by decide +kernel
theorem dX8_isOther_20 : decode cX8_isOther 20 = .ok (.iadd, 1) := by decide +kernel
theorem dX8_isOther_21 : decode cX8_isOther 21 = .ok (.bipush 14, 2) := by decide +kernel
theorem dX8_isOther_23 : decode cX8_isOther 23 = .ok (.iadd, 1) := by decide +kernel
theorem dX8_isOther_24 : decode cX8_isOther 24 = .ok (.iaload, 1) := by decide +kernel
theorem dX8_isOther_25 : decode cX8_isOther 25 = .ok (.istore_n 3, 1) := by decide +kernel
theorem dX8_isOther_26 : decode cX8_isOther 26 = .ok (.iload_n 1, 1) := by decide +kernel
theorem dX8_isOther_27 : decode cX8_isOther 27 = .ok (.ifCond .ne 13, 3) := by decide +kernel
theorem dX8_isOther_30 : decode cX8_isOther 30 = .ok (.iload_n 3, 1) := by decide +kernel
theorem dX8_isOther_31 : decode cX8_isOther 31 = .ok (.aload_n 0, 1) := by decide +kernel
theorem dX8_isOther_32 : decode cX8_isOther 32 = .ok (.getfield 41, 3) := by decide +kernel
theorem dX8_isOther_35 : decode cX8_isOther 35 = .ok (.iload_n 2, 1) := by decide +kernel
theorem dX8_isOther_36 : decode cX8_isOther 36 = .ok (.iaload, 1) := by decide +kernel
theorem dX8_isOther_37 : decode cX8_isOther 37 = .ok (.if_icmp .eq 7, 3) := by decide +kernel
theorem dX8_isOther_40 : decode cX8_isOther 40 = .ok (.iconst 1, 1) := by decide +kernel
theorem dX8_isOther_41 : decode cX8_isOther 41 = .ok (.goto 4, 3) := by decide +kernel
theorem dX8_isOther_44 : decode cX8_isOther 44 = .ok (.iconst 0, 1) := by decide +kernel
theorem dX8_isOther_45 : decode cX8_isOther 45 = .ok (.istore_n 1, 1) := by decide +kernel
theorem dX8_isOther_46 : decode cX8_isOther 46 = .ok (.aload_n 0, 1) := by decide +kernel
theorem dX8_isOther_47 : decode cX8_isOther 47 = .ok (.getfield 41, 3) := by decide +kernel
theorem dX8_isOther_50 : decode cX8_isOther 50 = .ok (.iload_n 2, 1) := by decide +kernel
theorem dX8_isOther_51 : decode cX8_isOther 51 = .ok (.iload_n 3, 1) := by decide +kernel
theorem dX8_isOther_52 : decode cX8_isOther 52 = .ok (.iastore, 1) := by decide +kernel
theorem dX8_isOther_53 : decode cX8_isOther 53 = .ok (.iinc 2 1, 3) := by decide +kernel
theorem dX8_isOther_56 : decode cX8_isOther 56 = .ok (.goto (-52), 3) := by decide +kernel
theorem dX8_isOther_59 : decode cX8_isOther 59 = .ok (.iconst 0, 1) := by decide +kernel
theorem dX8_isOther_60 : decode cX8_isOther 60 = .ok (.istore_n 2, 1) := by decide +kernel
theorem dX8_isOther_61 : decode cX8_isOther 61 = .ok (.iload_n 2, 1) := by decide +kernel
theorem dX8_isOther_62 : decode cX8_isOther 62 = .ok (.bipush 16, 2) := by decide +kernel
theorem dX8_isOther_64 : decode cX8_isOther 64 = .ok (.if_icmp .ge 54, 3) := by decide +kernel
theorem dX8_isOther_67 : decode cX8_isOther 67 = .ok (.aload_n 0, 1) := by decide +kernel
theorem dX8_isOther_68 : decode cX8_isOther 68 = .ok (.getfield 7, 3) := by decide +kernel
theorem dX8_isOther_71 : decode cX8_isOther 71 = .ok (.bipush 10, 2) := by decide +kernel
theorem dX8_isOther_73 : decode cX8_isOther 73 = .ok (.iconst 2, 1) := by decide +kernel
theorem dX8_isOther_74 : decode cX8_isOther 74 = .ok (.iload_n 2, 1) := by decide +kernel
theorem dX8_isOther_75 : decode cX8_isOther 75 = .ok (.imul, 1) := by decide +kernel
theorem dX8_isOther_76 : decode cX8_isOther 76 = .ok (.iadd, 1) := by decide +kernel
theorem dX8_isOther_77 : decode cX8_isOther 77 = .ok (.iaload, 1) := by decide +kernel
theorem dX8_isOther_78 : decode cX8_isOther 78 = .ok (.istore_n 3, 1) := by decide +kernel
theorem dX8_isOther_79 : decode cX8_isOther 79 = .ok (.iload_n 1, 1) := by decide +kernel
theorem dX8_isOther_80 : decode cX8_isOther 80 = .ok (.ifCond .ne 16, 3) := by decide +kernel
theorem dX8_isOther_83 : decode cX8_isOther 83 = .ok (.iload_n 3, 1) := by decide +kernel
theorem dX8_isOther_84 : decode cX8_isOther 84 = .ok (.aload_n 0, 1) := by decide +kernel
theorem dX8_isOther_85 : decode cX8_isOther 85 = .ok (.getfield 41, 3) := by decide +kernel
theorem dX8_isOther_88 : decode cX8_isOther 88 = .ok (.bipush 12, 2) := by decide +kernel
theorem dX8_isOther_90 : decode cX8_isOther 90 = .ok (.iload_n 2, 1) := by decide +kernel
theorem dX8_isOther_91 : decode cX8_isOther 91 = .ok (.iadd, 1) := by decide +kernel
theorem dX8_isOther_92 : decode cX8_isOther 92 = .ok (.iaload, 1) := by decide +kernel
theorem dX8_isOther_93 : decode cX8_isOther 93 = .ok (.if_icmp .eq 7, 3) := by decide +kernel
theorem dX8_isOther_96 : decode cX8_isOther 96 = .ok (.iconst 1, 1) := by decide +kernel
theorem dX8_isOther_97 : decode cX8_isOther 97 = .ok (.goto 4, 3) := by decide +kernel
theorem dX8_isOther_100 : decode cX8_isOther 100 = .ok (.iconst 0, 1) := by decide +kernel
theorem dX8_isOther_101 : decode cX8_isOther 101 = .ok (.istore_n 1, 1) := by decide +kernel
theorem dX8_isOther_102 : decode cX8_isOther 102 = .ok (.aload_n 0, 1) := by decide +kernel
theorem dX8_isOther_103 : decode cX8_isOther 103 = .ok (.getfield 41, 3) := by decide +kernel
theorem dX8_isOther_106 : decode cX8_isOther 106 = .ok (.bipush 12, 2) := by decide +kernel
theorem dX8_isOther_108 : decode cX8_isOther 108 = .ok (.iload_n 2, 1) := by decide +kernel
theorem dX8_isOther_109 : decode cX8_isOther 109 = .ok (.iadd, 1) := by decide +kernel
theorem dX8_isOther_110 : decode cX8_isOther 110 = .ok (.iload_n 3, 1) := by decide +kernel
theorem dX8_isOther_111 : decode cX8_isOther 111 = .ok (.iastore, 1) := by decide +kernel
theorem dX8_isOther_112 : decode cX8_isOther 112 = .ok (.iinc 2 1, 3) := by decide +kernel
theorem dX8_isOther_115 : decode cX8_isOther 115 = .ok (.goto (-54), 3) := by decide +kernel
theorem dX8_isOther_118 : decode cX8_isOther 118 = .ok (.iload_n 1, 1) := by decide +kernel
theorem dX8_isOther_119 : decode cX8_isOther 119 = .ok (.ireturn, 1) := by decide +kernel
set_option maxRecDepth 20000 in
theorem ggX8_fewest_X8_isOther : GoodIn wsX8_fewest wsX8_isOther := goodIn_r _ [5, 6, 7, 71, 72, 73, 74, 75, 76, 77, 78, 79, 80, 81, 82, 83, 84, 85, 86, 87, 88] (by decide +kernel) (by decide +kernel)
set_option maxRecDepth 20000 in
theorem gX8_fewest_X8_isOther : GoodIn wsX8_fewest (wsV RX8 173 RX8 yX8_isOther wsX8_isOther) := goodIn_app (goodIn_of _ (by decide +kernel)) ggX8_fewest_X8_isOther
set_option maxRecDepth 20000 in
theorem ggX8_fewest_X8_ticks : GoodIn wsX8_fewest wsX8_ticks := goodIn_r _ [11, 6, 12, 13, 14, 15, 4, 16, 17, 18, 19, 20, 21, 22, 23, 24, 25, 26, 27, 28, 29, 30, 31, 32, 33, 34, 35, 36, 37, 38, 39, 40, 41, 42, 43, 44, 45, 46, 47, 48, 49, 50, 51, 52, 53, 54, 55, 56, 57, 58, 59, 60, 61, 62, 63, 64, 65, 66, 67, 68, 69, 70, 71, 72, 73, 74, 75, 76, 77, 78, 79, 80, 81, 82, 83, 84, 85, 86, 87, 88] (by decide +kernel) (by decide +kernel)
set_option maxRecDepth 20000 in
theorem gX8_fewest_X8_ticks : GoodIn wsX8_fewest (wsV RX8 161 RX8 yX8_ticks wsX8_ticks) := goodIn_app (goodIn_of _ (by decide +kernel)) ggX8_fewest_X8_ticks
theorem dX8_fewest_0 : decode cX8_fewest 0 = .ok (.iconst 0, 1) := by decide +kernel
theorem dX8_fewest_1 : decode cX8_fewest 1 = .ok (.istore_n 1, 1) := by decide +kernel
theorem dX8_fewest_2 : decode cX8_fewest 2 = .ok (.aload_n 0, 1) := by decide +kernel
theorem dX8_fewest_3 : decode cX8_fewest 3 = .ok (.invokevirtual 173, 3) := by decide +kernel
theorem dX8_fewest_6 : decode cX8_fewest 6 = .ok (.istore_n 2, 1) := by decide +kernel
theorem dX8_fewest_7 : decode cX8_fewest 7 = .ok (.iconst 1, 1) := by decide +kernel
theorem dX8_fewest_8 : decode cX8_fewest 8 = .ok (.istore_n 3, 1) := by decide +kernel
theorem dX8_fewest_9 : decode cX8_fewest 9 = .ok (.iload_n 3, 1) := by decide +kernel
theorem dX8_fewest_10 : decode cX8_fewest 10 = .ok (.bipush 46, 2) := by decide +kernel
theorem dX8_fewest_12 : decode cX8_fewest 12 = .ok (.if_icmp .gt 38, 3) := by decide +kernel
theorem dX8_fewest_15 : decode cX8_fewest 15 = .ok (.aload_n 0, 1) := by decide +kernel
theorem dX8_fewest_16 : decode cX8_fewest 16 = .ok (.invokevirtual 161, 3) := by decide +kernel
theorem dX8_fewest_19 : decode cX8_fewest 19 = .ok (.aload_n 0, 1) := by decide +kernel
theorem dX8_fewest_20 : decode cX8_fewest 20 = .ok (.invokevirtual 173, 3) := by decide +kernel
theorem dX8_fewest_23 : decode cX8_fewest 23 = .ok (.istore_n 2, 1) := by decide +kernel
theorem dX8_fewest_24 : decode cX8_fewest 24 = .ok (.iload_n 2, 1) := by decide +kernel
theorem dX8_fewest_25 : decode cX8_fewest 25 = .ok (.ifCond .eq 7, 3) := by decide +kernel
theorem dX8_fewest_28 : decode cX8_fewest 28 = .ok (.iload_n 3, 1) := by decide +kernel
theorem dX8_fewest_29 : decode cX8_fewest 29 = .ok (.goto 4, 3) := by decide +kernel
theorem dX8_fewest_32 : decode cX8_fewest 32 = .ok (.iload_n 1, 1) := by decide +kernel
theorem dX8_fewest_33 : decode cX8_fewest 33 = .ok (.istore_n 1, 1) := by decide +kernel
theorem dX8_fewest_34 : decode cX8_fewest 34 = .ok (.iload_n 3, 1) := by decide +kernel
theorem dX8_fewest_35 : decode cX8_fewest 35 = .ok (.iload_n 1, 1) := by decide +kernel
theorem dX8_fewest_36 : decode cX8_fewest 36 = .ok (.isub, 1) := by decide +kernel
theorem dX8_fewest_37 : decode cX8_fewest 37 = .ok (.bipush 6, 2) := by decide +kernel
theorem dX8_fewest_39 : decode cX8_fewest 39 = .ok (.if_icmp .ne 5, 3) := by decide +kernel
theorem dX8_fewest_42 : decode cX8_fewest 42 = .ok (.iload_n 1, 1) := by decide +kernel
theorem dX8_fewest_43 : decode cX8_fewest 43 = .ok (.ireturn, 1) := by decide +kernel
theorem dX8_fewest_44 : decode cX8_fewest 44 = .ok (.iinc 3 1, 3) := by decide +kernel
theorem dX8_fewest_47 : decode cX8_fewest 47 = .ok (.goto (-38), 3) := by decide +kernel
theorem dX8_fewest_50 : decode cX8_fewest 50 = .ok (.bipush (-4), 2) := by decide +kernel
theorem dX8_fewest_52 : decode cX8_fewest 52 = .ok (.ireturn, 1) := by decide +kernel
set_option maxRecDepth 20000 in
theorem ggX8_settled_X8_fewest : GoodIn wsX8_settled wsX8_fewest := goodIn_r _ [7, 8, 9, 10, 6, 11, 2, 12, 13, 14, 15, 16, 17, 18, 19, 20, 21, 22, 23, 24, 25, 26, 27, 28, 29, 30, 31, 32, 33, 34, 35, 36, 37, 38, 39, 40, 41, 42, 43, 44, 45, 46, 47, 48, 49, 50, 51, 52, 53, 54, 55, 56, 57, 58, 59, 60, 61, 62, 63, 64, 65, 66, 67, 68, 69, 70, 71, 72, 73, 74, 75, 76, 77, 78, 79, 80, 81, 82, 83, 84, 85, 86, 87, 88, 89, 90, 91, 92, 93] (by decide +kernel) (by decide +kernel)
set_option maxRecDepth 20000 in
theorem gX8_settled_X8_fewest : GoodIn wsX8_settled (wsV RX8 176 RX8 yX8_fewest wsX8_fewest) := goodIn_app (goodIn_of _ (by decide +kernel)) ggX8_settled_X8_fewest
theorem dX8_settled_0 : decode cX8_settled 0 = .ok (.iconst 0, 1) := by decide +kernel
theorem dX8_settled_1 : decode cX8_settled 1 = .ok (.istore_n 1, 1) := by decide +kernel
theorem dX8_settled_2 : decode cX8_settled 2 = .ok (.iload_n 1, 1) := by decide +kernel
theorem dX8_settled_3 : decode cX8_settled 3 = .ok (.sipush 235, 3) := by decide +kernel
theorem dX8_settled_6 : decode cX8_settled 6 = .ok (.if_icmp .ge 21, 3) := by decide +kernel
theorem dX8_settled_9 : decode cX8_settled 9 = .ok (.aload_n 0, 1) := by decide +kernel
theorem dX8_settled_10 : decode cX8_settled 10 = .ok (.getfield 13, 3) := by decide +kernel
theorem dX8_settled_13 : decode cX8_settled 13 = .ok (.iload_n 1, 1) := by decide +kernel
theorem dX8_settled_14 : decode cX8_settled 14 = .ok (.aload_n 0, 1) := by decide +kernel
theorem dX8_settled_15 : decode cX8_settled 15 = .ok (.getfield 7, 3) := by decide +kernel
theorem dX8_settled_18 : decode cX8_settled 18 = .ok (.iload_n 1, 1) := by decide +kernel
theorem dX8_settled_19 : decode cX8_settled 19 = .ok (.iaload, 1) := by decide +kernel
theorem dX8_settled_20 : decode cX8_settled 20 = .ok (.iastore, 1) := by decide +kernel
theorem dX8_settled_21 : decode cX8_settled 21 = .ok (.iinc 1 1, 3) := by decide +kernel
theorem dX8_settled_24 : decode cX8_settled 24 = .ok (.goto (-22), 3) := by decide +kernel
theorem dX8_settled_27 : decode cX8_settled 27 = .ok (.aload_n 0, 1) := by decide +kernel
theorem dX8_settled_28 : decode cX8_settled 28 = .ok (.invokevirtual 176, 3) := by decide +kernel
theorem dX8_settled_31 : decode cX8_settled 31 = .ok (.istore_n 1, 1) := by decide +kernel
theorem dX8_settled_32 : decode cX8_settled 32 = .ok (.iconst 0, 1) := by decide +kernel
theorem dX8_settled_33 : decode cX8_settled 33 = .ok (.istore_n 2, 1) := by decide +kernel
theorem dX8_settled_34 : decode cX8_settled 34 = .ok (.iload_n 2, 1) := by decide +kernel
theorem dX8_settled_35 : decode cX8_settled 35 = .ok (.sipush 235, 3) := by decide +kernel
theorem dX8_settled_38 : decode cX8_settled 38 = .ok (.if_icmp .ge 21, 3) := by decide +kernel
theorem dX8_settled_41 : decode cX8_settled 41 = .ok (.aload_n 0, 1) := by decide +kernel
theorem dX8_settled_42 : decode cX8_settled 42 = .ok (.getfield 7, 3) := by decide +kernel
theorem dX8_settled_45 : decode cX8_settled 45 = .ok (.iload_n 2, 1) := by decide +kernel
theorem dX8_settled_46 : decode cX8_settled 46 = .ok (.aload_n 0, 1) := by decide +kernel
theorem dX8_settled_47 : decode cX8_settled 47 = .ok (.getfield 13, 3) := by decide +kernel
theorem dX8_settled_50 : decode cX8_settled 50 = .ok (.iload_n 2, 1) := by decide +kernel
theorem dX8_settled_51 : decode cX8_settled 51 = .ok (.iaload, 1) := by decide +kernel
theorem dX8_settled_52 : decode cX8_settled 52 = .ok (.iastore, 1) := by decide +kernel
theorem dX8_settled_53 : decode cX8_settled 53 = .ok (.iinc 2 1, 3) := by decide +kernel
theorem dX8_settled_56 : decode cX8_settled 56 = .ok (.goto (-22), 3) := by decide +kernel
theorem dX8_settled_59 : decode cX8_settled 59 = .ok (.iload_n 1, 1) := by decide +kernel
theorem dX8_settled_60 : decode cX8_settled 60 = .ok (.ireturn, 1) := by decide +kernel
set_option maxRecDepth 20000 in
theorem ggX8_count_X8_upMany : GoodIn wsX8_count wsX8_upMany := goodIn_r _ [11, 1, 2, 12, 13, 14, 15, 16, 17, 18, 19, 20, 21, 22, 23, 24, 25, 26, 27, 28, 29] (by decide +kernel) (by decide +kernel)
set_option maxRecDepth 20000 in
theorem gX8_count_X8_upMany : GoodIn wsX8_count (wsV RX8 105 RX8 yX8_upMany wsX8_upMany) := goodIn_app (goodIn_of _ (by decide +kernel)) ggX8_count_X8_upMany
theorem dX8_count_0 : decode cX8_count 0 = .ok (.iload_n 1, 1) := by decide +kernel
theorem dX8_count_1 : decode cX8_count 1 = .ok (.tableswitch 113 0 9 #[55, 60, 65, 72, 79, 86, 91, 96, 103, 108], 55) := by decide +kernel
theorem dX8_count_56 : decode cX8_count 56 = .ok (.aload_n 0, 1) := by decide +kernel
theorem dX8_count_57 : decode cX8_count 57 = .ok (.getfield 83, 3) := by decide +kernel
theorem dX8_count_60 : decode cX8_count 60 = .ok (.ireturn, 1) := by decide +kernel
theorem dX8_count_61 : decode cX8_count 61 = .ok (.aload_n 0, 1) := by decide +kernel
theorem dX8_count_62 : decode cX8_count 62 = .ok (.invokevirtual 105, 3) := by decide +kernel
theorem dX8_count_65 : decode cX8_count 65 = .ok (.ireturn, 1) := by decide +kernel
theorem dX8_count_66 : decode cX8_count 66 = .ok (.aload_n 0, 1) := by decide +kernel
theorem dX8_count_67 : decode cX8_count 67 = .ok (.getfield 7, 3) := by decide +kernel
theorem dX8_count_70 : decode cX8_count 70 = .ok (.iconst 0, 1) := by decide +kernel
theorem dX8_count_71 : decode cX8_count 71 = .ok (.iaload, 1) := by decide +kernel
theorem dX8_count_72 : decode cX8_count 72 = .ok (.ireturn, 1) := by decide +kernel
theorem dX8_count_73 : decode cX8_count 73 = .ok (.aload_n 0, 1) := by decide +kernel
theorem dX8_count_74 : decode cX8_count 74 = .ok (.getfield 7, 3) := by decide +kernel
theorem dX8_count_77 : decode cX8_count 77 = .ok (.iconst 1, 1) := by decide +kernel
theorem dX8_count_78 : decode cX8_count 78 = .ok (.iaload, 1) := by decide +kernel
theorem dX8_count_79 : decode cX8_count 79 = .ok (.ireturn, 1) := by decide +kernel
theorem dX8_count_80 : decode cX8_count 80 = .ok (.aload_n 0, 1) := by decide +kernel
theorem dX8_count_81 : decode cX8_count 81 = .ok (.getfield 7, 3) := by decide +kernel
theorem dX8_count_84 : decode cX8_count 84 = .ok (.iconst 2, 1) := by decide +kernel
theorem dX8_count_85 : decode cX8_count 85 = .ok (.iaload, 1) := by decide +kernel
theorem dX8_count_86 : decode cX8_count 86 = .ok (.ireturn, 1) := by decide +kernel
theorem dX8_count_87 : decode cX8_count 87 = .ok (.aload_n 0, 1) := by decide +kernel
theorem dX8_count_88 : decode cX8_count 88 = .ok (.getfield 86, 3) := by decide +kernel
theorem dX8_count_91 : decode cX8_count 91 = .ok (.ireturn, 1) := by decide +kernel
theorem dX8_count_92 : decode cX8_count 92 = .ok (.aload_n 0, 1) := by decide +kernel
theorem dX8_count_93 : decode cX8_count 93 = .ok (.getfield 89, 3) := by decide +kernel
theorem dX8_count_96 : decode cX8_count 96 = .ok (.ireturn, 1) := by decide +kernel
theorem dX8_count_97 : decode cX8_count 97 = .ok (.aload_n 0, 1) := by decide +kernel
theorem dX8_count_98 : decode cX8_count 98 = .ok (.getfield 7, 3) := by decide +kernel
theorem dX8_count_101 : decode cX8_count 101 = .ok (.iconst 3, 1) := by decide +kernel
theorem dX8_count_102 : decode cX8_count 102 = .ok (.iaload, 1) := by decide +kernel
theorem dX8_count_103 : decode cX8_count 103 = .ok (.ireturn, 1) := by decide +kernel
theorem dX8_count_104 : decode cX8_count 104 = .ok (.aload_n 0, 1) := by decide +kernel
theorem dX8_count_105 : decode cX8_count 105 = .ok (.getfield 96, 3) := by decide +kernel
theorem dX8_count_108 : decode cX8_count 108 = .ok (.ireturn, 1) := by decide +kernel
theorem dX8_count_109 : decode cX8_count 109 = .ok (.aload_n 0, 1) := by decide +kernel
theorem dX8_count_110 : decode cX8_count 110 = .ok (.getfield 61, 3) := by decide +kernel
theorem dX8_count_113 : decode cX8_count 113 = .ok (.ireturn, 1) := by decide +kernel
theorem dX8_count_114 : decode cX8_count 114 = .ok (.iconst (-1), 1) := by decide +kernel
theorem dX8_count_115 : decode cX8_count 115 = .ok (.ireturn, 1) := by decide +kernel
theorem dJ9_min_7cf53_0 : decode cJ9_min_7cf53 0 = .ok (.iload_n 0, 1) := by decide +kernel
theorem dJ9_min_7cf53_1 : decode cJ9_min_7cf53 1 = .ok (.iload_n 1, 1) := by decide +kernel
theorem dJ9_min_7cf53_2 : decode cJ9_min_7cf53 2 = .ok (.if_icmp .gt 7, 3) := by decide +kernel
theorem dJ9_min_7cf53_5 : decode cJ9_min_7cf53 5 = .ok (.iload_n 0, 1) := by decide +kernel
theorem dJ9_min_7cf53_6 : decode cJ9_min_7cf53 6 = .ok (.goto 4, 3) := by decide +kernel
theorem dJ9_min_7cf53_9 : decode cJ9_min_7cf53 9 = .ok (.iload_n 1, 1) := by decide +kernel
theorem dJ9_min_7cf53_10 : decode cJ9_min_7cf53 10 = .ok (.ireturn, 1) := by decide +kernel
set_option maxRecDepth 20000 in
theorem ggJ0_length_8abf5_J0_coder_7d493 : GoodIn wsJ0_length_8abf5 wsJ0_coder_7d493 := goodIn_r _ [6, 7, 8] (by decide +kernel) (by decide +kernel)
set_option maxRecDepth 20000 in
theorem gJ0_length_8abf5_J0_coder_7d493 : GoodIn wsJ0_length_8abf5 (wsV RJ0 335 RJ0 yJ0_coder_7d493 wsJ0_coder_7d493) := goodIn_app (goodIn_of _ (by decide +kernel)) ggJ0_length_8abf5_J0_coder_7d493
theorem dJ0_length_8abf5_0 : decode cJ0_length_8abf5 0 = .ok (.aload_n 0, 1) := by decide +kernel
theorem dJ0_length_8abf5_1 : decode cJ0_length_8abf5 1 = .ok (.getfield 9, 3) := by decide +kernel
theorem dJ0_length_8abf5_4 : decode cJ0_length_8abf5 4 = .ok (.arraylength, 1) := by decide +kernel
theorem dJ0_length_8abf5_5 : decode cJ0_length_8abf5 5 = .ok (.aload_n 0, 1) := by decide +kernel
theorem dJ0_length_8abf5_6 : decode cJ0_length_8abf5 6 = .ok (.invokevirtual 335, 3) := by decide +kernel
theorem dJ0_length_8abf5_9 : decode cJ0_length_8abf5 9 = .ok (.ishr, 1) := by decide +kernel
theorem dJ0_length_8abf5_10 : decode cJ0_length_8abf5 10 = .ok (.ireturn, 1) := by decide +kernel
set_option maxRecDepth 20000 in
theorem ggJ0_charAt_5068e_J0_isLatin1_aae02 : GoodIn wsJ0_charAt_5068e wsJ0_isLatin1_aae02 := goodIn_r _ [6, 7, 8] (by decide +kernel) (by decide +kernel)
set_option maxRecDepth 20000 in
theorem gJ0_charAt_5068e_J0_isLatin1_aae02 : GoodIn wsJ0_charAt_5068e (wsV RJ0 492 RJ0 yJ0_isLatin1_aae02 wsJ0_isLatin1_aae02) := goodIn_app (goodIn_of _ (by decide +kernel)) ggJ0_charAt_5068e_J0_isLatin1_aae02
set_option maxRecDepth 20000 in
theorem ggJ0_charAt_5068e_J1_charAt_3b067 : GoodIn wsJ0_charAt_5068e wsJ1_charAt_3b067 := goodIn_r _ [12, 13, 14, 5, 15, 16, 17, 18, 19, 20] (by decide +kernel) (by decide +kernel)
set_option maxRecDepth 20000 in
theorem gJ0_charAt_5068e_J1_charAt_3b067 : GoodIn wsJ0_charAt_5068e (va_wsS RJ0 495 yJ1_charAt_3b067 wsJ1_charAt_3b067) := goodIn_app (goodIn_of _ (by decide +kernel)) ggJ0_charAt_5068e_J1_charAt_3b067
set_option maxRecDepth 20000 in
theorem ggJ0_charAt_5068e_J2_charAt_3b067 : GoodIn wsJ0_charAt_5068e wsJ2_charAt_3b067 := goodIn_r _ [24, 25, 26, 23, 27, 28, 29, 30, 31, 14, 5, 15, 16, 17, 18, 19, 20, 32, 33, 34, 35, 36, 37] (by decide +kernel) (by decide +kernel)
set_option maxRecDepth 20000 in
theorem gJ0_charAt_5068e_J2_charAt_3b067 : GoodIn wsJ0_charAt_5068e (va_wsS RJ0 498 yJ2_charAt_3b067 wsJ2_charAt_3b067) := goodIn_app (goodIn_of _ (by decide +kernel)) ggJ0_charAt_5068e_J2_charAt_3b067
theorem dJ0_charAt_5068e_0 : decode cJ0_charAt_5068e 0 = .ok (.aload_n 0, 1) := by decide +kernel
theorem dJ0_charAt_5068e_1 : decode cJ0_charAt_5068e 1 = .ok (.invokevirtual 492, 3) := by decide +kernel
theorem dJ0_charAt_5068e_4 : decode cJ0_charAt_5068e 4 = .ok (.ifCond .eq 12, 3) := by decide +kernel
theorem dJ0_charAt_5068e_7 : decode cJ0_charAt_5068e 7 = .ok (.aload_n 0, 1) := by decide +kernel
theorem dJ0_charAt_5068e_8 : decode cJ0_charAt_5068e 8 = .ok (.getfield 9, 3) := by decide +kernel
theorem dJ0_charAt_5068e_11 : decode cJ0_charAt_5068e 11 = .ok (.iload_n 1, 1) := by decide +kernel
theorem dJ0_charAt_5068e_12 : decode cJ0_charAt_5068e 12 = .ok (.invokestatic 495, 3) := by decide +kernel
theorem dJ0_charAt_5068e_15 : decode cJ0_charAt_5068e 15 = .ok (.ireturn, 1) := by decide +kernel
theorem dJ0_charAt_5068e_16 : decode cJ0_charAt_5068e 16 = .ok (.aload_n 0, 1) := by decide +kernel
theorem dJ0_charAt_5068e_17 : decode cJ0_charAt_5068e 17 = .ok (.getfield 9, 3) := by decide +kernel
theorem dJ0_charAt_5068e_20 : decode cJ0_charAt_5068e 20 = .ok (.iload_n 1, 1) := by decide +kernel
theorem dJ0_charAt_5068e_21 : decode cJ0_charAt_5068e 21 = .ok (.invokestatic 498, 3) := by decide +kernel
theorem dJ0_charAt_5068e_24 : decode cJ0_charAt_5068e 24 = .ok (.ireturn, 1) := by decide +kernel
theorem dJ0_coder_7d493_0 : decode cJ0_coder_7d493 0 = .ok (.getstatic 38, 3) := by decide +kernel
theorem dJ0_coder_7d493_3 : decode cJ0_coder_7d493 3 = .ok (.ifCond .eq 10, 3) := by decide +kernel
theorem dJ0_coder_7d493_6 : decode cJ0_coder_7d493 6 = .ok (.aload_n 0, 1) := by decide +kernel
theorem dJ0_coder_7d493_7 : decode cJ0_coder_7d493 7 = .ok (.getfield 15, 3) := by decide +kernel
theorem dJ0_coder_7d493_10 : decode cJ0_coder_7d493 10 = .ok (.goto 4, 3) := by decide +kernel
theorem dJ0_coder_7d493_13 : decode cJ0_coder_7d493 13 = .ok (.iconst 1, 1) := by decide +kernel
theorem dJ0_coder_7d493_14 : decode cJ0_coder_7d493 14 = .ok (.ireturn, 1) := by decide +kernel
theorem dJ0_isLatin1_aae02_0 : decode cJ0_isLatin1_aae02 0 = .ok (.getstatic 38, 3) := by decide +kernel
theorem dJ0_isLatin1_aae02_3 : decode cJ0_isLatin1_aae02 3 = .ok (.ifCond .eq 14, 3) := by decide +kernel
theorem dJ0_isLatin1_aae02_6 : decode cJ0_isLatin1_aae02 6 = .ok (.aload_n 0, 1) := by decide +kernel
theorem dJ0_isLatin1_aae02_7 : decode cJ0_isLatin1_aae02 7 = .ok (.getfield 15, 3) := by decide +kernel
theorem dJ0_isLatin1_aae02_10 : decode cJ0_isLatin1_aae02 10 = .ok (.ifCond .ne 7, 3) := by decide +kernel
theorem dJ0_isLatin1_aae02_13 : decode cJ0_isLatin1_aae02 13 = .ok (.iconst 1, 1) := by decide +kernel
theorem dJ0_isLatin1_aae02_14 : decode cJ0_isLatin1_aae02 14 = .ok (.goto 4, 3) := by decide +kernel
theorem dJ0_isLatin1_aae02_17 : decode cJ0_isLatin1_aae02 17 = .ok (.iconst 0, 1) := by decide +kernel
theorem dJ0_isLatin1_aae02_18 : decode cJ0_isLatin1_aae02 18 = .ok (.ireturn, 1) := by decide +kernel
set_option maxRecDepth 20000 in
theorem ggJ0_checkIndex_df160_J3_checkIndex_8e157 : GoodIn wsJ0_checkIndex_df160 wsJ3_checkIndex_8e157 := goodIn_r _ [5] (by decide +kernel) (by decide +kernel)
set_option maxRecDepth 20000 in
theorem gJ0_checkIndex_df160_J3_checkIndex_8e157 : GoodIn wsJ0_checkIndex_df160 (va_wsS RJ0 1059 yJ3_checkIndex_8e157 wsJ3_checkIndex_8e157) := goodIn_app (goodIn_of _ (by decide +kernel)) ggJ0_checkIndex_df160_J3_checkIndex_8e157
theorem dJ0_checkIndex_df160_0 : decode cJ0_checkIndex_df160 0 = .ok (.iload_n 0, 1) := by decide +kernel
theorem dJ0_checkIndex_df160_1 : decode cJ0_checkIndex_df160 1 = .ok (.iload_n 1, 1) := by decide +kernel
theorem dJ0_checkIndex_df160_2 : decode cJ0_checkIndex_df160 2 = .ok (.getstatic 1053, 3) := by decide +kernel
theorem dJ0_checkIndex_df160_5 : decode cJ0_checkIndex_df160 5 = .ok (.invokestatic 1059, 3) := by decide +kernel
theorem dJ0_checkIndex_df160_8 : decode cJ0_checkIndex_df160 8 = .ok (.pop, 1) := by decide +kernel
theorem dJ0_checkIndex_df160_9 : decode cJ0_checkIndex_df160 9 = .ok (.return_, 1) := by decide +kernel
set_option maxRecDepth 20000 in
theorem ggJ1_charAt_3b067_J0_checkIndex_df160 : GoodIn wsJ1_charAt_3b067 wsJ0_checkIndex_df160 := goodIn_r _ [4, 5, 6, 7, 8, 9] (by decide +kernel) (by decide +kernel)
end
section
set_option maxRecDepth 20000 in
theorem gJ1_charAt_3b067_J0_checkIndex_df160 : GoodIn wsJ1_charAt_3b067 (va_wsS RJ1 9 yJ0_checkIndex_df160 wsJ0_checkIndex_df160) := goodIn_app (goodIn_of _ (by decide +kernel)) ggJ1_charAt_3b067_J0_checkIndex_df160
theorem dJ1_charAt_3b067_0 : decode cJ1_charAt_3b067 0 = .ok (.iload_n 1, 1) := by decide +kernel
theorem dJ1_charAt_3b067_1 : decode cJ1_charAt_3b067 1 = .ok (.aload_n 0, 1) := by decide +kernel
theorem dJ1_charAt_3b067_2 : decode cJ1_charAt_3b067 2 = .ok (.arraylength, 1) := by decide +kernel
theorem dJ1_charAt_3b067_3 : decode cJ1_charAt_3b067 3 = .ok (.invokestatic 9, 3) := by decide +kernel
theorem dJ1_charAt_3b067_6 : decode cJ1_charAt_3b067 6 = .ok (.aload_n 0, 1) := by decide +kernel
theorem dJ1_charAt_3b067_7 : decode cJ1_charAt_3b067 7 = .ok (.iload_n 1, 1) := by decide +kernel
theorem dJ1_charAt_3b067_8 : decode cJ1_charAt_3b067 8 = .ok (.baload, 1) := by decide +kernel
theorem dJ1_charAt_3b067_9 : decode cJ1_charAt_3b067 9 = .ok (.sipush 255, 3) := by decide +kernel
theorem dJ1_charAt_3b067_12 : decode cJ1_charAt_3b067 12 = .ok (.iand, 1) := by decide +kernel
theorem dJ1_charAt_3b067_13 : decode cJ1_charAt_3b067 13 = .ok (.i2c, 1) := by decide +kernel
theorem dJ1_charAt_3b067_14 : decode cJ1_charAt_3b067 14 = .ok (.ireturn, 1) := by decide +kernel
set_option maxRecDepth 20000 in
theorem ggJ2_getChar_3b067_J2_length_9d52b : GoodIn wsJ2_getChar_3b067 wsJ2_length_9d52b := goodIn_r _ [7] (by decide +kernel) (by decide +kernel)
set_option maxRecDepth 20000 in
theorem gJ2_getChar_3b067_J2_length_9d52b : GoodIn wsJ2_getChar_3b067 (va_wsS RJ2 48 yJ2_length_9d52b wsJ2_length_9d52b) := goodIn_app (goodIn_of _ (by decide +kernel)) ggJ2_getChar_3b067_J2_length_9d52b
theorem dJ2_getChar_3b067_0 : decode cJ2_getChar_3b067 0 = .ok (.getstatic 44, 3) := by decide +kernel
theorem dJ2_getChar_3b067_3 : decode cJ2_getChar_3b067 3 = .ok (.ifCond .ne 25, 3) := by decide +kernel
theorem dJ2_getChar_3b067_6 : decode cJ2_getChar_3b067 6 = .ok (.iload_n 1, 1) := by decide +kernel
theorem dJ2_getChar_3b067_7 : decode cJ2_getChar_3b067 7 = .ok (.ifCond .lt 11, 3) := by decide +kernel
theorem dJ2_getChar_3b067_10 : decode cJ2_getChar_3b067 10 = .ok (.iload_n 1, 1) := by decide +kernel
theorem dJ2_getChar_3b067_11 : decode cJ2_getChar_3b067 11 = .ok (.aload_n 0, 1) := by decide +kernel
theorem dJ2_getChar_3b067_12 : decode cJ2_getChar_3b067 12 = .ok (.invokestatic 48, 3) := by decide +kernel
theorem dJ2_getChar_3b067_15 : decode cJ2_getChar_3b067 15 = .ok (.if_icmp .lt 13, 3) := by decide +kernel
theorem dJ2_getChar_3b067_18 : decode cJ2_getChar_3b067 18 = .ok (.new 52, 3) := by decide +kernel
theorem dJ2_getChar_3b067_21 : decode cJ2_getChar_3b067 21 = .ok (.dup, 1) := by decide +kernel
theorem dJ2_getChar_3b067_22 : decode cJ2_getChar_3b067 22 = .ok (.ldc 54, 2) := by decide +kernel
theorem dJ2_getChar_3b067_24 : decode cJ2_getChar_3b067 24 = .ok (.invokespecial 56, 3) := by decide +kernel
theorem dJ2_getChar_3b067_27 : decode cJ2_getChar_3b067 27 = .ok (.athrow, 1) := by decide +kernel
theorem dJ2_getChar_3b067_28 : decode cJ2_getChar_3b067 28 = .ok (.iload_n 1, 1) := by decide +kernel
theorem dJ2_getChar_3b067_29 : decode cJ2_getChar_3b067 29 = .ok (.iconst 1, 1) := by decide +kernel
theorem dJ2_getChar_3b067_30 : decode cJ2_getChar_3b067 30 = .ok (.ishl, 1) := by decide +kernel
theorem dJ2_getChar_3b067_31 : decode cJ2_getChar_3b067 31 = .ok (.istore_n 1, 1) := by decide +kernel
theorem dJ2_getChar_3b067_32 : decode cJ2_getChar_3b067 32 = .ok (.aload_n 0, 1) := by decide +kernel
theorem dJ2_getChar_3b067_33 : decode cJ2_getChar_3b067 33 = .ok (.iload_n 1, 1) := by decide +kernel
theorem dJ2_getChar_3b067_34 : decode cJ2_getChar_3b067 34 = .ok (.iinc 1 1, 3) := by decide +kernel
theorem dJ2_getChar_3b067_37 : decode cJ2_getChar_3b067 37 = .ok (.baload, 1) := by decide +kernel
theorem dJ2_getChar_3b067_38 : decode cJ2_getChar_3b067 38 = .ok (.sipush 255, 3) := by decide +kernel
theorem dJ2_getChar_3b067_41 : decode cJ2_getChar_3b067 41 = .ok (.iand, 1) := by decide +kernel
theorem dJ2_getChar_3b067_42 : decode cJ2_getChar_3b067 42 = .ok (.getstatic 59, 3) := by decide +kernel
theorem dJ2_getChar_3b067_45 : decode cJ2_getChar_3b067 45 = .ok (.ishl, 1) := by decide +kernel
theorem dJ2_getChar_3b067_46 : decode cJ2_getChar_3b067 46 = .ok (.aload_n 0, 1) := by decide +kernel
theorem dJ2_getChar_3b067_47 : decode cJ2_getChar_3b067 47 = .ok (.iload_n 1, 1) := by decide +kernel
theorem dJ2_getChar_3b067_48 : decode cJ2_getChar_3b067 48 = .ok (.baload, 1) := by decide +kernel
theorem dJ2_getChar_3b067_49 : decode cJ2_getChar_3b067 49 = .ok (.sipush 255, 3) := by decide +kernel
theorem dJ2_getChar_3b067_52 : decode cJ2_getChar_3b067 52 = .ok (.iand, 1) := by decide +kernel
theorem dJ2_getChar_3b067_53 : decode cJ2_getChar_3b067 53 = .ok (.getstatic 63, 3) := by decide +kernel
theorem dJ2_getChar_3b067_56 : decode cJ2_getChar_3b067 56 = .ok (.ishl, 1) := by decide +kernel
theorem dJ2_getChar_3b067_57 : decode cJ2_getChar_3b067 57 = .ok (.ior, 1) := by decide +kernel
theorem dJ2_getChar_3b067_58 : decode cJ2_getChar_3b067 58 = .ok (.i2c, 1) := by decide +kernel
theorem dJ2_getChar_3b067_59 : decode cJ2_getChar_3b067 59 = .ok (.ireturn, 1) := by decide +kernel
theorem dJ2_length_9d52b_0 : decode cJ2_length_9d52b 0 = .ok (.aload_n 0, 1) := by decide +kernel
theorem dJ2_length_9d52b_1 : decode cJ2_length_9d52b 1 = .ok (.arraylength, 1) := by decide +kernel
theorem dJ2_length_9d52b_2 : decode cJ2_length_9d52b 2 = .ok (.iconst 1, 1) := by decide +kernel
theorem dJ2_length_9d52b_3 : decode cJ2_length_9d52b 3 = .ok (.ishr, 1) := by decide +kernel
theorem dJ2_length_9d52b_4 : decode cJ2_length_9d52b 4 = .ok (.ireturn, 1) := by decide +kernel
set_option maxRecDepth 20000 in
theorem ggJ2_charAt_3b067_J2_checkIndex_2214a : GoodIn wsJ2_charAt_3b067 wsJ2_checkIndex_2214a := goodIn_r _ [4, 5, 6, 3, 7, 8, 9, 10, 11, 12, 13, 14, 15, 16] (by decide +kernel) (by decide +kernel)
set_option maxRecDepth 20000 in
theorem gJ2_charAt_3b067_J2_checkIndex_2214a : GoodIn wsJ2_charAt_3b067 (va_wsS RJ2 67 yJ2_checkIndex_2214a wsJ2_checkIndex_2214a) := goodIn_app (goodIn_of _ (by decide +kernel)) ggJ2_charAt_3b067_J2_checkIndex_2214a
set_option maxRecDepth 20000 in
theorem ggJ2_charAt_3b067_J2_getChar_3b067 : GoodIn wsJ2_charAt_3b067 wsJ2_getChar_3b067 := goodIn_r _ [19, 20, 21, 22, 5, 6, 3, 7] (by decide +kernel) (by decide +kernel)
set_option maxRecDepth 20000 in
theorem gJ2_charAt_3b067_J2_getChar_3b067 : GoodIn wsJ2_charAt_3b067 (va_wsS RJ2 71 yJ2_getChar_3b067 wsJ2_getChar_3b067) := goodIn_app (goodIn_of _ (by decide +kernel)) ggJ2_charAt_3b067_J2_getChar_3b067
theorem dJ2_charAt_3b067_0 : decode cJ2_charAt_3b067 0 = .ok (.iload_n 1, 1) := by decide +kernel
theorem dJ2_charAt_3b067_1 : decode cJ2_charAt_3b067 1 = .ok (.aload_n 0, 1) := by decide +kernel
theorem dJ2_charAt_3b067_2 : decode cJ2_charAt_3b067 2 = .ok (.invokestatic 67, 3) := by decide +kernel
theorem dJ2_charAt_3b067_5 : decode cJ2_charAt_3b067 5 = .ok (.aload_n 0, 1) := by decide +kernel
theorem dJ2_charAt_3b067_6 : decode cJ2_charAt_3b067 6 = .ok (.iload_n 1, 1) := by decide +kernel
theorem dJ2_charAt_3b067_7 : decode cJ2_charAt_3b067 7 = .ok (.invokestatic 71, 3) := by decide +kernel
theorem dJ2_charAt_3b067_10 : decode cJ2_charAt_3b067 10 = .ok (.ireturn, 1) := by decide +kernel
set_option maxRecDepth 20000 in
theorem ggJ2_checkIndex_2214a_J2_length_9d52b : GoodIn wsJ2_checkIndex_2214a wsJ2_length_9d52b := goodIn_r _ [4] (by decide +kernel) (by decide +kernel)
set_option maxRecDepth 20000 in
theorem gJ2_checkIndex_2214a_J2_length_9d52b : GoodIn wsJ2_checkIndex_2214a (va_wsS RJ2 48 yJ2_length_9d52b wsJ2_length_9d52b) := goodIn_app (goodIn_of _ (by decide +kernel)) ggJ2_checkIndex_2214a_J2_length_9d52b
set_option maxRecDepth 20000 in
theorem ggJ2_checkIndex_2214a_J0_checkIndex_df160 : GoodIn wsJ2_checkIndex_2214a wsJ0_checkIndex_df160 := goodIn_r _ [8, 9, 10, 11, 12, 13] (by decide +kernel) (by decide +kernel)
set_option maxRecDepth 20000 in
theorem gJ2_checkIndex_2214a_J0_checkIndex_df160 : GoodIn wsJ2_checkIndex_2214a (va_wsS RJ2 414 yJ0_checkIndex_df160 wsJ0_checkIndex_df160) := goodIn_app (goodIn_of _ (by decide +kernel)) ggJ2_checkIndex_2214a_J0_checkIndex_df160
theorem dJ2_checkIndex_2214a_0 : decode cJ2_checkIndex_2214a 0 = .ok (.iload_n 0, 1) := by decide +kernel
theorem dJ2_checkIndex_2214a_1 : decode cJ2_checkIndex_2214a 1 = .ok (.aload_n 1, 1) := by decide +kernel
theorem dJ2_checkIndex_2214a_2 : decode cJ2_checkIndex_2214a 2 = .ok (.invokestatic 48, 3) := by decide +kernel
theorem dJ2_checkIndex_2214a_5 : decode cJ2_checkIndex_2214a 5 = .ok (.invokestatic 414, 3) := by decide +kernel
theorem dJ2_checkIndex_2214a_8 : decode cJ2_checkIndex_2214a 8 = .ok (.return_, 1) := by decide +kernel
theorem dJ3_checkIndex_8e157_0 : decode cJ3_checkIndex_8e157 0 = .ok (.iload_n 0, 1) := by decide +kernel
theorem dJ3_checkIndex_8e157_1 : decode cJ3_checkIndex_8e157 1 = .ok (.ifCond .lt 8, 3) := by decide +kernel
theorem dJ3_checkIndex_8e157_4 : decode cJ3_checkIndex_8e157 4 = .ok (.iload_n 0, 1) := by decide +kernel
theorem dJ3_checkIndex_8e157_5 : decode cJ3_checkIndex_8e157 5 = .ok (.iload_n 1, 1) := by decide +kernel
theorem dJ3_checkIndex_8e157_6 : decode cJ3_checkIndex_8e157 6 = .ok (.if_icmp .lt 10, 3) := by decide +kernel
theorem dJ3_checkIndex_8e157_9 : decode cJ3_checkIndex_8e157 9 = .ok (.aload_n 2, 1) := by decide +kernel
theorem dJ3_checkIndex_8e157_10 : decode cJ3_checkIndex_8e157 10 = .ok (.iload_n 0, 1) := by decide +kernel
theorem dJ3_checkIndex_8e157_11 : decode cJ3_checkIndex_8e157 11 = .ok (.iload_n 1, 1) := by decide +kernel
theorem dJ3_checkIndex_8e157_12 : decode cJ3_checkIndex_8e157 12 = .ok (.invokestatic 95, 3) := by decide +kernel
theorem dJ3_checkIndex_8e157_15 : decode cJ3_checkIndex_8e157 15 = .ok (.athrow, 1) := by decide +kernel
theorem dJ3_checkIndex_8e157_16 : decode cJ3_checkIndex_8e157 16 = .ok (.iload_n 0, 1) := by decide +kernel
theorem dJ3_checkIndex_8e157_17 : decode cJ3_checkIndex_8e157 17 = .ok (.ireturn, 1) := by decide +kernel
set_option maxRecDepth 20000 in
theorem ggL_law_X7_init : GoodIn wsL_law wsX7_init := goodIn_r _ [8, 9, 10, 11, 12, 13, 14, 15, 16, 17, 18, 19, 20, 21, 22, 23, 24, 25, 26, 27, 28, 29, 30, 31, 32, 33, 34, 35, 36, 37, 38, 39, 40, 41, 42, 43, 44, 45, 46, 47, 48, 49, 50, 51, 52, 53, 54, 55, 56, 57, 58, 59, 60, 61, 62, 63, 64, 65, 66, 67, 68, 69, 70, 71, 72, 73, 74, 75, 76, 77, 78, 79, 80, 81, 82, 83, 84, 85, 86, 87, 88, 89, 90, 91, 92, 93, 94, 95, 96, 97, 98, 99, 100, 101, 102, 103, 104, 105, 106, 107, 108, 109, 110, 111, 112, 113, 114, 115, 116, 117, 118, 119, 120, 121, 122, 123, 124, 125, 126, 127, 128, 129, 130, 131, 132, 133, 134, 135, 136, 137, 138, 139, 140, 141, 142, 143, 144, 145, 146, 147, 148, 149, 150, 151, 152, 153, 154, 155, 156, 157, 158, 159, 160, 161, 162, 163, 164, 165, 166, 167, 168, 169, 170, 171, 172, 173, 174, 175, 176, 177, 178, 179, 180, 181, 182, 183, 184, 185, 186, 187, 188, 189, 190, 191, 192, 193, 194, 195, 196, 197, 198, 199, 200, 201, 202, 203, 204, 205, 206, 207, 208, 209, 210, 211, 761, 762, 737, 738, 739, 740, 741, 742, 763, 764, 765, 766, 767, 768, 769, 770, 771, 772, 773, 774, 775, 776, 777, 778, 779, 780, 781, 782, 783, 784, 785, 786, 787, 788, 789, 790, 791, 792, 793, 794] (by decide +kernel) (by decide +kernel)
set_option maxRecDepth 20000 in
theorem gL_law_X7_init : GoodIn wsL_law (wsX7_init) := ggL_law_X7_init
set_option maxRecDepth 20000 in
theorem ggL_law_X8_init : GoodIn wsL_law wsX8_init := goodIn_r _ [214, 215, 10, 11, 24, 216, 217, 218, 219, 220, 221, 222, 223, 224, 225, 226, 227, 228, 229, 230, 5, 231, 232, 233, 234, 235, 236, 237, 238, 239, 240, 241, 242, 243, 244, 245, 246, 247, 743, 744, 745, 746, 747, 748, 749, 750, 751, 752, 753, 754, 755, 756, 757, 758, 759, 760] (by decide +kernel) (by decide +kernel)
set_option maxRecDepth 20000 in
theorem gL_law_X8_init : GoodIn wsL_law (wsX8_init) := ggL_law_X8_init
set_option maxRecDepth 20000 in
theorem ggL_law_X7_write : GoodIn wsL_law wsX7_write := goodIn_r _ [251, 15, 252, 122, 123, 124, 14, 125, 126, 31, 737, 738, 739, 740, 741, 742, 761, 762] (by decide +kernel) (by decide +kernel)
set_option maxRecDepth 20000 in
theorem gL_law_X7_write : GoodIn wsL_law (wsV RL 13 RX7 yX7_write wsX7_write) := goodIn_app (goodIn_of _ (by decide +kernel)) ggL_law_X7_write
set_option maxRecDepth 20000 in
theorem ggL_law_X8_write : GoodIn wsL_law wsX8_write := goodIn_r _ [256, 257, 220, 258, 259, 5, 260, 743, 744, 745, 746, 747, 748, 749, 750, 751, 752, 753, 754, 755, 756, 757, 758, 759, 760] (by decide +kernel) (by decide +kernel)
set_option maxRecDepth 20000 in
theorem gL_law_X8_write : GoodIn wsL_law (wsV RL 17 RX8 yX8_write wsX8_write) := goodIn_app (goodIn_of _ (by decide +kernel)) ggL_law_X8_write
set_option maxRecDepth 20000 in
theorem ggL_law_X7_wipe : GoodIn wsL_law wsX7_wipe := goodIn_r _ [264, 15, 252, 208, 209, 210, 14, 211, 126, 737, 738, 739, 740, 741, 742, 761, 762] (by decide +kernel) (by decide +kernel)
set_option maxRecDepth 20000 in
theorem gL_law_X7_wipe : GoodIn wsL_law (wsV RL 18 RX7 yX7_wipe wsX7_wipe) := goodIn_app (goodIn_of _ (by decide +kernel)) ggL_law_X7_wipe
set_option maxRecDepth 20000 in
theorem ggL_law_X8_wipe : GoodIn wsL_law wsX8_wipe := goodIn_r _ [268, 257, 743, 744, 745, 746, 747, 748, 749, 750, 751, 752, 753, 754, 755, 756, 757, 758, 759, 760] (by decide +kernel) (by decide +kernel)
set_option maxRecDepth 20000 in
theorem gL_law_X8_wipe : GoodIn wsL_law (wsV RL 22 RX8 yX8_wipe wsX8_wipe) := goodIn_app (goodIn_of _ (by decide +kernel)) ggL_law_X8_wipe
set_option maxRecDepth 20000 in
theorem ggL_law_X7_fault : GoodIn wsL_law wsX7_fault := goodIn_r _ [272, 15, 273, 274, 275, 14, 276, 126, 195, 180, 181, 182, 31, 277, 278, 279, 280, 204, 205, 206, 207, 281, 192, 193, 194, 282, 2, 283, 284, 285, 286, 201, 202, 203, 737, 738, 739, 740, 741, 742, 761, 762] (by decide +kernel) (by decide +kernel)
set_option maxRecDepth 20000 in
theorem gL_law_X7_fault : GoodIn wsL_law (wsV RL 23 RX7 yX7_fault wsX7_fault) := goodIn_app (goodIn_of _ (by decide +kernel)) ggL_law_X7_fault
set_option maxRecDepth 20000 in
theorem ggL_law_X8_fault : GoodIn wsL_law wsX8_fault := goodIn_r _ [290, 291, 292, 293, 5, 294, 295, 257, 228, 229, 230, 231, 232, 222, 223, 296, 297, 298, 299, 224, 300, 301, 302, 303, 220, 304, 305, 306, 307, 258, 259, 260, 233, 234, 235, 236, 221, 743, 744, 745, 746, 747, 748, 749, 750, 751, 752, 753, 754, 755, 756, 757, 758, 759, 760] (by decide +kernel) (by decide +kernel)
set_option maxRecDepth 20000 in
theorem gL_law_X8_fault : GoodIn wsL_law (wsV RL 26 RX8 yX8_fault wsX8_fault) := goodIn_app (goodIn_of _ (by decide +kernel)) ggL_law_X8_fault
set_option maxRecDepth 20000 in
theorem ggL_law_X7_lay : GoodIn wsL_law wsX7_lay := goodIn_r _ [311, 15, 19, 23, 25, 312, 273, 274, 275, 14, 276, 126, 195, 180, 181, 182, 31, 277, 278, 279, 280, 204, 205, 206, 207, 281, 192, 193, 194, 282, 2, 283, 284, 285, 286, 201, 202, 203, 313, 314, 315, 316, 127, 128, 129, 18, 130, 131, 132, 133, 134, 135, 38, 39, 136, 137, 138, 139, 140, 141, 142, 143, 37, 144, 145, 46, 50, 146, 147, 148, 48, 149, 150, 151, 152, 153, 59, 60, 154, 155, 156, 157, 158, 159, 160, 161, 58, 162, 163, 164, 165, 166, 167, 168, 169, 170, 52, 171, 172, 173, 174, 175, 176, 177, 178, 179, 183, 184, 185, 186, 187, 188, 189, 190, 191, 196, 197, 198, 199, 200, 317, 318, 319, 22, 320, 321, 322, 737, 738, 739, 740, 741, 742, 763, 764, 765, 766, 767, 768, 769, 761, 762, 773, 774, 775, 776, 777, 778, 779, 780, 781, 782, 783, 784, 785, 786, 787, 790, 791, 792, 793, 794, 788, 789, 770, 771, 772] (by decide +kernel) (by decide +kernel)
set_option maxRecDepth 20000 in
theorem gL_law_X7_lay : GoodIn wsL_law (wsV RL 27 RX7 yX7_lay wsX7_lay) := goodIn_app (goodIn_of _ (by decide +kernel)) ggL_law_X7_lay
set_option maxRecDepth 20000 in
theorem ggL_law_X8_lay : GoodIn wsL_law wsX8_lay := goodIn_r _ [326, 232, 241, 291, 292, 293, 5, 294, 295, 257, 228, 229, 230, 231, 222, 223, 296, 297, 298, 299, 224, 300, 301, 302, 303, 220, 304, 305, 306, 307, 258, 259, 260, 233, 234, 235, 236, 221, 237, 238, 239, 240, 242, 243, 216, 219, 244, 245, 246, 247, 743, 744, 745, 746, 747, 748, 749, 750, 751, 752, 753, 754, 755, 756, 757, 758, 759, 760] (by decide +kernel) (by decide +kernel)
set_option maxRecDepth 20000 in
theorem gL_law_X8_lay : GoodIn wsL_law (wsV RL 30 RX8 yX8_lay wsX8_lay) := goodIn_app (goodIn_of _ (by decide +kernel)) ggL_law_X8_lay
set_option maxRecDepth 20000 in
theorem ggL_law_X7_plug : GoodIn wsL_law wsX7_plug := goodIn_r _ [330, 19, 331, 23, 332, 333, 334, 335, 18, 336, 136, 337, 338, 339, 340, 38, 39, 187, 188, 189, 37, 190, 46, 341, 342, 2, 343, 344, 345, 346, 22, 347, 321, 72, 322, 348, 349, 350, 351, 352, 353, 354, 355, 137, 138, 139, 140, 356, 357, 358, 359, 145, 50, 360, 361, 362, 48, 363, 150, 151, 152, 153, 59, 60, 154, 155, 156, 157, 158, 364, 365, 366, 58, 367, 163, 164, 165, 166, 167, 368, 369, 370, 52, 371, 172, 173, 372, 373, 374, 375, 376, 377, 378, 379, 380, 381, 382, 737, 738, 739, 740, 741, 742, 777, 778, 779, 780, 781, 782, 783, 784, 785, 786, 787, 763, 764, 765, 766, 767, 768, 769, 773, 774, 775, 776, 770, 771, 772, 790, 791, 792, 793, 794, 788, 789] (by decide +kernel) (by decide +kernel)
set_option maxRecDepth 20000 in
theorem gL_law_X7_plug : GoodIn wsL_law (wsV RL 31 RX7 yX7_plug wsX7_plug) := goodIn_app (goodIn_of _ (by decide +kernel)) ggL_law_X7_plug
set_option maxRecDepth 20000 in
theorem ggL_law_X8_plug : GoodIn wsL_law wsX8_plug := goodIn_r _ [386, 216, 387, 388, 389, 5, 390, 241, 258, 259, 260, 391, 392, 393, 394, 244, 218, 395, 396, 397, 398, 743, 744, 745, 746, 747, 748, 749, 750, 751, 752, 753, 754, 755, 756, 757, 758, 759, 760] (by decide +kernel) (by decide +kernel)
set_option maxRecDepth 20000 in
theorem gL_law_X8_plug : GoodIn wsL_law (wsV RL 35 RX8 yX8_plug wsX8_plug) := goodIn_app (goodIn_of _ (by decide +kernel)) ggL_law_X8_plug
set_option maxRecDepth 20000 in
theorem ggL_law_X7_mute : GoodIn wsL_law wsX7_mute := goodIn_r _ [402, 19, 403, 23, 404, 338, 339, 18, 340, 38, 39, 333, 334, 335, 336, 136, 337, 187, 188, 189, 37, 190, 46, 341, 342, 2, 343, 344, 345, 346, 22, 347, 321, 72, 322, 348, 349, 350, 351, 352, 353, 354, 355, 137, 138, 139, 140, 356, 357, 358, 359, 145, 50, 360, 361, 362, 48, 363, 150, 151, 152, 153, 59, 60, 154, 155, 156, 157, 158, 364, 365, 366, 58, 367, 163, 164, 165, 166, 167, 368, 369, 370, 52, 371, 172, 173, 405, 406, 407, 408, 409, 737, 738, 739, 740, 741, 742, 777, 778, 779, 780, 781, 782, 783, 784, 785, 786, 787, 763, 764, 765, 766, 767, 768, 769, 773, 774, 775, 776, 770, 771, 772, 790, 791, 792, 793, 794, 788, 789] (by decide +kernel) (by decide +kernel)
set_option maxRecDepth 20000 in
theorem gL_law_X7_mute : GoodIn wsL_law (wsV RL 36 RX7 yX7_mute wsX7_mute) := goodIn_app (goodIn_of _ (by decide +kernel)) ggL_law_X7_mute
set_option maxRecDepth 20000 in
theorem ggL_law_X8_mute : GoodIn wsL_law wsX8_mute := goodIn_r _ [413, 216, 241, 414, 415, 5, 416, 387, 388, 389, 390, 258, 259, 260, 245, 246, 247, 391, 392, 393, 394, 244, 218, 743, 744, 745, 746, 747, 748, 749, 750, 751, 752, 753, 754, 755, 756, 757, 758, 759, 760] (by decide +kernel) (by decide +kernel)
set_option maxRecDepth 20000 in
theorem gL_law_X8_mute : GoodIn wsL_law (wsV RL 40 RX8 yX8_mute wsX8_mute) := goodIn_app (goodIn_of _ (by decide +kernel)) ggL_law_X8_mute
set_option maxRecDepth 20000 in
theorem ggL_law_X7_tell : GoodIn wsL_law wsX7_tell := goodIn_r _ [420, 19, 421, 422, 23, 333, 334, 335, 18, 336, 136, 337, 338, 339, 340, 38, 39, 187, 188, 189, 37, 190, 46, 341, 342, 2, 343, 423, 282, 283, 344, 345, 346, 22, 347, 321, 72, 322, 348, 349, 350, 351, 352, 353, 354, 355, 137, 138, 139, 140, 356, 357, 358, 359, 145, 50, 360, 361, 362, 48, 363, 150, 151, 152, 153, 59, 60, 154, 155, 156, 157, 158, 364, 365, 366, 58, 367, 163, 164, 165, 166, 167, 368, 369, 370, 52, 371, 172, 173, 737, 738, 739, 740, 741, 742, 777, 778, 779, 780, 781, 782, 783, 784, 785, 786, 787, 763, 764, 765, 766, 767, 768, 769, 773, 774, 775, 776, 770, 771, 772, 790, 791, 792, 793, 794, 788, 789] (by decide +kernel) (by decide +kernel)
set_option maxRecDepth 20000 in
theorem gL_law_X7_tell : GoodIn wsL_law (wsV RL 41 RX7 yX7_tell wsX7_tell) := goodIn_app (goodIn_of _ (by decide +kernel)) ggL_law_X7_tell
set_option maxRecDepth 20000 in
theorem ggL_law_X8_tell : GoodIn wsL_law wsX8_tell := goodIn_r _ [427, 414, 415, 5, 416, 387, 388, 389, 390, 241, 258, 259, 260, 245, 246, 247, 428, 429, 430, 431, 216, 391, 392, 393, 394, 244, 218, 743, 744, 745, 746, 747, 748, 749, 750, 751, 752, 753, 754, 755, 756, 757, 758, 759, 760] (by decide +kernel) (by decide +kernel)
set_option maxRecDepth 20000 in
theorem gL_law_X8_tell : GoodIn wsL_law (wsV RL 45 RX8 yX8_tell wsX8_tell) := goodIn_app (goodIn_of _ (by decide +kernel)) ggL_law_X8_tell
set_option maxRecDepth 20000 in
theorem ggL_law_X7_set : GoodIn wsL_law wsX7_set := goodIn_r _ [435, 19, 23, 436, 284, 2, 285, 423, 282, 283, 437, 438, 439, 18, 440, 38, 178, 39, 137, 344, 345, 346, 22, 347, 321, 72, 322, 348, 349, 350, 351, 352, 353, 354, 355, 136, 138, 139, 140, 356, 357, 358, 37, 359, 145, 46, 50, 360, 361, 362, 48, 363, 150, 151, 152, 153, 59, 60, 154, 155, 156, 157, 158, 364, 365, 366, 58, 367, 163, 164, 165, 166, 167, 368, 369, 370, 52, 371, 172, 173, 441, 442, 443, 444, 737, 738, 739, 740, 741, 742, 763, 764, 765, 766, 767, 768, 769, 773, 774, 775, 776, 770, 771, 772, 777, 778, 779, 780, 781, 782, 783, 784, 785, 786, 787, 790, 791, 792, 793, 794, 788, 789] (by decide +kernel) (by decide +kernel)
set_option maxRecDepth 20000 in
theorem gL_law_X7_set : GoodIn wsL_law (wsV RL 46 RX7 yX7_set wsX7_set) := goodIn_app (goodIn_of _ (by decide +kernel)) ggL_law_X7_set
set_option maxRecDepth 20000 in
theorem ggL_law_X8_set : GoodIn wsL_law wsX8_set := goodIn_r _ [448, 258, 259, 5, 260, 428, 429, 430, 431, 216, 391, 392, 393, 394, 244, 218, 743, 744, 745, 746, 747, 748, 749, 750, 751, 752, 753, 754, 755, 756, 757, 758, 759, 760] (by decide +kernel) (by decide +kernel)
set_option maxRecDepth 20000 in
theorem gL_law_X8_set : GoodIn wsL_law (wsV RL 49 RX8 yX8_set wsX8_set) := goodIn_app (goodIn_of _ (by decide +kernel)) ggL_law_X8_set
set_option maxRecDepth 20000 in
theorem ggL_law_X7_tick : GoodIn wsL_law wsX7_tick := goodIn_r _ [452, 19, 453, 23, 344, 345, 346, 22, 347, 321, 72, 322, 348, 349, 350, 351, 352, 353, 354, 18, 355, 38, 39, 136, 137, 138, 139, 140, 356, 357, 358, 37, 359, 145, 46, 50, 360, 361, 362, 48, 363, 150, 151, 152, 153, 59, 60, 154, 155, 156, 157, 158, 364, 365, 366, 58, 367, 163, 164, 165, 166, 167, 368, 369, 370, 52, 371, 172, 173, 454, 455, 456, 457, 458, 459, 460, 461, 462, 463, 464, 465, 466, 467, 468, 469, 470, 471, 472, 473, 474, 475, 476, 477, 478, 479, 480, 481, 482, 483, 44, 484, 485, 486, 487, 488, 489, 490, 491, 492, 493, 494, 495, 496, 497, 498, 499, 500, 501, 502, 503, 504, 505, 506, 507, 508, 509, 510, 511, 512, 513, 514, 515, 516, 517, 518, 519, 520, 521, 522, 523, 524, 525, 526, 527, 528, 529, 530, 531, 532, 533, 534, 535, 2, 536, 332, 537, 538, 539, 540, 541, 542, 543, 544, 545, 737, 738, 739, 740, 741, 742, 763, 764, 765, 766, 767, 768, 769, 770, 771, 772, 773, 774, 775, 776, 777, 778, 779, 780, 781, 782, 783, 784, 785, 786, 787, 790, 791, 792, 793, 794, 788, 789] (by decide +kernel) (by decide +kernel)
set_option maxRecDepth 20000 in
theorem gL_law_X7_tick : GoodIn wsL_law (wsV RL 50 RX7 yX7_tick wsX7_tick) := goodIn_app (goodIn_of _ (by decide +kernel)) ggL_law_X7_tick
set_option maxRecDepth 20000 in
theorem ggL_law_X8_tick : GoodIn wsL_law wsX8_tick := goodIn_r _ [549, 216, 258, 259, 5, 260, 391, 392, 393, 394, 244, 218, 550, 551, 552, 553, 241, 554, 555, 556, 557, 245, 246, 247, 558, 559, 560, 561, 562, 563, 564, 565, 226, 566, 567, 568, 569, 570, 571, 572, 573, 574, 575, 576, 577, 578, 579, 580, 581, 582, 583, 584, 585, 586, 587, 588, 589, 242, 590, 591, 592, 593, 594, 595, 596, 597, 243, 598, 599, 600, 601, 602, 603, 604, 605, 606, 607, 608, 609, 610, 611, 612, 613, 743, 744, 745, 746, 747, 748, 749, 750, 751, 752, 753, 754, 755, 756, 757, 758, 759, 760] (by decide +kernel) (by decide +kernel)
set_option maxRecDepth 20000 in
theorem gL_law_X8_tick : GoodIn wsL_law (wsV RL 53 RX8 yX8_tick wsX8_tick) := goodIn_app (goodIn_of _ (by decide +kernel)) ggL_law_X8_tick
set_option maxRecDepth 20000 in
theorem ggL_law_X7_undo : GoodIn wsL_law wsX7_undo := goodIn_r _ [617, 23, 19, 618, 619, 620, 621, 22, 622, 321, 72, 322, 623, 353, 354, 18, 355, 38, 39, 136, 137, 138, 139, 140, 356, 357, 358, 37, 359, 145, 46, 50, 360, 361, 362, 48, 363, 150, 151, 152, 153, 59, 60, 154, 155, 156, 157, 158, 364, 365, 366, 58, 367, 163, 164, 165, 166, 167, 368, 369, 370, 52, 371, 172, 173, 737, 738, 739, 740, 741, 742, 770, 771, 772, 763, 764, 765, 766, 767, 768, 769, 773, 774, 775, 776, 777, 778, 779, 780, 781, 782, 783, 784, 785, 786, 787, 790, 791, 792, 793, 794, 788, 789] (by decide +kernel) (by decide +kernel)
set_option maxRecDepth 20000 in
theorem gL_law_X7_undo : GoodIn wsL_law (wsV RL 54 RX7 yX7_undo wsX7_undo) := goodIn_app (goodIn_of _ (by decide +kernel)) ggL_law_X7_undo
set_option maxRecDepth 20000 in
theorem ggL_law_X8_undo : GoodIn wsL_law wsX8_undo := goodIn_r _ [627, 244, 216, 218, 743, 744, 745, 746, 747, 748, 749, 750, 751, 752, 753, 754, 755, 756, 757, 758, 759, 760] (by decide +kernel) (by decide +kernel)
set_option maxRecDepth 20000 in
theorem gL_law_X8_undo : GoodIn wsL_law (wsV RL 57 RX8 yX8_undo wsX8_undo) := goodIn_app (goodIn_of _ (by decide +kernel)) ggL_law_X8_undo
set_option maxRecDepth 20000 in
theorem ggL_law_X7_link : GoodIn wsL_law wsX7_link := goodIn_r _ [631, 19, 333, 334, 335, 18, 336, 136, 337, 338, 339, 340, 38, 39, 187, 188, 189, 37, 190, 46, 632, 633, 634, 48, 635, 152, 153, 155, 154, 59, 492, 497, 515, 510, 156, 157, 158, 151, 636, 637, 638, 639, 467, 737, 738, 739, 740, 741, 742, 763, 764, 765, 766, 767, 768, 769, 773, 774, 775, 776, 777, 778, 779, 780, 781, 782, 783, 784, 785, 786, 787, 790, 791, 792, 793, 794] (by decide +kernel) (by decide +kernel)
set_option maxRecDepth 20000 in
theorem gL_law_X7_link : GoodIn wsL_law (wsV RL 58 RX7 yX7_link wsX7_link) := goodIn_app (goodIn_of _ (by decide +kernel)) ggL_law_X7_link
set_option maxRecDepth 20000 in
theorem ggL_law_X8_link : GoodIn wsL_law wsX8_link := goodIn_r _ [643, 414, 415, 5, 416, 387, 388, 389, 390, 241, 258, 259, 260, 245, 246, 247, 644, 645, 646, 647, 216, 743, 744, 745, 746, 747, 748, 749, 750, 751, 752, 753, 754, 755, 756, 757, 758, 759, 760] (by decide +kernel) (by decide +kernel)
set_option maxRecDepth 20000 in
theorem gL_law_X8_link : GoodIn wsL_law (wsV RL 61 RX8 yX8_link wsX8_link) := goodIn_app (goodIn_of _ (by decide +kernel)) ggL_law_X8_link
set_option maxRecDepth 20000 in
theorem ggL_law_X7_bundle : GoodIn wsL_law wsX7_bundle := goodIn_r _ [651, 19, 404, 338, 339, 18, 340, 38, 39, 538, 539, 540, 37, 541, 46, 542, 543, 544, 48, 545, 59, 467, 156, 155, 737, 738, 739, 740, 741, 742, 763, 764, 765, 766, 767, 768, 769, 773, 774, 775, 776, 777, 778, 779, 780, 781, 782, 783, 784, 785, 786, 787, 790, 791, 792, 793, 794] (by decide +kernel) (by decide +kernel)
set_option maxRecDepth 20000 in
theorem gL_law_X7_bundle : GoodIn wsL_law (wsV RL 62 RX7 yX7_bundle wsX7_bundle) := goodIn_app (goodIn_of _ (by decide +kernel)) ggL_law_X7_bundle
set_option maxRecDepth 20000 in
theorem ggL_law_X8_bundle : GoodIn wsL_law wsX8_bundle := goodIn_r _ [655, 241, 216, 414, 415, 5, 416, 258, 259, 260, 245, 246, 247, 602, 603, 604, 605, 743, 744, 745, 746, 747, 748, 749, 750, 751, 752, 753, 754, 755, 756, 757, 758, 759, 760] (by decide +kernel) (by decide +kernel)
set_option maxRecDepth 20000 in
theorem gL_law_X8_bundle : GoodIn wsL_law (wsV RL 65 RX8 yX8_bundle wsX8_bundle) := goodIn_app (goodIn_of _ (by decide +kernel)) ggL_law_X8_bundle
set_option maxRecDepth 20000 in
theorem ggL_law_X7_flow : GoodIn wsL_law wsX7_flow := goodIn_r _ [659, 19, 660, 661, 404, 338, 339, 18, 340, 38, 39, 662, 663, 664, 665, 337, 666, 667, 668, 37, 669, 50, 670, 521, 522, 523, 46, 524, 671, 526, 527, 528, 737, 738, 739, 740, 741, 742, 788, 789, 763, 764, 765, 766, 767, 768, 769, 773, 774, 775, 776, 777, 778, 779, 780, 781, 782, 783, 784, 785, 786, 787] (by decide +kernel) (by decide +kernel)
set_option maxRecDepth 20000 in
theorem gL_law_X7_flow : GoodIn wsL_law (wsV RL 66 RX7 yX7_flow wsX7_flow) := goodIn_app (goodIn_of _ (by decide +kernel)) ggL_law_X7_flow
set_option maxRecDepth 20000 in
theorem ggL_law_X8_flow : GoodIn wsL_law wsX8_flow := goodIn_r _ [675, 216, 414, 415, 5, 416, 676, 677, 678, 258, 259, 260, 598, 599, 600, 601, 241, 602, 603, 604, 605, 245, 246, 247, 743, 744, 745, 746, 747, 748, 749, 750, 751, 752, 753, 754, 755, 756, 757, 758, 759, 760] (by decide +kernel) (by decide +kernel)
set_option maxRecDepth 20000 in
theorem gL_law_X8_flow : GoodIn wsL_law (wsV RL 69 RX8 yX8_flow wsX8_flow) := goodIn_app (goodIn_of _ (by decide +kernel)) ggL_law_X8_flow
set_option maxRecDepth 20000 in
theorem ggL_law_X7_frame : GoodIn wsL_law wsX7_frame := goodIn_r _ [682, 19, 661, 660, 683, 25, 662, 663, 664, 18, 665, 337, 338, 339, 340, 38, 39, 666, 667, 668, 37, 669, 50, 333, 334, 335, 336, 136, 187, 188, 189, 190, 46, 684, 685, 686, 2, 687, 312, 737, 738, 739, 740, 741, 742, 788, 789, 777, 778, 779, 780, 781, 782, 783, 784, 785, 786, 787, 763, 764, 765, 766, 767, 768, 769, 773, 774, 775, 776] (by decide +kernel) (by decide +kernel)
set_option maxRecDepth 20000 in
theorem gL_law_X7_frame : GoodIn wsL_law (wsV RL 70 RX7 yX7_frame wsX7_frame) := goodIn_app (goodIn_of _ (by decide +kernel)) ggL_law_X7_frame
set_option maxRecDepth 20000 in
theorem ggL_law_X8_frame : GoodIn wsL_law wsX8_frame := goodIn_r _ [691, 216, 219, 414, 415, 5, 416, 676, 677, 678, 258, 259, 260, 602, 603, 604, 605, 245, 246, 247, 743, 744, 745, 746, 747, 748, 749, 750, 751, 752, 753, 754, 755, 756, 757, 758, 759, 760] (by decide +kernel) (by decide +kernel)
set_option maxRecDepth 20000 in
theorem gL_law_X8_frame : GoodIn wsL_law (wsV RL 73 RX8 yX8_frame wsX8_frame) := goodIn_app (goodIn_of _ (by decide +kernel)) ggL_law_X8_frame
set_option maxRecDepth 20000 in
theorem ggL_law_X7_frames : GoodIn wsL_law wsX7_frames := goodIn_r _ [695, 25, 684, 685, 686, 2, 687, 19, 312, 737, 738, 739, 740, 741, 742, 763, 764, 765, 766, 767, 768, 769] (by decide +kernel) (by decide +kernel)
set_option maxRecDepth 20000 in
theorem gL_law_X7_frames : GoodIn wsL_law (wsV RL 74 RX7 yX7_frames wsX7_frames) := goodIn_app (goodIn_of _ (by decide +kernel)) ggL_law_X7_frames
set_option maxRecDepth 20000 in
theorem ggL_law_X8_frames : GoodIn wsL_law wsX8_frames := goodIn_r _ [699, 219, 414, 415, 5, 416, 387, 388, 389, 390, 241, 258, 259, 260, 743, 744, 745, 746, 747, 748, 749, 750, 751, 752, 753, 754, 755, 756, 757, 758, 759, 760] (by decide +kernel) (by decide +kernel)
set_option maxRecDepth 20000 in
theorem gL_law_X8_frames : GoodIn wsL_law (wsV RL 77 RX8 yX8_frames wsX8_frames) := goodIn_app (goodIn_of _ (by decide +kernel)) ggL_law_X8_frames
set_option maxRecDepth 20000 in
theorem ggL_law_X7_agreed : GoodIn wsL_law wsX7_agreed := goodIn_r _ [536, 19, 332, 537, 538, 539, 540, 37, 541, 46, 542, 543, 544, 48, 545, 59, 467, 156, 155, 737, 738, 739, 740, 741, 742, 763, 764, 765, 766, 767, 768, 769, 773, 774, 775, 776, 777, 778, 779, 780, 781, 782, 783, 784, 785, 786, 787, 790, 791, 792, 793, 794] (by decide +kernel) (by decide +kernel)
set_option maxRecDepth 20000 in
theorem gL_law_X7_agreed : GoodIn wsL_law (wsV RL 78 RX7 yX7_agreed wsX7_agreed) := goodIn_app (goodIn_of _ (by decide +kernel)) ggL_law_X7_agreed
set_option maxRecDepth 20000 in
theorem ggL_law_X8_agreed : GoodIn wsL_law wsX8_agreed := goodIn_r _ [609, 610, 611, 612, 5, 613, 241, 602, 603, 604, 605, 216, 245, 246, 247, 743, 744, 745, 746, 747, 748, 749, 750, 751, 752, 753, 754, 755, 756, 757, 758, 759, 760] (by decide +kernel) (by decide +kernel)
set_option maxRecDepth 20000 in
theorem gL_law_X8_agreed : GoodIn wsL_law (wsV RL 81 RX8 yX8_agreed wsX8_agreed) := goodIn_app (goodIn_of _ (by decide +kernel)) ggL_law_X8_agreed
set_option maxRecDepth 20000 in
theorem ggL_law_X7_settled : GoodIn wsL_law wsX7_settled := goodIn_r _ [705, 26, 19, 27, 623, 353, 354, 18, 355, 38, 39, 136, 137, 138, 139, 140, 356, 357, 358, 37, 359, 145, 46, 50, 360, 361, 362, 48, 363, 150, 151, 152, 153, 59, 60, 154, 155, 156, 157, 158, 364, 365, 366, 58, 367, 163, 164, 165, 166, 167, 368, 369, 370, 52, 371, 172, 173, 454, 455, 456, 457, 458, 459, 460, 461, 462, 463, 464, 465, 466, 467, 468, 469, 470, 471, 472, 473, 474, 475, 476, 477, 478, 479, 480, 481, 482, 483, 44, 484, 485, 486, 487, 488, 489, 490, 491, 492, 493, 494, 495, 496, 497, 498, 499, 500, 501, 502, 503, 504, 505, 506, 507, 508, 509, 510, 511, 512, 513, 514, 515, 516, 517, 518, 519, 520, 521, 522, 523, 524, 525, 526, 527, 528, 529, 530, 531, 532, 706, 707, 708, 709, 710, 711, 712, 713, 714, 737, 738, 739, 740, 741, 742, 763, 764, 765, 766, 767, 768, 769, 773, 774, 775, 776, 777, 778, 779, 780, 781, 782, 783, 784, 785, 786, 787, 790, 791, 792, 793, 794, 788, 789] (by decide +kernel) (by decide +kernel)
set_option maxRecDepth 20000 in
theorem gL_law_X7_settled : GoodIn wsL_law (wsV RL 82 RX7 yX7_settled wsX7_settled) := goodIn_app (goodIn_of _ (by decide +kernel)) ggL_law_X7_settled
set_option maxRecDepth 20000 in
theorem ggL_law_X8_settled : GoodIn wsL_law wsX8_settled := goodIn_r _ [718, 217, 216, 719, 720, 721, 5, 722, 723, 724, 725, 726, 227, 550, 551, 552, 553, 241, 554, 555, 556, 557, 245, 246, 247, 558, 559, 560, 561, 562, 563, 564, 565, 226, 566, 567, 568, 569, 570, 571, 572, 573, 574, 575, 576, 577, 578, 579, 580, 581, 582, 583, 584, 585, 586, 587, 588, 589, 242, 590, 591, 592, 593, 594, 595, 596, 597, 243, 598, 599, 600, 601, 602, 603, 604, 605, 743, 744, 745, 746, 747, 748, 749, 750, 751, 752, 753, 754, 755, 756, 757, 758, 759, 760] (by decide +kernel) (by decide +kernel)
set_option maxRecDepth 20000 in
theorem gL_law_X8_settled : GoodIn wsL_law (wsV RL 85 RX8 yX8_settled wsX8_settled) := goodIn_app (goodIn_of _ (by decide +kernel)) ggL_law_X8_settled
set_option maxRecDepth 20000 in
theorem ggL_law_X7_count : GoodIn wsL_law wsX7_count := goodIn_r _ [730, 19, 312, 332, 731, 732, 453, 23, 618, 15, 252, 378, 379, 380, 37, 381, 46, 382, 437, 438, 439, 18, 440, 38, 178, 39, 137, 737, 738, 739, 740, 741, 742, 763, 764, 765, 766, 767, 768, 769, 770, 771, 772, 761, 762, 773, 774, 775, 776, 777, 778, 779, 780, 781, 782, 783, 784, 785, 786, 787] (by decide +kernel) (by decide +kernel)
set_option maxRecDepth 20000 in
theorem gL_law_X7_count : GoodIn wsL_law (wsV RL 86 RX7 yX7_count wsX7_count) := goodIn_app (goodIn_of _ (by decide +kernel)) ggL_law_X7_count
set_option maxRecDepth 20000 in
theorem ggL_law_X8_count : GoodIn wsL_law wsX8_count := goodIn_r _ [736, 241, 216, 242, 243, 244, 257, 395, 396, 397, 5, 398, 743, 744, 745, 746, 747, 748, 749, 750, 751, 752, 753, 754, 755, 756, 757, 758, 759, 760] (by decide +kernel) (by decide +kernel)
set_option maxRecDepth 20000 in
theorem gL_law_X8_count : GoodIn wsL_law (wsV RL 89 RX8 yX8_count wsX8_count) := goodIn_app (goodIn_of _ (by decide +kernel)) ggL_law_X8_count
theorem dL_law_0 : decode cL_law 0 = .ok (.new 7, 3) := by decide +kernel
theorem dL_law_3 : decode cL_law 3 = .ok (.dup, 1) := by decide +kernel
theorem dL_law_4 : decode cL_law 4 = .ok (.invokespecial 9, 3) := by decide +kernel
theorem dL_law_7 : decode cL_law 7 = .ok (.astore_n 1, 1) := by decide +kernel
theorem dL_law_8 : decode cL_law 8 = .ok (.new 10, 3) := by decide +kernel
theorem dL_law_11 : decode cL_law 11 = .ok (.dup, 1) := by decide +kernel
theorem dL_law_12 : decode cL_law 12 = .ok (.invokespecial 12, 3) := by decide +kernel
theorem dL_law_15 : decode cL_law 15 = .ok (.astore_n 2, 1) := by decide +kernel
theorem dL_law_16 : decode cL_law 16 = .ok (.iconst 0, 1) := by decide +kernel
theorem dL_law_17 : decode cL_law 17 = .ok (.istore_n 3, 1) := by decide +kernel
theorem dL_law_18 : decode cL_law 18 = .ok (.iload_n 3, 1) := by decide +kernel
theorem dL_law_19 : decode cL_law 19 = .ok (.aload_n 0, 1) := by decide +kernel
theorem dL_law_20 : decode cL_law 20 = .ok (.arraylength, 1) := by decide +kernel
theorem dL_law_21 : decode cL_law 21 = .ok (.iconst 5, 1) := by decide +kernel
theorem dL_law_22 : decode cL_law 22 = .ok (.isub, 1) := by decide +kernel
theorem dL_law_23 : decode cL_law 23 = .ok (.if_icmp .gt 597, 3) := by decide +kernel
theorem dL_law_26 : decode cL_law 26 = .ok (.aload_n 0, 1) := by decide +kernel
theorem dL_law_27 : decode cL_law 27 = .ok (.iload_n 3, 1) := by decide +kernel
theorem dL_law_28 : decode cL_law 28 = .ok (.iaload, 1) := by decide +kernel
theorem dL_law_29 : decode cL_law 29 = .ok (.bipush 31, 2) := by decide +kernel
theorem dL_law_31 : decode cL_law 31 = .ok (.iand, 1) := by decide +kernel
theorem dL_law_32 : decode cL_law 32 = .ok (.tableswitch 582 0 17 #[88, 111, 124, 137, 150, 183, 226, 279, 312, 335, 348, 391, 424, 467, 500, 533, 546, 559], 88) := by decide +kernel
theorem dL_law_120 : decode cL_law 120 = .ok (.aload_n 1, 1) := by decide +kernel
theorem dL_law_121 : decode cL_law 121 = .ok (.aload_n 0, 1) := by decide +kernel
theorem dL_law_122 : decode cL_law 122 = .ok (.iload_n 3, 1) := by decide +kernel
theorem dL_law_123 : decode cL_law 123 = .ok (.iconst 1, 1) := by decide +kernel
theorem dL_law_124 : decode cL_law 124 = .ok (.iadd, 1) := by decide +kernel
theorem dL_law_125 : decode cL_law 125 = .ok (.iaload, 1) := by decide +kernel
theorem dL_law_126 : decode cL_law 126 = .ok (.invokevirtual 13, 3) := by decide +kernel
theorem dL_law_129 : decode cL_law 129 = .ok (.aload_n 2, 1) := by decide +kernel
theorem dL_law_130 : decode cL_law 130 = .ok (.aload_n 0, 1) := by decide +kernel
theorem dL_law_131 : decode cL_law 131 = .ok (.iload_n 3, 1) := by decide +kernel
theorem dL_law_132 : decode cL_law 132 = .ok (.iconst 1, 1) := by decide +kernel
theorem dL_law_133 : decode cL_law 133 = .ok (.iadd, 1) := by decide +kernel
theorem dL_law_134 : decode cL_law 134 = .ok (.iaload, 1) := by decide +kernel
theorem dL_law_135 : decode cL_law 135 = .ok (.invokevirtual 17, 3) := by decide +kernel
theorem dL_law_138 : decode cL_law 138 = .ok (.if_icmp .eq 476, 3) := by decide +kernel
theorem dL_law_141 : decode cL_law 141 = .ok (.iconst 0, 1) := by decide +kernel
theorem dL_law_142 : decode cL_law 142 = .ok (.ireturn, 1) := by decide +kernel
theorem dL_law_143 : decode cL_law 143 = .ok (.aload_n 1, 1) := by decide +kernel
theorem dL_law_144 : decode cL_law 144 = .ok (.invokevirtual 18, 3) := by decide +kernel
theorem dL_law_147 : decode cL_law 147 = .ok (.aload_n 2, 1) := by decide +kernel
theorem dL_law_148 : decode cL_law 148 = .ok (.invokevirtual 22, 3) := by decide +kernel
theorem dL_law_151 : decode cL_law 151 = .ok (.if_icmp .eq 463, 3) := by decide +kernel
theorem dL_law_154 : decode cL_law 154 = .ok (.iconst 0, 1) := by decide +kernel
theorem dL_law_155 : decode cL_law 155 = .ok (.ireturn, 1) := by decide +kernel
theorem dL_law_156 : decode cL_law 156 = .ok (.aload_n 1, 1) := by decide +kernel
theorem dL_law_157 : decode cL_law 157 = .ok (.invokevirtual 23, 3) := by decide +kernel
theorem dL_law_160 : decode cL_law 160 = .ok (.aload_n 2, 1) := by decide +kernel
theorem dL_law_161 : decode cL_law 161 = .ok (.invokevirtual 26, 3) := by decide +kernel
theorem dL_law_164 : decode cL_law 164 = .ok (.if_icmp .eq 450, 3) := by decide +kernel
theorem dL_law_167 : decode cL_law 167 = .ok (.iconst 0, 1) := by decide +kernel
theorem dL_law_168 : decode cL_law 168 = .ok (.ireturn, 1) := by decide +kernel
theorem dL_law_169 : decode cL_law 169 = .ok (.aload_n 1, 1) := by decide +kernel
theorem dL_law_170 : decode cL_law 170 = .ok (.invokevirtual 27, 3) := by decide +kernel
theorem dL_law_173 : decode cL_law 173 = .ok (.aload_n 2, 1) := by decide +kernel
theorem dL_law_174 : decode cL_law 174 = .ok (.invokevirtual 30, 3) := by decide +kernel
theorem dL_law_177 : decode cL_law 177 = .ok (.if_icmp .eq 437, 3) := by decide +kernel
theorem dL_law_180 : decode cL_law 180 = .ok (.iconst 0, 1) := by decide +kernel
theorem dL_law_181 : decode cL_law 181 = .ok (.ireturn, 1) := by decide +kernel
theorem dL_law_182 : decode cL_law 182 = .ok (.aload_n 1, 1) := by decide +kernel
theorem dL_law_183 : decode cL_law 183 = .ok (.aload_n 0, 1) := by decide +kernel
theorem dL_law_184 : decode cL_law 184 = .ok (.iload_n 3, 1) := by decide +kernel
theorem dL_law_185 : decode cL_law 185 = .ok (.iconst 1, 1) := by decide +kernel
theorem dL_law_186 : decode cL_law 186 = .ok (.iadd, 1) := by decide +kernel
theorem dL_law_187 : decode cL_law 187 = .ok (.iaload, 1) := by decide +kernel
theorem dL_law_188 : decode cL_law 188 = .ok (.aload_n 0, 1) := by decide +kernel
theorem dL_law_189 : decode cL_law 189 = .ok (.iload_n 3, 1) := by decide +kernel
theorem dL_law_190 : decode cL_law 190 = .ok (.iconst 2, 1) := by decide +kernel
theorem dL_law_191 : decode cL_law 191 = .ok (.iadd, 1) := by decide +kernel
theorem dL_law_192 : decode cL_law 192 = .ok (.iaload, 1) := by decide +kernel
theorem dL_law_193 : decode cL_law 193 = .ok (.invokevirtual 31, 3) := by decide +kernel
theorem dL_law_196 : decode cL_law 196 = .ok (.aload_n 2, 1) := by decide +kernel
theorem dL_law_197 : decode cL_law 197 = .ok (.aload_n 0, 1) := by decide +kernel
theorem dL_law_198 : decode cL_law 198 = .ok (.iload_n 3, 1) := by decide +kernel
theorem dL_law_199 : decode cL_law 199 = .ok (.iconst 1, 1) := by decide +kernel
theorem dL_law_200 : decode cL_law 200 = .ok (.iadd, 1) := by decide +kernel
theorem dL_law_201 : decode cL_law 201 = .ok (.iaload, 1) := by decide +kernel
theorem dL_law_202 : decode cL_law 202 = .ok (.aload_n 0, 1) := by decide +kernel
theorem dL_law_203 : decode cL_law 203 = .ok (.iload_n 3, 1) := by decide +kernel
theorem dL_law_204 : decode cL_law 204 = .ok (.iconst 2, 1) := by decide +kernel
theorem dL_law_205 : decode cL_law 205 = .ok (.iadd, 1) := by decide +kernel
theorem dL_law_206 : decode cL_law 206 = .ok (.iaload, 1) := by decide +kernel
theorem dL_law_207 : decode cL_law 207 = .ok (.invokevirtual 35, 3) := by decide +kernel
theorem dL_law_210 : decode cL_law 210 = .ok (.if_icmp .eq 404, 3) := by decide +kernel
theorem dL_law_213 : decode cL_law 213 = .ok (.iconst 0, 1) := by decide +kernel
theorem dL_law_214 : decode cL_law 214 = .ok (.ireturn, 1) := by decide +kernel
theorem dL_law_215 : decode cL_law 215 = .ok (.aload_n 1, 1) := by decide +kernel
theorem dL_law_216 : decode cL_law 216 = .ok (.aload_n 0, 1) := by decide +kernel
theorem dL_law_217 : decode cL_law 217 = .ok (.iload_n 3, 1) := by decide +kernel
theorem dL_law_218 : decode cL_law 218 = .ok (.iconst 1, 1) := by decide +kernel
theorem dL_law_219 : decode cL_law 219 = .ok (.iadd, 1) := by decide +kernel
theorem dL_law_220 : decode cL_law 220 = .ok (.iaload, 1) := by decide +kernel
theorem dL_law_221 : decode cL_law 221 = .ok (.aload_n 0, 1) := by decide +kernel
theorem dL_law_222 : decode cL_law 222 = .ok (.iload_n 3, 1) := by decide +kernel
theorem dL_law_223 : decode cL_law 223 = .ok (.iconst 2, 1) := by decide +kernel
theorem dL_law_224 : decode cL_law 224 = .ok (.iadd, 1) := by decide +kernel
theorem dL_law_225 : decode cL_law 225 = .ok (.iaload, 1) := by decide +kernel
theorem dL_law_226 : decode cL_law 226 = .ok (.aload_n 0, 1) := by decide +kernel
theorem dL_law_227 : decode cL_law 227 = .ok (.iload_n 3, 1) := by decide +kernel
theorem dL_law_228 : decode cL_law 228 = .ok (.iconst 3, 1) := by decide +kernel
theorem dL_law_229 : decode cL_law 229 = .ok (.iadd, 1) := by decide +kernel
theorem dL_law_230 : decode cL_law 230 = .ok (.iaload, 1) := by decide +kernel
theorem dL_law_231 : decode cL_law 231 = .ok (.invokevirtual 36, 3) := by decide +kernel
theorem dL_law_234 : decode cL_law 234 = .ok (.aload_n 2, 1) := by decide +kernel
theorem dL_law_235 : decode cL_law 235 = .ok (.aload_n 0, 1) := by decide +kernel
theorem dL_law_236 : decode cL_law 236 = .ok (.iload_n 3, 1) := by decide +kernel
theorem dL_law_237 : decode cL_law 237 = .ok (.iconst 1, 1) := by decide +kernel
theorem dL_law_238 : decode cL_law 238 = .ok (.iadd, 1) := by decide +kernel
theorem dL_law_239 : decode cL_law 239 = .ok (.iaload, 1) := by decide +kernel
theorem dL_law_240 : decode cL_law 240 = .ok (.aload_n 0, 1) := by decide +kernel
theorem dL_law_241 : decode cL_law 241 = .ok (.iload_n 3, 1) := by decide +kernel
theorem dL_law_242 : decode cL_law 242 = .ok (.iconst 2, 1) := by decide +kernel
theorem dL_law_243 : decode cL_law 243 = .ok (.iadd, 1) := by decide +kernel
theorem dL_law_244 : decode cL_law 244 = .ok (.iaload, 1) := by decide +kernel
theorem dL_law_245 : decode cL_law 245 = .ok (.aload_n 0, 1) := by decide +kernel
theorem dL_law_246 : decode cL_law 246 = .ok (.iload_n 3, 1) := by decide +kernel
theorem dL_law_247 : decode cL_law 247 = .ok (.iconst 3, 1) := by decide +kernel
theorem dL_law_248 : decode cL_law 248 = .ok (.iadd, 1) := by decide +kernel
theorem dL_law_249 : decode cL_law 249 = .ok (.iaload, 1) := by decide +kernel
theorem dL_law_250 : decode cL_law 250 = .ok (.invokevirtual 40, 3) := by decide +kernel
theorem dL_law_253 : decode cL_law 253 = .ok (.if_icmp .eq 361, 3) := by decide +kernel
theorem dL_law_256 : decode cL_law 256 = .ok (.iconst 0, 1) := by decide +kernel
theorem dL_law_257 : decode cL_law 257 = .ok (.ireturn, 1) := by decide +kernel
theorem dL_law_258 : decode cL_law 258 = .ok (.aload_n 1, 1) := by decide +kernel
theorem dL_law_259 : decode cL_law 259 = .ok (.aload_n 0, 1) := by decide +kernel
theorem dL_law_260 : decode cL_law 260 = .ok (.iload_n 3, 1) := by decide +kernel
theorem dL_law_261 : decode cL_law 261 = .ok (.iconst 1, 1) := by decide +kernel
theorem dL_law_262 : decode cL_law 262 = .ok (.iadd, 1) := by decide +kernel
theorem dL_law_263 : decode cL_law 263 = .ok (.iaload, 1) := by decide +kernel
theorem dL_law_264 : decode cL_law 264 = .ok (.aload_n 0, 1) := by decide +kernel
theorem dL_law_265 : decode cL_law 265 = .ok (.iload_n 3, 1) := by decide +kernel
theorem dL_law_266 : decode cL_law 266 = .ok (.iconst 2, 1) := by decide +kernel
theorem dL_law_267 : decode cL_law 267 = .ok (.iadd, 1) := by decide +kernel
theorem dL_law_268 : decode cL_law 268 = .ok (.iaload, 1) := by decide +kernel
theorem dL_law_269 : decode cL_law 269 = .ok (.aload_n 0, 1) := by decide +kernel
theorem dL_law_270 : decode cL_law 270 = .ok (.iload_n 3, 1) := by decide +kernel
theorem dL_law_271 : decode cL_law 271 = .ok (.iconst 3, 1) := by decide +kernel
theorem dL_law_272 : decode cL_law 272 = .ok (.iadd, 1) := by decide +kernel
theorem dL_law_273 : decode cL_law 273 = .ok (.iaload, 1) := by decide +kernel
theorem dL_law_274 : decode cL_law 274 = .ok (.aload_n 0, 1) := by decide +kernel
theorem dL_law_275 : decode cL_law 275 = .ok (.iload_n 3, 1) := by decide +kernel
theorem dL_law_276 : decode cL_law 276 = .ok (.iconst 4, 1) := by decide +kernel
theorem dL_law_277 : decode cL_law 277 = .ok (.iadd, 1) := by decide +kernel
theorem dL_law_278 : decode cL_law 278 = .ok (.iaload, 1) := by decide +kernel
theorem dL_law_279 : decode cL_law 279 = .ok (.invokevirtual 41, 3) := by decide +kernel
theorem dL_law_282 : decode cL_law 282 = .ok (.aload_n 2, 1) := by decide +kernel
theorem dL_law_283 : decode cL_law 283 = .ok (.aload_n 0, 1) := by decide +kernel
theorem dL_law_284 : decode cL_law 284 = .ok (.iload_n 3, 1) := by decide +kernel
theorem dL_law_285 : decode cL_law 285 = .ok (.iconst 1, 1) := by decide +kernel
theorem dL_law_286 : decode cL_law 286 = .ok (.iadd, 1) := by decide +kernel
theorem dL_law_287 : decode cL_law 287 = .ok (.iaload, 1) := by decide +kernel
theorem dL_law_288 : decode cL_law 288 = .ok (.aload_n 0, 1) := by decide +kernel
theorem dL_law_289 : decode cL_law 289 = .ok (.iload_n 3, 1) := by decide +kernel
theorem dL_law_290 : decode cL_law 290 = .ok (.iconst 2, 1) := by decide +kernel
theorem dL_law_291 : decode cL_law 291 = .ok (.iadd, 1) := by decide +kernel
theorem dL_law_292 : decode cL_law 292 = .ok (.iaload, 1) := by decide +kernel
theorem dL_law_293 : decode cL_law 293 = .ok (.aload_n 0, 1) := by decide +kernel
theorem dL_law_294 : decode cL_law 294 = .ok (.iload_n 3, 1) := by decide +kernel
theorem dL_law_295 : decode cL_law 295 = .ok (.iconst 3, 1) := by decide +kernel
theorem dL_law_296 : decode cL_law 296 = .ok (.iadd, 1) := by decide +kernel
theorem dL_law_297 : decode cL_law 297 = .ok (.iaload, 1) := by decide +kernel
theorem dL_law_298 : decode cL_law 298 = .ok (.aload_n 0, 1) := by decide +kernel
theorem dL_law_299 : decode cL_law 299 = .ok (.iload_n 3, 1) := by decide +kernel
theorem dL_law_300 : decode cL_law 300 = .ok (.iconst 4, 1) := by decide +kernel
theorem dL_law_301 : decode cL_law 301 = .ok (.iadd, 1) := by decide +kernel
theorem dL_law_302 : decode cL_law 302 = .ok (.iaload, 1) := by decide +kernel
theorem dL_law_303 : decode cL_law 303 = .ok (.invokevirtual 45, 3) := by decide +kernel
theorem dL_law_306 : decode cL_law 306 = .ok (.if_icmp .eq 308, 3) := by decide +kernel
theorem dL_law_309 : decode cL_law 309 = .ok (.iconst 0, 1) := by decide +kernel
theorem dL_law_310 : decode cL_law 310 = .ok (.ireturn, 1) := by decide +kernel
theorem dL_law_311 : decode cL_law 311 = .ok (.aload_n 1, 1) := by decide +kernel
theorem dL_law_312 : decode cL_law 312 = .ok (.aload_n 0, 1) := by decide +kernel
theorem dL_law_313 : decode cL_law 313 = .ok (.iload_n 3, 1) := by decide +kernel
theorem dL_law_314 : decode cL_law 314 = .ok (.iconst 1, 1) := by decide +kernel
theorem dL_law_315 : decode cL_law 315 = .ok (.iadd, 1) := by decide +kernel
theorem dL_law_316 : decode cL_law 316 = .ok (.iaload, 1) := by decide +kernel
theorem dL_law_317 : decode cL_law 317 = .ok (.aload_n 0, 1) := by decide +kernel
theorem dL_law_318 : decode cL_law 318 = .ok (.iload_n 3, 1) := by decide +kernel
theorem dL_law_319 : decode cL_law 319 = .ok (.iconst 2, 1) := by decide +kernel
theorem dL_law_320 : decode cL_law 320 = .ok (.iadd, 1) := by decide +kernel
theorem dL_law_321 : decode cL_law 321 = .ok (.iaload, 1) := by decide +kernel
theorem dL_law_322 : decode cL_law 322 = .ok (.invokevirtual 46, 3) := by decide +kernel
theorem dL_law_325 : decode cL_law 325 = .ok (.aload_n 2, 1) := by decide +kernel
theorem dL_law_326 : decode cL_law 326 = .ok (.aload_n 0, 1) := by decide +kernel
theorem dL_law_327 : decode cL_law 327 = .ok (.iload_n 3, 1) := by decide +kernel
theorem dL_law_328 : decode cL_law 328 = .ok (.iconst 1, 1) := by decide +kernel
theorem dL_law_329 : decode cL_law 329 = .ok (.iadd, 1) := by decide +kernel
theorem dL_law_330 : decode cL_law 330 = .ok (.iaload, 1) := by decide +kernel
theorem dL_law_331 : decode cL_law 331 = .ok (.aload_n 0, 1) := by decide +kernel
theorem dL_law_332 : decode cL_law 332 = .ok (.iload_n 3, 1) := by decide +kernel
theorem dL_law_333 : decode cL_law 333 = .ok (.iconst 2, 1) := by decide +kernel
theorem dL_law_334 : decode cL_law 334 = .ok (.iadd, 1) := by decide +kernel
theorem dL_law_335 : decode cL_law 335 = .ok (.iaload, 1) := by decide +kernel
theorem dL_law_336 : decode cL_law 336 = .ok (.invokevirtual 49, 3) := by decide +kernel
theorem dL_law_339 : decode cL_law 339 = .ok (.if_icmp .eq 275, 3) := by decide +kernel
theorem dL_law_342 : decode cL_law 342 = .ok (.iconst 0, 1) := by decide +kernel
theorem dL_law_343 : decode cL_law 343 = .ok (.ireturn, 1) := by decide +kernel
theorem dL_law_344 : decode cL_law 344 = .ok (.aload_n 1, 1) := by decide +kernel
theorem dL_law_345 : decode cL_law 345 = .ok (.aload_n 0, 1) := by decide +kernel
theorem dL_law_346 : decode cL_law 346 = .ok (.iload_n 3, 1) := by decide +kernel
theorem dL_law_347 : decode cL_law 347 = .ok (.iconst 1, 1) := by decide +kernel
theorem dL_law_348 : decode cL_law 348 = .ok (.iadd, 1) := by decide +kernel
theorem dL_law_349 : decode cL_law 349 = .ok (.iaload, 1) := by decide +kernel
theorem dL_law_350 : decode cL_law 350 = .ok (.invokevirtual 50, 3) := by decide +kernel
theorem dL_law_353 : decode cL_law 353 = .ok (.aload_n 2, 1) := by decide +kernel
theorem dL_law_354 : decode cL_law 354 = .ok (.aload_n 0, 1) := by decide +kernel
theorem dL_law_355 : decode cL_law 355 = .ok (.iload_n 3, 1) := by decide +kernel
theorem dL_law_356 : decode cL_law 356 = .ok (.iconst 1, 1) := by decide +kernel
theorem dL_law_357 : decode cL_law 357 = .ok (.iadd, 1) := by decide +kernel
theorem dL_law_358 : decode cL_law 358 = .ok (.iaload, 1) := by decide +kernel
theorem dL_law_359 : decode cL_law 359 = .ok (.invokevirtual 53, 3) := by decide +kernel
theorem dL_law_362 : decode cL_law 362 = .ok (.if_icmp .eq 252, 3) := by decide +kernel
theorem dL_law_365 : decode cL_law 365 = .ok (.iconst 0, 1) := by decide +kernel
theorem dL_law_366 : decode cL_law 366 = .ok (.ireturn, 1) := by decide +kernel
theorem dL_law_367 : decode cL_law 367 = .ok (.aload_n 1, 1) := by decide +kernel
theorem dL_law_368 : decode cL_law 368 = .ok (.invokevirtual 54, 3) := by decide +kernel
theorem dL_law_371 : decode cL_law 371 = .ok (.aload_n 2, 1) := by decide +kernel
theorem dL_law_372 : decode cL_law 372 = .ok (.invokevirtual 57, 3) := by decide +kernel
theorem dL_law_375 : decode cL_law 375 = .ok (.if_icmp .eq 239, 3) := by decide +kernel
theorem dL_law_378 : decode cL_law 378 = .ok (.iconst 0, 1) := by decide +kernel
theorem dL_law_379 : decode cL_law 379 = .ok (.ireturn, 1) := by decide +kernel
theorem dL_law_380 : decode cL_law 380 = .ok (.aload_n 1, 1) := by decide +kernel
theorem dL_law_381 : decode cL_law 381 = .ok (.aload_n 0, 1) := by decide +kernel
theorem dL_law_382 : decode cL_law 382 = .ok (.iload_n 3, 1) := by decide +kernel
theorem dL_law_383 : decode cL_law 383 = .ok (.iconst 1, 1) := by decide +kernel
theorem dL_law_384 : decode cL_law 384 = .ok (.iadd, 1) := by decide +kernel
theorem dL_law_385 : decode cL_law 385 = .ok (.iaload, 1) := by decide +kernel
theorem dL_law_386 : decode cL_law 386 = .ok (.aload_n 0, 1) := by decide +kernel
theorem dL_law_387 : decode cL_law 387 = .ok (.iload_n 3, 1) := by decide +kernel
theorem dL_law_388 : decode cL_law 388 = .ok (.iconst 2, 1) := by decide +kernel
theorem dL_law_389 : decode cL_law 389 = .ok (.iadd, 1) := by decide +kernel
theorem dL_law_390 : decode cL_law 390 = .ok (.iaload, 1) := by decide +kernel
theorem dL_law_391 : decode cL_law 391 = .ok (.aload_n 0, 1) := by decide +kernel
theorem dL_law_392 : decode cL_law 392 = .ok (.iload_n 3, 1) := by decide +kernel
theorem dL_law_393 : decode cL_law 393 = .ok (.iconst 3, 1) := by decide +kernel
theorem dL_law_394 : decode cL_law 394 = .ok (.iadd, 1) := by decide +kernel
theorem dL_law_395 : decode cL_law 395 = .ok (.iaload, 1) := by decide +kernel
theorem dL_law_396 : decode cL_law 396 = .ok (.invokevirtual 58, 3) := by decide +kernel
theorem dL_law_399 : decode cL_law 399 = .ok (.aload_n 2, 1) := by decide +kernel
theorem dL_law_400 : decode cL_law 400 = .ok (.aload_n 0, 1) := by decide +kernel
theorem dL_law_401 : decode cL_law 401 = .ok (.iload_n 3, 1) := by decide +kernel
theorem dL_law_402 : decode cL_law 402 = .ok (.iconst 1, 1) := by decide +kernel
theorem dL_law_403 : decode cL_law 403 = .ok (.iadd, 1) := by decide +kernel
theorem dL_law_404 : decode cL_law 404 = .ok (.iaload, 1) := by decide +kernel
theorem dL_law_405 : decode cL_law 405 = .ok (.aload_n 0, 1) := by decide +kernel
theorem dL_law_406 : decode cL_law 406 = .ok (.iload_n 3, 1) := by decide +kernel
theorem dL_law_407 : decode cL_law 407 = .ok (.iconst 2, 1) := by decide +kernel
theorem dL_law_408 : decode cL_law 408 = .ok (.iadd, 1) := by decide +kernel
theorem dL_law_409 : decode cL_law 409 = .ok (.iaload, 1) := by decide +kernel
theorem dL_law_410 : decode cL_law 410 = .ok (.aload_n 0, 1) := by decide +kernel
theorem dL_law_411 : decode cL_law 411 = .ok (.iload_n 3, 1) := by decide +kernel
theorem dL_law_412 : decode cL_law 412 = .ok (.iconst 3, 1) := by decide +kernel
theorem dL_law_413 : decode cL_law 413 = .ok (.iadd, 1) := by decide +kernel
theorem dL_law_414 : decode cL_law 414 = .ok (.iaload, 1) := by decide +kernel
theorem dL_law_415 : decode cL_law 415 = .ok (.invokevirtual 61, 3) := by decide +kernel
theorem dL_law_418 : decode cL_law 418 = .ok (.if_icmp .eq 196, 3) := by decide +kernel
theorem dL_law_421 : decode cL_law 421 = .ok (.iconst 0, 1) := by decide +kernel
theorem dL_law_422 : decode cL_law 422 = .ok (.ireturn, 1) := by decide +kernel
theorem dL_law_423 : decode cL_law 423 = .ok (.aload_n 1, 1) := by decide +kernel
theorem dL_law_424 : decode cL_law 424 = .ok (.aload_n 0, 1) := by decide +kernel
theorem dL_law_425 : decode cL_law 425 = .ok (.iload_n 3, 1) := by decide +kernel
theorem dL_law_426 : decode cL_law 426 = .ok (.iconst 1, 1) := by decide +kernel
theorem dL_law_427 : decode cL_law 427 = .ok (.iadd, 1) := by decide +kernel
theorem dL_law_428 : decode cL_law 428 = .ok (.iaload, 1) := by decide +kernel
theorem dL_law_429 : decode cL_law 429 = .ok (.aload_n 0, 1) := by decide +kernel
theorem dL_law_430 : decode cL_law 430 = .ok (.iload_n 3, 1) := by decide +kernel
theorem dL_law_431 : decode cL_law 431 = .ok (.iconst 2, 1) := by decide +kernel
theorem dL_law_432 : decode cL_law 432 = .ok (.iadd, 1) := by decide +kernel
theorem dL_law_433 : decode cL_law 433 = .ok (.iaload, 1) := by decide +kernel
theorem dL_law_434 : decode cL_law 434 = .ok (.invokevirtual 62, 3) := by decide +kernel
theorem dL_law_437 : decode cL_law 437 = .ok (.aload_n 2, 1) := by decide +kernel
theorem dL_law_438 : decode cL_law 438 = .ok (.aload_n 0, 1) := by decide +kernel
theorem dL_law_439 : decode cL_law 439 = .ok (.iload_n 3, 1) := by decide +kernel
theorem dL_law_440 : decode cL_law 440 = .ok (.iconst 1, 1) := by decide +kernel
theorem dL_law_441 : decode cL_law 441 = .ok (.iadd, 1) := by decide +kernel
theorem dL_law_442 : decode cL_law 442 = .ok (.iaload, 1) := by decide +kernel
theorem dL_law_443 : decode cL_law 443 = .ok (.aload_n 0, 1) := by decide +kernel
theorem dL_law_444 : decode cL_law 444 = .ok (.iload_n 3, 1) := by decide +kernel
theorem dL_law_445 : decode cL_law 445 = .ok (.iconst 2, 1) := by decide +kernel
theorem dL_law_446 : decode cL_law 446 = .ok (.iadd, 1) := by decide +kernel
theorem dL_law_447 : decode cL_law 447 = .ok (.iaload, 1) := by decide +kernel
theorem dL_law_448 : decode cL_law 448 = .ok (.invokevirtual 65, 3) := by decide +kernel
theorem dL_law_451 : decode cL_law 451 = .ok (.if_icmp .eq 163, 3) := by decide +kernel
theorem dL_law_454 : decode cL_law 454 = .ok (.iconst 0, 1) := by decide +kernel
theorem dL_law_455 : decode cL_law 455 = .ok (.ireturn, 1) := by decide +kernel
theorem dL_law_456 : decode cL_law 456 = .ok (.aload_n 1, 1) := by decide +kernel
theorem dL_law_457 : decode cL_law 457 = .ok (.aload_n 0, 1) := by decide +kernel
theorem dL_law_458 : decode cL_law 458 = .ok (.iload_n 3, 1) := by decide +kernel
theorem dL_law_459 : decode cL_law 459 = .ok (.iconst 1, 1) := by decide +kernel
theorem dL_law_460 : decode cL_law 460 = .ok (.iadd, 1) := by decide +kernel
theorem dL_law_461 : decode cL_law 461 = .ok (.iaload, 1) := by decide +kernel
theorem dL_law_462 : decode cL_law 462 = .ok (.aload_n 0, 1) := by decide +kernel
theorem dL_law_463 : decode cL_law 463 = .ok (.iload_n 3, 1) := by decide +kernel
theorem dL_law_464 : decode cL_law 464 = .ok (.iconst 2, 1) := by decide +kernel
theorem dL_law_465 : decode cL_law 465 = .ok (.iadd, 1) := by decide +kernel
theorem dL_law_466 : decode cL_law 466 = .ok (.iaload, 1) := by decide +kernel
theorem dL_law_467 : decode cL_law 467 = .ok (.aload_n 0, 1) := by decide +kernel
theorem dL_law_468 : decode cL_law 468 = .ok (.iload_n 3, 1) := by decide +kernel
theorem dL_law_469 : decode cL_law 469 = .ok (.iconst 3, 1) := by decide +kernel
theorem dL_law_470 : decode cL_law 470 = .ok (.iadd, 1) := by decide +kernel
theorem dL_law_471 : decode cL_law 471 = .ok (.iaload, 1) := by decide +kernel
theorem dL_law_472 : decode cL_law 472 = .ok (.invokevirtual 66, 3) := by decide +kernel
theorem dL_law_475 : decode cL_law 475 = .ok (.aload_n 2, 1) := by decide +kernel
theorem dL_law_476 : decode cL_law 476 = .ok (.aload_n 0, 1) := by decide +kernel
theorem dL_law_477 : decode cL_law 477 = .ok (.iload_n 3, 1) := by decide +kernel
theorem dL_law_478 : decode cL_law 478 = .ok (.iconst 1, 1) := by decide +kernel
theorem dL_law_479 : decode cL_law 479 = .ok (.iadd, 1) := by decide +kernel
theorem dL_law_480 : decode cL_law 480 = .ok (.iaload, 1) := by decide +kernel
theorem dL_law_481 : decode cL_law 481 = .ok (.aload_n 0, 1) := by decide +kernel
theorem dL_law_482 : decode cL_law 482 = .ok (.iload_n 3, 1) := by decide +kernel
theorem dL_law_483 : decode cL_law 483 = .ok (.iconst 2, 1) := by decide +kernel
theorem dL_law_484 : decode cL_law 484 = .ok (.iadd, 1) := by decide +kernel
theorem dL_law_485 : decode cL_law 485 = .ok (.iaload, 1) := by decide +kernel
theorem dL_law_486 : decode cL_law 486 = .ok (.aload_n 0, 1) := by decide +kernel
theorem dL_law_487 : decode cL_law 487 = .ok (.iload_n 3, 1) := by decide +kernel
theorem dL_law_488 : decode cL_law 488 = .ok (.iconst 3, 1) := by decide +kernel
theorem dL_law_489 : decode cL_law 489 = .ok (.iadd, 1) := by decide +kernel
theorem dL_law_490 : decode cL_law 490 = .ok (.iaload, 1) := by decide +kernel
theorem dL_law_491 : decode cL_law 491 = .ok (.invokevirtual 69, 3) := by decide +kernel
theorem dL_law_494 : decode cL_law 494 = .ok (.if_icmp .eq 120, 3) := by decide +kernel
theorem dL_law_497 : decode cL_law 497 = .ok (.iconst 0, 1) := by decide +kernel
theorem dL_law_498 : decode cL_law 498 = .ok (.ireturn, 1) := by decide +kernel
theorem dL_law_499 : decode cL_law 499 = .ok (.aload_n 1, 1) := by decide +kernel
theorem dL_law_500 : decode cL_law 500 = .ok (.aload_n 0, 1) := by decide +kernel
theorem dL_law_501 : decode cL_law 501 = .ok (.iload_n 3, 1) := by decide +kernel
theorem dL_law_502 : decode cL_law 502 = .ok (.iconst 1, 1) := by decide +kernel
theorem dL_law_503 : decode cL_law 503 = .ok (.iadd, 1) := by decide +kernel
theorem dL_law_504 : decode cL_law 504 = .ok (.iaload, 1) := by decide +kernel
theorem dL_law_505 : decode cL_law 505 = .ok (.aload_n 0, 1) := by decide +kernel
theorem dL_law_506 : decode cL_law 506 = .ok (.iload_n 3, 1) := by decide +kernel
theorem dL_law_507 : decode cL_law 507 = .ok (.iconst 2, 1) := by decide +kernel
theorem dL_law_508 : decode cL_law 508 = .ok (.iadd, 1) := by decide +kernel
theorem dL_law_509 : decode cL_law 509 = .ok (.iaload, 1) := by decide +kernel
theorem dL_law_510 : decode cL_law 510 = .ok (.invokevirtual 70, 3) := by decide +kernel
theorem dL_law_513 : decode cL_law 513 = .ok (.aload_n 2, 1) := by decide +kernel
theorem dL_law_514 : decode cL_law 514 = .ok (.aload_n 0, 1) := by decide +kernel
theorem dL_law_515 : decode cL_law 515 = .ok (.iload_n 3, 1) := by decide +kernel
theorem dL_law_516 : decode cL_law 516 = .ok (.iconst 1, 1) := by decide +kernel
theorem dL_law_517 : decode cL_law 517 = .ok (.iadd, 1) := by decide +kernel
theorem dL_law_518 : decode cL_law 518 = .ok (.iaload, 1) := by decide +kernel
theorem dL_law_519 : decode cL_law 519 = .ok (.aload_n 0, 1) := by decide +kernel
theorem dL_law_520 : decode cL_law 520 = .ok (.iload_n 3, 1) := by decide +kernel
theorem dL_law_521 : decode cL_law 521 = .ok (.iconst 2, 1) := by decide +kernel
theorem dL_law_522 : decode cL_law 522 = .ok (.iadd, 1) := by decide +kernel
theorem dL_law_523 : decode cL_law 523 = .ok (.iaload, 1) := by decide +kernel
theorem dL_law_524 : decode cL_law 524 = .ok (.invokevirtual 73, 3) := by decide +kernel
theorem dL_law_527 : decode cL_law 527 = .ok (.if_icmp .eq 87, 3) := by decide +kernel
theorem dL_law_530 : decode cL_law 530 = .ok (.iconst 0, 1) := by decide +kernel
theorem dL_law_531 : decode cL_law 531 = .ok (.ireturn, 1) := by decide +kernel
theorem dL_law_532 : decode cL_law 532 = .ok (.aload_n 1, 1) := by decide +kernel
theorem dL_law_533 : decode cL_law 533 = .ok (.aload_n 0, 1) := by decide +kernel
theorem dL_law_534 : decode cL_law 534 = .ok (.iload_n 3, 1) := by decide +kernel
theorem dL_law_535 : decode cL_law 535 = .ok (.iconst 1, 1) := by decide +kernel
theorem dL_law_536 : decode cL_law 536 = .ok (.iadd, 1) := by decide +kernel
theorem dL_law_537 : decode cL_law 537 = .ok (.iaload, 1) := by decide +kernel
theorem dL_law_538 : decode cL_law 538 = .ok (.aload_n 0, 1) := by decide +kernel
theorem dL_law_539 : decode cL_law 539 = .ok (.iload_n 3, 1) := by decide +kernel
theorem dL_law_540 : decode cL_law 540 = .ok (.iconst 2, 1) := by decide +kernel
theorem dL_law_541 : decode cL_law 541 = .ok (.iadd, 1) := by decide +kernel
theorem dL_law_542 : decode cL_law 542 = .ok (.iaload, 1) := by decide +kernel
theorem dL_law_543 : decode cL_law 543 = .ok (.invokevirtual 74, 3) := by decide +kernel
theorem dL_law_546 : decode cL_law 546 = .ok (.aload_n 2, 1) := by decide +kernel
theorem dL_law_547 : decode cL_law 547 = .ok (.aload_n 0, 1) := by decide +kernel
theorem dL_law_548 : decode cL_law 548 = .ok (.iload_n 3, 1) := by decide +kernel
theorem dL_law_549 : decode cL_law 549 = .ok (.iconst 1, 1) := by decide +kernel
theorem dL_law_550 : decode cL_law 550 = .ok (.iadd, 1) := by decide +kernel
theorem dL_law_551 : decode cL_law 551 = .ok (.iaload, 1) := by decide +kernel
theorem dL_law_552 : decode cL_law 552 = .ok (.aload_n 0, 1) := by decide +kernel
theorem dL_law_553 : decode cL_law 553 = .ok (.iload_n 3, 1) := by decide +kernel
theorem dL_law_554 : decode cL_law 554 = .ok (.iconst 2, 1) := by decide +kernel
theorem dL_law_555 : decode cL_law 555 = .ok (.iadd, 1) := by decide +kernel
theorem dL_law_556 : decode cL_law 556 = .ok (.iaload, 1) := by decide +kernel
theorem dL_law_557 : decode cL_law 557 = .ok (.invokevirtual 77, 3) := by decide +kernel
theorem dL_law_560 : decode cL_law 560 = .ok (.if_icmp .eq 54, 3) := by decide +kernel
theorem dL_law_563 : decode cL_law 563 = .ok (.iconst 0, 1) := by decide +kernel
theorem dL_law_564 : decode cL_law 564 = .ok (.ireturn, 1) := by decide +kernel
theorem dL_law_565 : decode cL_law 565 = .ok (.aload_n 1, 1) := by decide +kernel
theorem dL_law_566 : decode cL_law 566 = .ok (.invokevirtual 78, 3) := by decide +kernel
theorem dL_law_569 : decode cL_law 569 = .ok (.aload_n 2, 1) := by decide +kernel
theorem dL_law_570 : decode cL_law 570 = .ok (.invokevirtual 81, 3) := by decide +kernel
theorem dL_law_573 : decode cL_law 573 = .ok (.if_icmp .eq 41, 3) := by decide +kernel
theorem dL_law_576 : decode cL_law 576 = .ok (.iconst 0, 1) := by decide +kernel
theorem dL_law_577 : decode cL_law 577 = .ok (.ireturn, 1) := by decide +kernel
theorem dL_law_578 : decode cL_law 578 = .ok (.aload_n 1, 1) := by decide +kernel
theorem dL_law_579 : decode cL_law 579 = .ok (.invokevirtual 82, 3) := by decide +kernel
theorem dL_law_582 : decode cL_law 582 = .ok (.aload_n 2, 1) := by decide +kernel
theorem dL_law_583 : decode cL_law 583 = .ok (.invokevirtual 85, 3) := by decide +kernel
theorem dL_law_586 : decode cL_law 586 = .ok (.if_icmp .eq 28, 3) := by decide +kernel
theorem dL_law_589 : decode cL_law 589 = .ok (.iconst 0, 1) := by decide +kernel
theorem dL_law_590 : decode cL_law 590 = .ok (.ireturn, 1) := by decide +kernel
theorem dL_law_591 : decode cL_law 591 = .ok (.aload_n 1, 1) := by decide +kernel
theorem dL_law_592 : decode cL_law 592 = .ok (.aload_n 0, 1) := by decide +kernel
theorem dL_law_593 : decode cL_law 593 = .ok (.iload_n 3, 1) := by decide +kernel
theorem dL_law_594 : decode cL_law 594 = .ok (.iconst 1, 1) := by decide +kernel
theorem dL_law_595 : decode cL_law 595 = .ok (.iadd, 1) := by decide +kernel
theorem dL_law_596 : decode cL_law 596 = .ok (.iaload, 1) := by decide +kernel
theorem dL_law_597 : decode cL_law 597 = .ok (.invokevirtual 86, 3) := by decide +kernel
theorem dL_law_600 : decode cL_law 600 = .ok (.aload_n 2, 1) := by decide +kernel
theorem dL_law_601 : decode cL_law 601 = .ok (.aload_n 0, 1) := by decide +kernel
theorem dL_law_602 : decode cL_law 602 = .ok (.iload_n 3, 1) := by decide +kernel
theorem dL_law_603 : decode cL_law 603 = .ok (.iconst 1, 1) := by decide +kernel
theorem dL_law_604 : decode cL_law 604 = .ok (.iadd, 1) := by decide +kernel
theorem dL_law_605 : decode cL_law 605 = .ok (.iaload, 1) := by decide +kernel
theorem dL_law_606 : decode cL_law 606 = .ok (.invokevirtual 89, 3) := by decide +kernel
theorem dL_law_609 : decode cL_law 609 = .ok (.if_icmp .eq 5, 3) := by decide +kernel
theorem dL_law_612 : decode cL_law 612 = .ok (.iconst 0, 1) := by decide +kernel
theorem dL_law_613 : decode cL_law 613 = .ok (.ireturn, 1) := by decide +kernel
theorem dL_law_614 : decode cL_law 614 = .ok (.iinc 3 5, 3) := by decide +kernel
theorem dL_law_617 : decode cL_law 617 = .ok (.goto (-599), 3) := by decide +kernel
theorem dL_law_620 : decode cL_law 620 = .ok (.iconst 1, 1) := by decide +kernel
theorem dL_law_621 : decode cL_law 621 = .ok (.ireturn, 1) := by decide +kernel
abbrev vwCl : List vw_C := [(RX0, TX0, 4), (RX1, TX1, 2), (RX2, TX2, 3), (RX3, TX3, 5), (RX4, TX4, 7), (RX5, TX5, 11), (RX6, TX6, 2), (RX7, TX7, 6), (RX8, TX8, 18)]
/-- the objects of BundledLinks$End, kind 0: what each holds, by its address -/
structure wK_O_End where
  f_number : Nat → Int32
  f_rank : Nat → Int32
  f_ports : Nat → Option Nat
  f_flows : Nat → Option Nat
/-- the objects of BundledLinks$Flow, kind 1: what each holds, by its address -/
structure wK_O_Flow where
  f_link : Nat → Int32
  f_held : Nat → Int32
/-- the objects of BundledLinks$History, kind 2: what each holds, by its address -/
structure wK_O_History where
  f_kept : Nat → Option Nat
  f_next : Nat → Int32
  f_size : Nat → Int32
/-- the objects of BundledLinks$Message, kind 3: what each holds, by its address -/
structure wK_O_Message where
  f_there : Nat → Int32
  f_key : Nat → Int32
  f_priority : Nat → Int32
  f_rank : Nat → Int32
  f_sync : Nat → Int32
/-- the objects of BundledLinks$Net, kind 4: what each holds, by its address -/
structure wK_O_Net where
  f_zero : Nat → Option Nat
  f_one : Nat → Option Nat
  f_links : Nat → Int32
  f_most : Nat → Int32
  f_wait : Nat → Int32
  f_drain : Nat → Int32
  f_ticks : Nat → Int32
/-- the objects of BundledLinks$Port, kind 5: what each holds, by its address -/
structure wK_O_Port where
  f_up : Nat → Int32
  f_muted : Nat → Int32
  f_key : Nat → Int32
  f_priority : Nat → Int32
  f_heard : Nat → Option Nat
  f_said : Nat → Option Nat
  f_age : Nat → Int32
  f_how : Nat → Int32
  f_chosen : Nat → Int32
  f_chosenFor : Nat → Int32
  f_begun : Nat → Int32
/-- the objects of BundledLinks$Text, kind 6: what each holds, by its address -/
structure wK_O_Text where
  f_letters : Nat → Option Nat
  f_size : Nat → Int32
/-- the objects of BundledLinks, kind 7: what each holds, by its address -/
structure wK_O_BundledLinks where
  f_text : Nat → Option Nat
  f_net : Nat → Option Nat
  f_history : Nat → Option Nat
  f_went : Nat → Option Nat
  f_trial : Nat → Option Nat
  f_mark : Nat → Option Nat
/-- the objects of BundledLinksModel, kind 8: what each holds, by its address -/
structure wK_O_BundledLinksModel where
  f_links : Nat → Int32
  f_wait : Nat → Int32
  f_drain : Nat → Int32
  f_now : Nat → Option Nat
  f_kept : Nat → Option Nat
  f_past : Nat → Option Nat
  f_undos : Nat → Int32
  f_frames : Nat → Option Nat
  f_text : Nat → Option Nat
  f_letters : Nat → Int32
  f_newLinks : Nat → Int32
  f_told : Nat → Option Nat
  f_ranks : Nat → Option Nat
  f_more : Nat → Option Nat
  f_figures : Nat → Option Nat
  f_at : Nat → Int32
  f_chosen : Nat → Option Nat
  f_seen : Nat → Option Nat
/-- the arrays of kind 9: what each holds, by its address -/
structure wK_R_I where
  len : Nat → Nat
  row : Nat → Nat → Int32
/-- the arrays of kind 10: what each holds, by its address -/
structure wK_R_Z where
  len : Nat → Nat
  row : Nat → Nat → Int32
/-- the arrays of kind 11: what each holds, by its address -/
structure wK_R_Flow where
  len : Nat → Nat
  row : Nat → Nat → Option Nat
/-- the arrays of kind 12: what each holds, by its address -/
structure wK_R_Net where
  len : Nat → Nat
  row : Nat → Nat → Option Nat
/-- the arrays of kind 13: what each holds, by its address -/
structure wK_R_Port where
  len : Nat → Nat
  row : Nat → Nat → Option Nat
/-- the pool: the addresses, the kind of each, and the kinds -/
structure wPS where
  L : List Nat
  K : Nat → Nat
  O_End : wK_O_End
  O_Flow : wK_O_Flow
  O_History : wK_O_History
  O_Message : wK_O_Message
  O_Net : wK_O_Net
  O_Port : wK_O_Port
  O_Text : wK_O_Text
  O_BundledLinks : wK_O_BundledLinks
  O_BundledLinksModel : wK_O_BundledLinksModel
  R_I : wK_R_I
  R_Z : wK_R_Z
  R_Flow : wK_R_Flow
  R_Net : wK_R_Net
  R_Port : wK_R_Port
/-- the empty pool -/
abbrev wP0 : wPS := { L := [], K := (fun _ => 0), O_End := { f_number := (fun _ => 0), f_rank := (fun _ => 0), f_ports := (fun _ => none), f_flows := (fun _ => none) }, O_Flow := { f_link := (fun _ => 0), f_held := (fun _ => 0) }, O_History := { f_kept := (fun _ => none), f_next := (fun _ => 0), f_size := (fun _ => 0) }, O_Message := { f_there := (fun _ => 0), f_key := (fun _ => 0), f_priority := (fun _ => 0), f_rank := (fun _ => 0), f_sync := (fun _ => 0) }, O_Net := { f_zero := (fun _ => none), f_one := (fun _ => none), f_links := (fun _ => 0), f_most := (fun _ => 0), f_wait := (fun _ => 0), f_drain := (fun _ => 0), f_ticks := (fun _ => 0) }, O_Port := { f_up := (fun _ => 0), f_muted := (fun _ => 0), f_key := (fun _ => 0), f_priority := (fun _ => 0), f_heard := (fun _ => none), f_said := (fun _ => none), f_age := (fun _ => 0), f_how := (fun _ => 0), f_chosen := (fun _ => 0), f_chosenFor := (fun _ => 0), f_begun := (fun _ => 0) }, O_Text := { f_letters := (fun _ => none), f_size := (fun _ => 0) }, O_BundledLinks := { f_text := (fun _ => none), f_net := (fun _ => none), f_history := (fun _ => none), f_went := (fun _ => none), f_trial := (fun _ => none), f_mark := (fun _ => none) }, O_BundledLinksModel := { f_links := (fun _ => 0), f_wait := (fun _ => 0), f_drain := (fun _ => 0), f_now := (fun _ => none), f_kept := (fun _ => none), f_past := (fun _ => none), f_undos := (fun _ => 0), f_frames := (fun _ => none), f_text := (fun _ => none), f_letters := (fun _ => 0), f_newLinks := (fun _ => 0), f_told := (fun _ => none), f_ranks := (fun _ => none), f_more := (fun _ => none), f_figures := (fun _ => none), f_at := (fun _ => 0), f_chosen := (fun _ => none), f_seen := (fun _ => none) }, R_I := { len := (fun _ => 0), row := (fun _ _ => 0) }, R_Z := { len := (fun _ => 0), row := (fun _ _ => 0) }, R_Flow := { len := (fun _ => 0), row := (fun _ _ => none) }, R_Net := { len := (fun _ => 0), row := (fun _ _ => none) }, R_Port := { len := (fun _ => 0), row := (fun _ _ => none) } }
/-- the pool's rows by their kinds -/
abbrev wPF (cyI : ClassId) (cyZ : ClassId) (cyO40cd8 : ClassId) (cyO802ef : ClassId) (cyO6ad6e : ClassId) (S : wPS) : Nat → va_E := fun a => if S.K a = 0 then .inr (0, [.int (S.O_End.f_number a), .int (S.O_End.f_rank a), va_rf (S.O_End.f_ports a), va_rf (S.O_End.f_flows a)]) else if S.K a = 1 then .inr (1, [.int (S.O_Flow.f_link a), .int (S.O_Flow.f_held a)]) else if S.K a = 2 then .inr (2, [va_rf (S.O_History.f_kept a), .int (S.O_History.f_next a), .int (S.O_History.f_size a)]) else if S.K a = 3 then .inr (3, [.int (S.O_Message.f_there a), .int (S.O_Message.f_key a), .int (S.O_Message.f_priority a), .int (S.O_Message.f_rank a), .int (S.O_Message.f_sync a)]) else if S.K a = 4 then .inr (4, [va_rf (S.O_Net.f_zero a), va_rf (S.O_Net.f_one a), .int (S.O_Net.f_links a), .int (S.O_Net.f_most a), .int (S.O_Net.f_wait a), .int (S.O_Net.f_drain a), .int (S.O_Net.f_ticks a)]) else if S.K a = 5 then .inr (5, [.int (S.O_Port.f_up a), .int (S.O_Port.f_muted a), .int (S.O_Port.f_key a), .int (S.O_Port.f_priority a), va_rf (S.O_Port.f_heard a), va_rf (S.O_Port.f_said a), .int (S.O_Port.f_age a), .int (S.O_Port.f_how a), .int (S.O_Port.f_chosen a), .int (S.O_Port.f_chosenFor a), .int (S.O_Port.f_begun a)]) else if S.K a = 6 then .inr (6, [va_rf (S.O_Text.f_letters a), .int (S.O_Text.f_size a)]) else if S.K a = 7 then .inr (7, [va_rf (S.O_BundledLinks.f_text a), va_rf (S.O_BundledLinks.f_net a), va_rf (S.O_BundledLinks.f_history a), va_rf (S.O_BundledLinks.f_went a), va_rf (S.O_BundledLinks.f_trial a), va_rf (S.O_BundledLinks.f_mark a)]) else if S.K a = 8 then .inr (8, [.int (S.O_BundledLinksModel.f_links a), .int (S.O_BundledLinksModel.f_wait a), .int (S.O_BundledLinksModel.f_drain a), va_rf (S.O_BundledLinksModel.f_now a), va_rf (S.O_BundledLinksModel.f_kept a), va_rf (S.O_BundledLinksModel.f_past a), .int (S.O_BundledLinksModel.f_undos a), va_rf (S.O_BundledLinksModel.f_frames a), va_rf (S.O_BundledLinksModel.f_text a), .int (S.O_BundledLinksModel.f_letters a), .int (S.O_BundledLinksModel.f_newLinks a), va_rf (S.O_BundledLinksModel.f_told a), va_rf (S.O_BundledLinksModel.f_ranks a), va_rf (S.O_BundledLinksModel.f_more a), va_rf (S.O_BundledLinksModel.f_figures a), .int (S.O_BundledLinksModel.f_at a), va_rf (S.O_BundledLinksModel.f_chosen a), va_rf (S.O_BundledLinksModel.f_seen a)]) else if S.K a = 9 then .inl (cyI, S.R_I.len a, .inl (S.R_I.row a)) else if S.K a = 10 then .inl (cyZ, S.R_Z.len a, .inl (S.R_Z.row a)) else if S.K a = 11 then .inl (cyO40cd8, S.R_Flow.len a, .inr (.inr (.inr (.inr (S.R_Flow.row a))))) else if S.K a = 12 then .inl (cyO802ef, S.R_Net.len a, .inr (.inr (.inr (.inr (S.R_Net.row a))))) else .inl (cyO6ad6e, S.R_Port.len a, .inr (.inr (.inr (.inr (S.R_Port.row a)))))
theorem wAt_O_End (cyI : ClassId) (cyZ : ClassId) (cyO40cd8 : ClassId) (cyO802ef : ClassId) (cyO6ad6e : ClassId) (S : wPS) {a : Nat} (h : S.K a = 0) : wPF cyI cyZ cyO40cd8 cyO802ef cyO6ad6e S a = .inr (0, [.int (S.O_End.f_number a), .int (S.O_End.f_rank a), va_rf (S.O_End.f_ports a), va_rf (S.O_End.f_flows a)]) := by simp [wPF, h]
theorem wGt_O_End (cyI : ClassId) (cyZ : ClassId) (cyO40cd8 : ClassId) (cyO802ef : ClassId) (cyO6ad6e : ClassId) (X : va_W) (S : wPS) {a : Nat} (hL : a ∈ S.L) (h : S.K a = 0) : ∃ k : Nat, (X ++ va_pl S.L (wPF cyI cyZ cyO40cd8 cyO802ef cyO6ad6e S))[k]? = some (a, wPF cyI cyZ cyO40cd8 cyO802ef cyO6ad6e S a) ∧ (X ++ va_pl S.L (wPF cyI cyZ cyO40cd8 cyO802ef cyO6ad6e S))[k]? = some (a, .inr (0, [.int (S.O_End.f_number a), .int (S.O_End.f_rank a), va_rf (S.O_End.f_ports a), va_rf (S.O_End.f_flows a)])) := by
  obtain ⟨k, hk⟩ := va_pl_get (X := X) (f := wPF cyI cyZ cyO40cd8 cyO802ef cyO6ad6e S) hL
  exact ⟨k, hk, hk.trans (congrArg (fun e => some (a, e)) (wAt_O_End cyI cyZ cyO40cd8 cyO802ef cyO6ad6e S h))⟩
theorem wSt_O_End_f_number (cyI : ClassId) (cyZ : ClassId) (cyO40cd8 : ClassId) (cyO802ef : ClassId) (cyO6ad6e : ClassId) (S : wPS) {a : Nat} (h : S.K a = 0) (v : Int32) (b : Nat) : va_up (wPF cyI cyZ cyO40cd8 cyO802ef cyO6ad6e S) a (.inr (0, [.int v, .int (S.O_End.f_rank a), va_rf (S.O_End.f_ports a), va_rf (S.O_End.f_flows a)])) b = wPF cyI cyZ cyO40cd8 cyO802ef cyO6ad6e { S with O_End := { S.O_End with f_number := va_up S.O_End.f_number a v } } b := by by_cases hb : b = a <;> first | (simp only [wPF, va_up_ne _ _ hb]; done) | (simp only [wPF, va_up, if_neg hb]; done) | simp [wPF, va_re, va_up, va_rf, hb, h]
theorem wPu_O_End_f_number (cyI : ClassId) (cyZ : ClassId) (cyO40cd8 : ClassId) (cyO802ef : ClassId) (cyO6ad6e : ClassId) (X : va_W) (S : wPS) {A : Nat → Prop} {a k : Nat} (hD : va_D A (X ++ va_pl S.L (wPF cyI cyZ cyO40cd8 cyO802ef cyO6ad6e S))) (hL : a ∈ S.L) (h : S.K a = 0) (hk : (X ++ va_pl S.L (wPF cyI cyZ cyO40cd8 cyO802ef cyO6ad6e S))[k]? = some (a, wPF cyI cyZ cyO40cd8 cyO802ef cyO6ad6e S a)) (v : Int32) : (X ++ va_pl S.L (wPF cyI cyZ cyO40cd8 cyO802ef cyO6ad6e S)).set k (a, .inr (0, [.int v, .int (S.O_End.f_rank a), va_rf (S.O_End.f_ports a), va_rf (S.O_End.f_flows a)])) = X ++ va_pl S.L (wPF cyI cyZ cyO40cd8 cyO802ef cyO6ad6e { S with O_End := { S.O_End with f_number := va_up S.O_End.f_number a v } }) := by
  rw [va_pl_set hD hL hk]
  exact congrArg (fun l => X ++ l) (va_pl_congr (wSt_O_End_f_number cyI cyZ cyO40cd8 cyO802ef cyO6ad6e S h v))
theorem wSt_O_End_f_rank (cyI : ClassId) (cyZ : ClassId) (cyO40cd8 : ClassId) (cyO802ef : ClassId) (cyO6ad6e : ClassId) (S : wPS) {a : Nat} (h : S.K a = 0) (v : Int32) (b : Nat) : va_up (wPF cyI cyZ cyO40cd8 cyO802ef cyO6ad6e S) a (.inr (0, [.int (S.O_End.f_number a), .int v, va_rf (S.O_End.f_ports a), va_rf (S.O_End.f_flows a)])) b = wPF cyI cyZ cyO40cd8 cyO802ef cyO6ad6e { S with O_End := { S.O_End with f_rank := va_up S.O_End.f_rank a v } } b := by by_cases hb : b = a <;> first | (simp only [wPF, va_up_ne _ _ hb]; done) | (simp only [wPF, va_up, if_neg hb]; done) | simp [wPF, va_re, va_up, va_rf, hb, h]
theorem wPu_O_End_f_rank (cyI : ClassId) (cyZ : ClassId) (cyO40cd8 : ClassId) (cyO802ef : ClassId) (cyO6ad6e : ClassId) (X : va_W) (S : wPS) {A : Nat → Prop} {a k : Nat} (hD : va_D A (X ++ va_pl S.L (wPF cyI cyZ cyO40cd8 cyO802ef cyO6ad6e S))) (hL : a ∈ S.L) (h : S.K a = 0) (hk : (X ++ va_pl S.L (wPF cyI cyZ cyO40cd8 cyO802ef cyO6ad6e S))[k]? = some (a, wPF cyI cyZ cyO40cd8 cyO802ef cyO6ad6e S a)) (v : Int32) : (X ++ va_pl S.L (wPF cyI cyZ cyO40cd8 cyO802ef cyO6ad6e S)).set k (a, .inr (0, [.int (S.O_End.f_number a), .int v, va_rf (S.O_End.f_ports a), va_rf (S.O_End.f_flows a)])) = X ++ va_pl S.L (wPF cyI cyZ cyO40cd8 cyO802ef cyO6ad6e { S with O_End := { S.O_End with f_rank := va_up S.O_End.f_rank a v } }) := by
  rw [va_pl_set hD hL hk]
  exact congrArg (fun l => X ++ l) (va_pl_congr (wSt_O_End_f_rank cyI cyZ cyO40cd8 cyO802ef cyO6ad6e S h v))
theorem wSt_O_End_f_ports (cyI : ClassId) (cyZ : ClassId) (cyO40cd8 : ClassId) (cyO802ef : ClassId) (cyO6ad6e : ClassId) (S : wPS) {a : Nat} (h : S.K a = 0) (v : Option Nat) (b : Nat) : va_up (wPF cyI cyZ cyO40cd8 cyO802ef cyO6ad6e S) a (.inr (0, [.int (S.O_End.f_number a), .int (S.O_End.f_rank a), va_rf v, va_rf (S.O_End.f_flows a)])) b = wPF cyI cyZ cyO40cd8 cyO802ef cyO6ad6e { S with O_End := { S.O_End with f_ports := va_up S.O_End.f_ports a v } } b := by by_cases hb : b = a <;> first | (simp only [wPF, va_up_ne _ _ hb]; done) | (simp only [wPF, va_up, if_neg hb]; done) | simp [wPF, va_re, va_up, va_rf, hb, h]
theorem wPu_O_End_f_ports (cyI : ClassId) (cyZ : ClassId) (cyO40cd8 : ClassId) (cyO802ef : ClassId) (cyO6ad6e : ClassId) (X : va_W) (S : wPS) {A : Nat → Prop} {a k : Nat} (hD : va_D A (X ++ va_pl S.L (wPF cyI cyZ cyO40cd8 cyO802ef cyO6ad6e S))) (hL : a ∈ S.L) (h : S.K a = 0) (hk : (X ++ va_pl S.L (wPF cyI cyZ cyO40cd8 cyO802ef cyO6ad6e S))[k]? = some (a, wPF cyI cyZ cyO40cd8 cyO802ef cyO6ad6e S a)) (v : Option Nat) : (X ++ va_pl S.L (wPF cyI cyZ cyO40cd8 cyO802ef cyO6ad6e S)).set k (a, .inr (0, [.int (S.O_End.f_number a), .int (S.O_End.f_rank a), va_rf v, va_rf (S.O_End.f_flows a)])) = X ++ va_pl S.L (wPF cyI cyZ cyO40cd8 cyO802ef cyO6ad6e { S with O_End := { S.O_End with f_ports := va_up S.O_End.f_ports a v } }) := by
  rw [va_pl_set hD hL hk]
  exact congrArg (fun l => X ++ l) (va_pl_congr (wSt_O_End_f_ports cyI cyZ cyO40cd8 cyO802ef cyO6ad6e S h v))
theorem wSt_O_End_f_flows (cyI : ClassId) (cyZ : ClassId) (cyO40cd8 : ClassId) (cyO802ef : ClassId) (cyO6ad6e : ClassId) (S : wPS) {a : Nat} (h : S.K a = 0) (v : Option Nat) (b : Nat) : va_up (wPF cyI cyZ cyO40cd8 cyO802ef cyO6ad6e S) a (.inr (0, [.int (S.O_End.f_number a), .int (S.O_End.f_rank a), va_rf (S.O_End.f_ports a), va_rf v])) b = wPF cyI cyZ cyO40cd8 cyO802ef cyO6ad6e { S with O_End := { S.O_End with f_flows := va_up S.O_End.f_flows a v } } b := by by_cases hb : b = a <;> first | (simp only [wPF, va_up_ne _ _ hb]; done) | (simp only [wPF, va_up, if_neg hb]; done) | simp [wPF, va_re, va_up, va_rf, hb, h]
theorem wPu_O_End_f_flows (cyI : ClassId) (cyZ : ClassId) (cyO40cd8 : ClassId) (cyO802ef : ClassId) (cyO6ad6e : ClassId) (X : va_W) (S : wPS) {A : Nat → Prop} {a k : Nat} (hD : va_D A (X ++ va_pl S.L (wPF cyI cyZ cyO40cd8 cyO802ef cyO6ad6e S))) (hL : a ∈ S.L) (h : S.K a = 0) (hk : (X ++ va_pl S.L (wPF cyI cyZ cyO40cd8 cyO802ef cyO6ad6e S))[k]? = some (a, wPF cyI cyZ cyO40cd8 cyO802ef cyO6ad6e S a)) (v : Option Nat) : (X ++ va_pl S.L (wPF cyI cyZ cyO40cd8 cyO802ef cyO6ad6e S)).set k (a, .inr (0, [.int (S.O_End.f_number a), .int (S.O_End.f_rank a), va_rf (S.O_End.f_ports a), va_rf v])) = X ++ va_pl S.L (wPF cyI cyZ cyO40cd8 cyO802ef cyO6ad6e { S with O_End := { S.O_End with f_flows := va_up S.O_End.f_flows a v } }) := by
  rw [va_pl_set hD hL hk]
  exact congrArg (fun l => X ++ l) (va_pl_congr (wSt_O_End_f_flows cyI cyZ cyO40cd8 cyO802ef cyO6ad6e S h v))
theorem wNw_O_End (cyI : ClassId) (cyZ : ClassId) (cyO40cd8 : ClassId) (cyO802ef : ClassId) (cyO6ad6e : ClassId) (S : wPS) (a b : Nat) : va_up (wPF cyI cyZ cyO40cd8 cyO802ef cyO6ad6e S) a (.inr (0, [.int 0, .int 0, .null, .null])) b = wPF cyI cyZ cyO40cd8 cyO802ef cyO6ad6e { S with L := S.L ++ [a], K := va_up S.K a 0, O_End := { f_number := va_up S.O_End.f_number a 0, f_rank := va_up S.O_End.f_rank a 0, f_ports := va_up S.O_End.f_ports a none, f_flows := va_up S.O_End.f_flows a none } } b := by by_cases hb : b = a <;> first | (simp only [wPF, va_up_ne _ _ hb]; done) | (simp only [wPF, va_up, if_neg hb]; done) | simp [wPF, va_re, va_up, va_rf, hb]
theorem wPn_O_End (cyI : ClassId) (cyZ : ClassId) (cyO40cd8 : ClassId) (cyO802ef : ClassId) (cyO6ad6e : ClassId) (X : va_W) (S : wPS) {a : Nat} (ha : a ∉ S.L) : (X ++ va_pl S.L (wPF cyI cyZ cyO40cd8 cyO802ef cyO6ad6e S)) ++ [(a, .inr (0, [.int 0, .int 0, .null, .null]))] = X ++ va_pl (S.L ++ [a]) (wPF cyI cyZ cyO40cd8 cyO802ef cyO6ad6e { S with L := S.L ++ [a], K := va_up S.K a 0, O_End := { f_number := va_up S.O_End.f_number a 0, f_rank := va_up S.O_End.f_rank a 0, f_ports := va_up S.O_End.f_ports a none, f_flows := va_up S.O_End.f_flows a none } }) := by
  rw [List.append_assoc, va_pl_push ha]
  exact congrArg (fun l => X ++ l) (va_pl_congr (wNw_O_End cyI cyZ cyO40cd8 cyO802ef cyO6ad6e S a))
theorem wAt_O_Flow (cyI : ClassId) (cyZ : ClassId) (cyO40cd8 : ClassId) (cyO802ef : ClassId) (cyO6ad6e : ClassId) (S : wPS) {a : Nat} (h : S.K a = 1) : wPF cyI cyZ cyO40cd8 cyO802ef cyO6ad6e S a = .inr (1, [.int (S.O_Flow.f_link a), .int (S.O_Flow.f_held a)]) := by simp [wPF, h]
theorem wGt_O_Flow (cyI : ClassId) (cyZ : ClassId) (cyO40cd8 : ClassId) (cyO802ef : ClassId) (cyO6ad6e : ClassId) (X : va_W) (S : wPS) {a : Nat} (hL : a ∈ S.L) (h : S.K a = 1) : ∃ k : Nat, (X ++ va_pl S.L (wPF cyI cyZ cyO40cd8 cyO802ef cyO6ad6e S))[k]? = some (a, wPF cyI cyZ cyO40cd8 cyO802ef cyO6ad6e S a) ∧ (X ++ va_pl S.L (wPF cyI cyZ cyO40cd8 cyO802ef cyO6ad6e S))[k]? = some (a, .inr (1, [.int (S.O_Flow.f_link a), .int (S.O_Flow.f_held a)])) := by
  obtain ⟨k, hk⟩ := va_pl_get (X := X) (f := wPF cyI cyZ cyO40cd8 cyO802ef cyO6ad6e S) hL
  exact ⟨k, hk, hk.trans (congrArg (fun e => some (a, e)) (wAt_O_Flow cyI cyZ cyO40cd8 cyO802ef cyO6ad6e S h))⟩
theorem wSt_O_Flow_f_link (cyI : ClassId) (cyZ : ClassId) (cyO40cd8 : ClassId) (cyO802ef : ClassId) (cyO6ad6e : ClassId) (S : wPS) {a : Nat} (h : S.K a = 1) (v : Int32) (b : Nat) : va_up (wPF cyI cyZ cyO40cd8 cyO802ef cyO6ad6e S) a (.inr (1, [.int v, .int (S.O_Flow.f_held a)])) b = wPF cyI cyZ cyO40cd8 cyO802ef cyO6ad6e { S with O_Flow := { S.O_Flow with f_link := va_up S.O_Flow.f_link a v } } b := by by_cases hb : b = a <;> first | (simp only [wPF, va_up_ne _ _ hb]; done) | (simp only [wPF, va_up, if_neg hb]; done) | simp [wPF, va_re, va_up, va_rf, hb, h]
theorem wPu_O_Flow_f_link (cyI : ClassId) (cyZ : ClassId) (cyO40cd8 : ClassId) (cyO802ef : ClassId) (cyO6ad6e : ClassId) (X : va_W) (S : wPS) {A : Nat → Prop} {a k : Nat} (hD : va_D A (X ++ va_pl S.L (wPF cyI cyZ cyO40cd8 cyO802ef cyO6ad6e S))) (hL : a ∈ S.L) (h : S.K a = 1) (hk : (X ++ va_pl S.L (wPF cyI cyZ cyO40cd8 cyO802ef cyO6ad6e S))[k]? = some (a, wPF cyI cyZ cyO40cd8 cyO802ef cyO6ad6e S a)) (v : Int32) : (X ++ va_pl S.L (wPF cyI cyZ cyO40cd8 cyO802ef cyO6ad6e S)).set k (a, .inr (1, [.int v, .int (S.O_Flow.f_held a)])) = X ++ va_pl S.L (wPF cyI cyZ cyO40cd8 cyO802ef cyO6ad6e { S with O_Flow := { S.O_Flow with f_link := va_up S.O_Flow.f_link a v } }) := by
  rw [va_pl_set hD hL hk]
  exact congrArg (fun l => X ++ l) (va_pl_congr (wSt_O_Flow_f_link cyI cyZ cyO40cd8 cyO802ef cyO6ad6e S h v))
theorem wSt_O_Flow_f_held (cyI : ClassId) (cyZ : ClassId) (cyO40cd8 : ClassId) (cyO802ef : ClassId) (cyO6ad6e : ClassId) (S : wPS) {a : Nat} (h : S.K a = 1) (v : Int32) (b : Nat) : va_up (wPF cyI cyZ cyO40cd8 cyO802ef cyO6ad6e S) a (.inr (1, [.int (S.O_Flow.f_link a), .int v])) b = wPF cyI cyZ cyO40cd8 cyO802ef cyO6ad6e { S with O_Flow := { S.O_Flow with f_held := va_up S.O_Flow.f_held a v } } b := by by_cases hb : b = a <;> first | (simp only [wPF, va_up_ne _ _ hb]; done) | (simp only [wPF, va_up, if_neg hb]; done) | simp [wPF, va_re, va_up, va_rf, hb, h]
theorem wPu_O_Flow_f_held (cyI : ClassId) (cyZ : ClassId) (cyO40cd8 : ClassId) (cyO802ef : ClassId) (cyO6ad6e : ClassId) (X : va_W) (S : wPS) {A : Nat → Prop} {a k : Nat} (hD : va_D A (X ++ va_pl S.L (wPF cyI cyZ cyO40cd8 cyO802ef cyO6ad6e S))) (hL : a ∈ S.L) (h : S.K a = 1) (hk : (X ++ va_pl S.L (wPF cyI cyZ cyO40cd8 cyO802ef cyO6ad6e S))[k]? = some (a, wPF cyI cyZ cyO40cd8 cyO802ef cyO6ad6e S a)) (v : Int32) : (X ++ va_pl S.L (wPF cyI cyZ cyO40cd8 cyO802ef cyO6ad6e S)).set k (a, .inr (1, [.int (S.O_Flow.f_link a), .int v])) = X ++ va_pl S.L (wPF cyI cyZ cyO40cd8 cyO802ef cyO6ad6e { S with O_Flow := { S.O_Flow with f_held := va_up S.O_Flow.f_held a v } }) := by
  rw [va_pl_set hD hL hk]
  exact congrArg (fun l => X ++ l) (va_pl_congr (wSt_O_Flow_f_held cyI cyZ cyO40cd8 cyO802ef cyO6ad6e S h v))
theorem wNw_O_Flow (cyI : ClassId) (cyZ : ClassId) (cyO40cd8 : ClassId) (cyO802ef : ClassId) (cyO6ad6e : ClassId) (S : wPS) (a b : Nat) : va_up (wPF cyI cyZ cyO40cd8 cyO802ef cyO6ad6e S) a (.inr (1, [.int 0, .int 0])) b = wPF cyI cyZ cyO40cd8 cyO802ef cyO6ad6e { S with L := S.L ++ [a], K := va_up S.K a 1, O_Flow := { f_link := va_up S.O_Flow.f_link a 0, f_held := va_up S.O_Flow.f_held a 0 } } b := by by_cases hb : b = a <;> first | (simp only [wPF, va_up_ne _ _ hb]; done) | (simp only [wPF, va_up, if_neg hb]; done) | simp [wPF, va_re, va_up, va_rf, hb]
theorem wPn_O_Flow (cyI : ClassId) (cyZ : ClassId) (cyO40cd8 : ClassId) (cyO802ef : ClassId) (cyO6ad6e : ClassId) (X : va_W) (S : wPS) {a : Nat} (ha : a ∉ S.L) : (X ++ va_pl S.L (wPF cyI cyZ cyO40cd8 cyO802ef cyO6ad6e S)) ++ [(a, .inr (1, [.int 0, .int 0]))] = X ++ va_pl (S.L ++ [a]) (wPF cyI cyZ cyO40cd8 cyO802ef cyO6ad6e { S with L := S.L ++ [a], K := va_up S.K a 1, O_Flow := { f_link := va_up S.O_Flow.f_link a 0, f_held := va_up S.O_Flow.f_held a 0 } }) := by
  rw [List.append_assoc, va_pl_push ha]
  exact congrArg (fun l => X ++ l) (va_pl_congr (wNw_O_Flow cyI cyZ cyO40cd8 cyO802ef cyO6ad6e S a))
theorem wAt_O_History (cyI : ClassId) (cyZ : ClassId) (cyO40cd8 : ClassId) (cyO802ef : ClassId) (cyO6ad6e : ClassId) (S : wPS) {a : Nat} (h : S.K a = 2) : wPF cyI cyZ cyO40cd8 cyO802ef cyO6ad6e S a = .inr (2, [va_rf (S.O_History.f_kept a), .int (S.O_History.f_next a), .int (S.O_History.f_size a)]) := by simp [wPF, h]
theorem wGt_O_History (cyI : ClassId) (cyZ : ClassId) (cyO40cd8 : ClassId) (cyO802ef : ClassId) (cyO6ad6e : ClassId) (X : va_W) (S : wPS) {a : Nat} (hL : a ∈ S.L) (h : S.K a = 2) : ∃ k : Nat, (X ++ va_pl S.L (wPF cyI cyZ cyO40cd8 cyO802ef cyO6ad6e S))[k]? = some (a, wPF cyI cyZ cyO40cd8 cyO802ef cyO6ad6e S a) ∧ (X ++ va_pl S.L (wPF cyI cyZ cyO40cd8 cyO802ef cyO6ad6e S))[k]? = some (a, .inr (2, [va_rf (S.O_History.f_kept a), .int (S.O_History.f_next a), .int (S.O_History.f_size a)])) := by
  obtain ⟨k, hk⟩ := va_pl_get (X := X) (f := wPF cyI cyZ cyO40cd8 cyO802ef cyO6ad6e S) hL
  exact ⟨k, hk, hk.trans (congrArg (fun e => some (a, e)) (wAt_O_History cyI cyZ cyO40cd8 cyO802ef cyO6ad6e S h))⟩
theorem wSt_O_History_f_kept (cyI : ClassId) (cyZ : ClassId) (cyO40cd8 : ClassId) (cyO802ef : ClassId) (cyO6ad6e : ClassId) (S : wPS) {a : Nat} (h : S.K a = 2) (v : Option Nat) (b : Nat) : va_up (wPF cyI cyZ cyO40cd8 cyO802ef cyO6ad6e S) a (.inr (2, [va_rf v, .int (S.O_History.f_next a), .int (S.O_History.f_size a)])) b = wPF cyI cyZ cyO40cd8 cyO802ef cyO6ad6e { S with O_History := { S.O_History with f_kept := va_up S.O_History.f_kept a v } } b := by by_cases hb : b = a <;> first | (simp only [wPF, va_up_ne _ _ hb]; done) | (simp only [wPF, va_up, if_neg hb]; done) | simp [wPF, va_re, va_up, va_rf, hb, h]
theorem wPu_O_History_f_kept (cyI : ClassId) (cyZ : ClassId) (cyO40cd8 : ClassId) (cyO802ef : ClassId) (cyO6ad6e : ClassId) (X : va_W) (S : wPS) {A : Nat → Prop} {a k : Nat} (hD : va_D A (X ++ va_pl S.L (wPF cyI cyZ cyO40cd8 cyO802ef cyO6ad6e S))) (hL : a ∈ S.L) (h : S.K a = 2) (hk : (X ++ va_pl S.L (wPF cyI cyZ cyO40cd8 cyO802ef cyO6ad6e S))[k]? = some (a, wPF cyI cyZ cyO40cd8 cyO802ef cyO6ad6e S a)) (v : Option Nat) : (X ++ va_pl S.L (wPF cyI cyZ cyO40cd8 cyO802ef cyO6ad6e S)).set k (a, .inr (2, [va_rf v, .int (S.O_History.f_next a), .int (S.O_History.f_size a)])) = X ++ va_pl S.L (wPF cyI cyZ cyO40cd8 cyO802ef cyO6ad6e { S with O_History := { S.O_History with f_kept := va_up S.O_History.f_kept a v } }) := by
  rw [va_pl_set hD hL hk]
  exact congrArg (fun l => X ++ l) (va_pl_congr (wSt_O_History_f_kept cyI cyZ cyO40cd8 cyO802ef cyO6ad6e S h v))
theorem wSt_O_History_f_next (cyI : ClassId) (cyZ : ClassId) (cyO40cd8 : ClassId) (cyO802ef : ClassId) (cyO6ad6e : ClassId) (S : wPS) {a : Nat} (h : S.K a = 2) (v : Int32) (b : Nat) : va_up (wPF cyI cyZ cyO40cd8 cyO802ef cyO6ad6e S) a (.inr (2, [va_rf (S.O_History.f_kept a), .int v, .int (S.O_History.f_size a)])) b = wPF cyI cyZ cyO40cd8 cyO802ef cyO6ad6e { S with O_History := { S.O_History with f_next := va_up S.O_History.f_next a v } } b := by by_cases hb : b = a <;> first | (simp only [wPF, va_up_ne _ _ hb]; done) | (simp only [wPF, va_up, if_neg hb]; done) | simp [wPF, va_re, va_up, va_rf, hb, h]
theorem wPu_O_History_f_next (cyI : ClassId) (cyZ : ClassId) (cyO40cd8 : ClassId) (cyO802ef : ClassId) (cyO6ad6e : ClassId) (X : va_W) (S : wPS) {A : Nat → Prop} {a k : Nat} (hD : va_D A (X ++ va_pl S.L (wPF cyI cyZ cyO40cd8 cyO802ef cyO6ad6e S))) (hL : a ∈ S.L) (h : S.K a = 2) (hk : (X ++ va_pl S.L (wPF cyI cyZ cyO40cd8 cyO802ef cyO6ad6e S))[k]? = some (a, wPF cyI cyZ cyO40cd8 cyO802ef cyO6ad6e S a)) (v : Int32) : (X ++ va_pl S.L (wPF cyI cyZ cyO40cd8 cyO802ef cyO6ad6e S)).set k (a, .inr (2, [va_rf (S.O_History.f_kept a), .int v, .int (S.O_History.f_size a)])) = X ++ va_pl S.L (wPF cyI cyZ cyO40cd8 cyO802ef cyO6ad6e { S with O_History := { S.O_History with f_next := va_up S.O_History.f_next a v } }) := by
  rw [va_pl_set hD hL hk]
  exact congrArg (fun l => X ++ l) (va_pl_congr (wSt_O_History_f_next cyI cyZ cyO40cd8 cyO802ef cyO6ad6e S h v))
theorem wSt_O_History_f_size (cyI : ClassId) (cyZ : ClassId) (cyO40cd8 : ClassId) (cyO802ef : ClassId) (cyO6ad6e : ClassId) (S : wPS) {a : Nat} (h : S.K a = 2) (v : Int32) (b : Nat) : va_up (wPF cyI cyZ cyO40cd8 cyO802ef cyO6ad6e S) a (.inr (2, [va_rf (S.O_History.f_kept a), .int (S.O_History.f_next a), .int v])) b = wPF cyI cyZ cyO40cd8 cyO802ef cyO6ad6e { S with O_History := { S.O_History with f_size := va_up S.O_History.f_size a v } } b := by by_cases hb : b = a <;> first | (simp only [wPF, va_up_ne _ _ hb]; done) | (simp only [wPF, va_up, if_neg hb]; done) | simp [wPF, va_re, va_up, va_rf, hb, h]
theorem wPu_O_History_f_size (cyI : ClassId) (cyZ : ClassId) (cyO40cd8 : ClassId) (cyO802ef : ClassId) (cyO6ad6e : ClassId) (X : va_W) (S : wPS) {A : Nat → Prop} {a k : Nat} (hD : va_D A (X ++ va_pl S.L (wPF cyI cyZ cyO40cd8 cyO802ef cyO6ad6e S))) (hL : a ∈ S.L) (h : S.K a = 2) (hk : (X ++ va_pl S.L (wPF cyI cyZ cyO40cd8 cyO802ef cyO6ad6e S))[k]? = some (a, wPF cyI cyZ cyO40cd8 cyO802ef cyO6ad6e S a)) (v : Int32) : (X ++ va_pl S.L (wPF cyI cyZ cyO40cd8 cyO802ef cyO6ad6e S)).set k (a, .inr (2, [va_rf (S.O_History.f_kept a), .int (S.O_History.f_next a), .int v])) = X ++ va_pl S.L (wPF cyI cyZ cyO40cd8 cyO802ef cyO6ad6e { S with O_History := { S.O_History with f_size := va_up S.O_History.f_size a v } }) := by
  rw [va_pl_set hD hL hk]
  exact congrArg (fun l => X ++ l) (va_pl_congr (wSt_O_History_f_size cyI cyZ cyO40cd8 cyO802ef cyO6ad6e S h v))
theorem wNw_O_History (cyI : ClassId) (cyZ : ClassId) (cyO40cd8 : ClassId) (cyO802ef : ClassId) (cyO6ad6e : ClassId) (S : wPS) (a b : Nat) : va_up (wPF cyI cyZ cyO40cd8 cyO802ef cyO6ad6e S) a (.inr (2, [.null, .int 0, .int 0])) b = wPF cyI cyZ cyO40cd8 cyO802ef cyO6ad6e { S with L := S.L ++ [a], K := va_up S.K a 2, O_History := { f_kept := va_up S.O_History.f_kept a none, f_next := va_up S.O_History.f_next a 0, f_size := va_up S.O_History.f_size a 0 } } b := by by_cases hb : b = a <;> first | (simp only [wPF, va_up_ne _ _ hb]; done) | (simp only [wPF, va_up, if_neg hb]; done) | simp [wPF, va_re, va_up, va_rf, hb]
theorem wPn_O_History (cyI : ClassId) (cyZ : ClassId) (cyO40cd8 : ClassId) (cyO802ef : ClassId) (cyO6ad6e : ClassId) (X : va_W) (S : wPS) {a : Nat} (ha : a ∉ S.L) : (X ++ va_pl S.L (wPF cyI cyZ cyO40cd8 cyO802ef cyO6ad6e S)) ++ [(a, .inr (2, [.null, .int 0, .int 0]))] = X ++ va_pl (S.L ++ [a]) (wPF cyI cyZ cyO40cd8 cyO802ef cyO6ad6e { S with L := S.L ++ [a], K := va_up S.K a 2, O_History := { f_kept := va_up S.O_History.f_kept a none, f_next := va_up S.O_History.f_next a 0, f_size := va_up S.O_History.f_size a 0 } }) := by
  rw [List.append_assoc, va_pl_push ha]
  exact congrArg (fun l => X ++ l) (va_pl_congr (wNw_O_History cyI cyZ cyO40cd8 cyO802ef cyO6ad6e S a))
theorem wAt_O_Message (cyI : ClassId) (cyZ : ClassId) (cyO40cd8 : ClassId) (cyO802ef : ClassId) (cyO6ad6e : ClassId) (S : wPS) {a : Nat} (h : S.K a = 3) : wPF cyI cyZ cyO40cd8 cyO802ef cyO6ad6e S a = .inr (3, [.int (S.O_Message.f_there a), .int (S.O_Message.f_key a), .int (S.O_Message.f_priority a), .int (S.O_Message.f_rank a), .int (S.O_Message.f_sync a)]) := by simp [wPF, h]
theorem wGt_O_Message (cyI : ClassId) (cyZ : ClassId) (cyO40cd8 : ClassId) (cyO802ef : ClassId) (cyO6ad6e : ClassId) (X : va_W) (S : wPS) {a : Nat} (hL : a ∈ S.L) (h : S.K a = 3) : ∃ k : Nat, (X ++ va_pl S.L (wPF cyI cyZ cyO40cd8 cyO802ef cyO6ad6e S))[k]? = some (a, wPF cyI cyZ cyO40cd8 cyO802ef cyO6ad6e S a) ∧ (X ++ va_pl S.L (wPF cyI cyZ cyO40cd8 cyO802ef cyO6ad6e S))[k]? = some (a, .inr (3, [.int (S.O_Message.f_there a), .int (S.O_Message.f_key a), .int (S.O_Message.f_priority a), .int (S.O_Message.f_rank a), .int (S.O_Message.f_sync a)])) := by
  obtain ⟨k, hk⟩ := va_pl_get (X := X) (f := wPF cyI cyZ cyO40cd8 cyO802ef cyO6ad6e S) hL
  exact ⟨k, hk, hk.trans (congrArg (fun e => some (a, e)) (wAt_O_Message cyI cyZ cyO40cd8 cyO802ef cyO6ad6e S h))⟩
theorem wSt_O_Message_f_there (cyI : ClassId) (cyZ : ClassId) (cyO40cd8 : ClassId) (cyO802ef : ClassId) (cyO6ad6e : ClassId) (S : wPS) {a : Nat} (h : S.K a = 3) (v : Int32) (b : Nat) : va_up (wPF cyI cyZ cyO40cd8 cyO802ef cyO6ad6e S) a (.inr (3, [.int v, .int (S.O_Message.f_key a), .int (S.O_Message.f_priority a), .int (S.O_Message.f_rank a), .int (S.O_Message.f_sync a)])) b = wPF cyI cyZ cyO40cd8 cyO802ef cyO6ad6e { S with O_Message := { S.O_Message with f_there := va_up S.O_Message.f_there a v } } b := by by_cases hb : b = a <;> first | (simp only [wPF, va_up_ne _ _ hb]; done) | (simp only [wPF, va_up, if_neg hb]; done) | simp [wPF, va_re, va_up, va_rf, hb, h]
theorem wPu_O_Message_f_there (cyI : ClassId) (cyZ : ClassId) (cyO40cd8 : ClassId) (cyO802ef : ClassId) (cyO6ad6e : ClassId) (X : va_W) (S : wPS) {A : Nat → Prop} {a k : Nat} (hD : va_D A (X ++ va_pl S.L (wPF cyI cyZ cyO40cd8 cyO802ef cyO6ad6e S))) (hL : a ∈ S.L) (h : S.K a = 3) (hk : (X ++ va_pl S.L (wPF cyI cyZ cyO40cd8 cyO802ef cyO6ad6e S))[k]? = some (a, wPF cyI cyZ cyO40cd8 cyO802ef cyO6ad6e S a)) (v : Int32) : (X ++ va_pl S.L (wPF cyI cyZ cyO40cd8 cyO802ef cyO6ad6e S)).set k (a, .inr (3, [.int v, .int (S.O_Message.f_key a), .int (S.O_Message.f_priority a), .int (S.O_Message.f_rank a), .int (S.O_Message.f_sync a)])) = X ++ va_pl S.L (wPF cyI cyZ cyO40cd8 cyO802ef cyO6ad6e { S with O_Message := { S.O_Message with f_there := va_up S.O_Message.f_there a v } }) := by
  rw [va_pl_set hD hL hk]
  exact congrArg (fun l => X ++ l) (va_pl_congr (wSt_O_Message_f_there cyI cyZ cyO40cd8 cyO802ef cyO6ad6e S h v))
theorem wSt_O_Message_f_key (cyI : ClassId) (cyZ : ClassId) (cyO40cd8 : ClassId) (cyO802ef : ClassId) (cyO6ad6e : ClassId) (S : wPS) {a : Nat} (h : S.K a = 3) (v : Int32) (b : Nat) : va_up (wPF cyI cyZ cyO40cd8 cyO802ef cyO6ad6e S) a (.inr (3, [.int (S.O_Message.f_there a), .int v, .int (S.O_Message.f_priority a), .int (S.O_Message.f_rank a), .int (S.O_Message.f_sync a)])) b = wPF cyI cyZ cyO40cd8 cyO802ef cyO6ad6e { S with O_Message := { S.O_Message with f_key := va_up S.O_Message.f_key a v } } b := by by_cases hb : b = a <;> first | (simp only [wPF, va_up_ne _ _ hb]; done) | (simp only [wPF, va_up, if_neg hb]; done) | simp [wPF, va_re, va_up, va_rf, hb, h]
theorem wPu_O_Message_f_key (cyI : ClassId) (cyZ : ClassId) (cyO40cd8 : ClassId) (cyO802ef : ClassId) (cyO6ad6e : ClassId) (X : va_W) (S : wPS) {A : Nat → Prop} {a k : Nat} (hD : va_D A (X ++ va_pl S.L (wPF cyI cyZ cyO40cd8 cyO802ef cyO6ad6e S))) (hL : a ∈ S.L) (h : S.K a = 3) (hk : (X ++ va_pl S.L (wPF cyI cyZ cyO40cd8 cyO802ef cyO6ad6e S))[k]? = some (a, wPF cyI cyZ cyO40cd8 cyO802ef cyO6ad6e S a)) (v : Int32) : (X ++ va_pl S.L (wPF cyI cyZ cyO40cd8 cyO802ef cyO6ad6e S)).set k (a, .inr (3, [.int (S.O_Message.f_there a), .int v, .int (S.O_Message.f_priority a), .int (S.O_Message.f_rank a), .int (S.O_Message.f_sync a)])) = X ++ va_pl S.L (wPF cyI cyZ cyO40cd8 cyO802ef cyO6ad6e { S with O_Message := { S.O_Message with f_key := va_up S.O_Message.f_key a v } }) := by
  rw [va_pl_set hD hL hk]
  exact congrArg (fun l => X ++ l) (va_pl_congr (wSt_O_Message_f_key cyI cyZ cyO40cd8 cyO802ef cyO6ad6e S h v))
theorem wSt_O_Message_f_priority (cyI : ClassId) (cyZ : ClassId) (cyO40cd8 : ClassId) (cyO802ef : ClassId) (cyO6ad6e : ClassId) (S : wPS) {a : Nat} (h : S.K a = 3) (v : Int32) (b : Nat) : va_up (wPF cyI cyZ cyO40cd8 cyO802ef cyO6ad6e S) a (.inr (3, [.int (S.O_Message.f_there a), .int (S.O_Message.f_key a), .int v, .int (S.O_Message.f_rank a), .int (S.O_Message.f_sync a)])) b = wPF cyI cyZ cyO40cd8 cyO802ef cyO6ad6e { S with O_Message := { S.O_Message with f_priority := va_up S.O_Message.f_priority a v } } b := by by_cases hb : b = a <;> first | (simp only [wPF, va_up_ne _ _ hb]; done) | (simp only [wPF, va_up, if_neg hb]; done) | simp [wPF, va_re, va_up, va_rf, hb, h]
theorem wPu_O_Message_f_priority (cyI : ClassId) (cyZ : ClassId) (cyO40cd8 : ClassId) (cyO802ef : ClassId) (cyO6ad6e : ClassId) (X : va_W) (S : wPS) {A : Nat → Prop} {a k : Nat} (hD : va_D A (X ++ va_pl S.L (wPF cyI cyZ cyO40cd8 cyO802ef cyO6ad6e S))) (hL : a ∈ S.L) (h : S.K a = 3) (hk : (X ++ va_pl S.L (wPF cyI cyZ cyO40cd8 cyO802ef cyO6ad6e S))[k]? = some (a, wPF cyI cyZ cyO40cd8 cyO802ef cyO6ad6e S a)) (v : Int32) : (X ++ va_pl S.L (wPF cyI cyZ cyO40cd8 cyO802ef cyO6ad6e S)).set k (a, .inr (3, [.int (S.O_Message.f_there a), .int (S.O_Message.f_key a), .int v, .int (S.O_Message.f_rank a), .int (S.O_Message.f_sync a)])) = X ++ va_pl S.L (wPF cyI cyZ cyO40cd8 cyO802ef cyO6ad6e { S with O_Message := { S.O_Message with f_priority := va_up S.O_Message.f_priority a v } }) := by
  rw [va_pl_set hD hL hk]
  exact congrArg (fun l => X ++ l) (va_pl_congr (wSt_O_Message_f_priority cyI cyZ cyO40cd8 cyO802ef cyO6ad6e S h v))
theorem wSt_O_Message_f_rank (cyI : ClassId) (cyZ : ClassId) (cyO40cd8 : ClassId) (cyO802ef : ClassId) (cyO6ad6e : ClassId) (S : wPS) {a : Nat} (h : S.K a = 3) (v : Int32) (b : Nat) : va_up (wPF cyI cyZ cyO40cd8 cyO802ef cyO6ad6e S) a (.inr (3, [.int (S.O_Message.f_there a), .int (S.O_Message.f_key a), .int (S.O_Message.f_priority a), .int v, .int (S.O_Message.f_sync a)])) b = wPF cyI cyZ cyO40cd8 cyO802ef cyO6ad6e { S with O_Message := { S.O_Message with f_rank := va_up S.O_Message.f_rank a v } } b := by by_cases hb : b = a <;> first | (simp only [wPF, va_up_ne _ _ hb]; done) | (simp only [wPF, va_up, if_neg hb]; done) | simp [wPF, va_re, va_up, va_rf, hb, h]
theorem wPu_O_Message_f_rank (cyI : ClassId) (cyZ : ClassId) (cyO40cd8 : ClassId) (cyO802ef : ClassId) (cyO6ad6e : ClassId) (X : va_W) (S : wPS) {A : Nat → Prop} {a k : Nat} (hD : va_D A (X ++ va_pl S.L (wPF cyI cyZ cyO40cd8 cyO802ef cyO6ad6e S))) (hL : a ∈ S.L) (h : S.K a = 3) (hk : (X ++ va_pl S.L (wPF cyI cyZ cyO40cd8 cyO802ef cyO6ad6e S))[k]? = some (a, wPF cyI cyZ cyO40cd8 cyO802ef cyO6ad6e S a)) (v : Int32) : (X ++ va_pl S.L (wPF cyI cyZ cyO40cd8 cyO802ef cyO6ad6e S)).set k (a, .inr (3, [.int (S.O_Message.f_there a), .int (S.O_Message.f_key a), .int (S.O_Message.f_priority a), .int v, .int (S.O_Message.f_sync a)])) = X ++ va_pl S.L (wPF cyI cyZ cyO40cd8 cyO802ef cyO6ad6e { S with O_Message := { S.O_Message with f_rank := va_up S.O_Message.f_rank a v } }) := by
  rw [va_pl_set hD hL hk]
  exact congrArg (fun l => X ++ l) (va_pl_congr (wSt_O_Message_f_rank cyI cyZ cyO40cd8 cyO802ef cyO6ad6e S h v))
theorem wSt_O_Message_f_sync (cyI : ClassId) (cyZ : ClassId) (cyO40cd8 : ClassId) (cyO802ef : ClassId) (cyO6ad6e : ClassId) (S : wPS) {a : Nat} (h : S.K a = 3) (v : Int32) (b : Nat) : va_up (wPF cyI cyZ cyO40cd8 cyO802ef cyO6ad6e S) a (.inr (3, [.int (S.O_Message.f_there a), .int (S.O_Message.f_key a), .int (S.O_Message.f_priority a), .int (S.O_Message.f_rank a), .int v])) b = wPF cyI cyZ cyO40cd8 cyO802ef cyO6ad6e { S with O_Message := { S.O_Message with f_sync := va_up S.O_Message.f_sync a v } } b := by by_cases hb : b = a <;> first | (simp only [wPF, va_up_ne _ _ hb]; done) | (simp only [wPF, va_up, if_neg hb]; done) | simp [wPF, va_re, va_up, va_rf, hb, h]
theorem wPu_O_Message_f_sync (cyI : ClassId) (cyZ : ClassId) (cyO40cd8 : ClassId) (cyO802ef : ClassId) (cyO6ad6e : ClassId) (X : va_W) (S : wPS) {A : Nat → Prop} {a k : Nat} (hD : va_D A (X ++ va_pl S.L (wPF cyI cyZ cyO40cd8 cyO802ef cyO6ad6e S))) (hL : a ∈ S.L) (h : S.K a = 3) (hk : (X ++ va_pl S.L (wPF cyI cyZ cyO40cd8 cyO802ef cyO6ad6e S))[k]? = some (a, wPF cyI cyZ cyO40cd8 cyO802ef cyO6ad6e S a)) (v : Int32) : (X ++ va_pl S.L (wPF cyI cyZ cyO40cd8 cyO802ef cyO6ad6e S)).set k (a, .inr (3, [.int (S.O_Message.f_there a), .int (S.O_Message.f_key a), .int (S.O_Message.f_priority a), .int (S.O_Message.f_rank a), .int v])) = X ++ va_pl S.L (wPF cyI cyZ cyO40cd8 cyO802ef cyO6ad6e { S with O_Message := { S.O_Message with f_sync := va_up S.O_Message.f_sync a v } }) := by
  rw [va_pl_set hD hL hk]
  exact congrArg (fun l => X ++ l) (va_pl_congr (wSt_O_Message_f_sync cyI cyZ cyO40cd8 cyO802ef cyO6ad6e S h v))
theorem wNw_O_Message (cyI : ClassId) (cyZ : ClassId) (cyO40cd8 : ClassId) (cyO802ef : ClassId) (cyO6ad6e : ClassId) (S : wPS) (a b : Nat) : va_up (wPF cyI cyZ cyO40cd8 cyO802ef cyO6ad6e S) a (.inr (3, [.int 0, .int 0, .int 0, .int 0, .int 0])) b = wPF cyI cyZ cyO40cd8 cyO802ef cyO6ad6e { S with L := S.L ++ [a], K := va_up S.K a 3, O_Message := { f_there := va_up S.O_Message.f_there a 0, f_key := va_up S.O_Message.f_key a 0, f_priority := va_up S.O_Message.f_priority a 0, f_rank := va_up S.O_Message.f_rank a 0, f_sync := va_up S.O_Message.f_sync a 0 } } b := by by_cases hb : b = a <;> first | (simp only [wPF, va_up_ne _ _ hb]; done) | (simp only [wPF, va_up, if_neg hb]; done) | simp [wPF, va_re, va_up, va_rf, hb]
theorem wPn_O_Message (cyI : ClassId) (cyZ : ClassId) (cyO40cd8 : ClassId) (cyO802ef : ClassId) (cyO6ad6e : ClassId) (X : va_W) (S : wPS) {a : Nat} (ha : a ∉ S.L) : (X ++ va_pl S.L (wPF cyI cyZ cyO40cd8 cyO802ef cyO6ad6e S)) ++ [(a, .inr (3, [.int 0, .int 0, .int 0, .int 0, .int 0]))] = X ++ va_pl (S.L ++ [a]) (wPF cyI cyZ cyO40cd8 cyO802ef cyO6ad6e { S with L := S.L ++ [a], K := va_up S.K a 3, O_Message := { f_there := va_up S.O_Message.f_there a 0, f_key := va_up S.O_Message.f_key a 0, f_priority := va_up S.O_Message.f_priority a 0, f_rank := va_up S.O_Message.f_rank a 0, f_sync := va_up S.O_Message.f_sync a 0 } }) := by
  rw [List.append_assoc, va_pl_push ha]
  exact congrArg (fun l => X ++ l) (va_pl_congr (wNw_O_Message cyI cyZ cyO40cd8 cyO802ef cyO6ad6e S a))
theorem wAt_O_Net (cyI : ClassId) (cyZ : ClassId) (cyO40cd8 : ClassId) (cyO802ef : ClassId) (cyO6ad6e : ClassId) (S : wPS) {a : Nat} (h : S.K a = 4) : wPF cyI cyZ cyO40cd8 cyO802ef cyO6ad6e S a = .inr (4, [va_rf (S.O_Net.f_zero a), va_rf (S.O_Net.f_one a), .int (S.O_Net.f_links a), .int (S.O_Net.f_most a), .int (S.O_Net.f_wait a), .int (S.O_Net.f_drain a), .int (S.O_Net.f_ticks a)]) := by simp [wPF, h]
theorem wGt_O_Net (cyI : ClassId) (cyZ : ClassId) (cyO40cd8 : ClassId) (cyO802ef : ClassId) (cyO6ad6e : ClassId) (X : va_W) (S : wPS) {a : Nat} (hL : a ∈ S.L) (h : S.K a = 4) : ∃ k : Nat, (X ++ va_pl S.L (wPF cyI cyZ cyO40cd8 cyO802ef cyO6ad6e S))[k]? = some (a, wPF cyI cyZ cyO40cd8 cyO802ef cyO6ad6e S a) ∧ (X ++ va_pl S.L (wPF cyI cyZ cyO40cd8 cyO802ef cyO6ad6e S))[k]? = some (a, .inr (4, [va_rf (S.O_Net.f_zero a), va_rf (S.O_Net.f_one a), .int (S.O_Net.f_links a), .int (S.O_Net.f_most a), .int (S.O_Net.f_wait a), .int (S.O_Net.f_drain a), .int (S.O_Net.f_ticks a)])) := by
  obtain ⟨k, hk⟩ := va_pl_get (X := X) (f := wPF cyI cyZ cyO40cd8 cyO802ef cyO6ad6e S) hL
  exact ⟨k, hk, hk.trans (congrArg (fun e => some (a, e)) (wAt_O_Net cyI cyZ cyO40cd8 cyO802ef cyO6ad6e S h))⟩
theorem wSt_O_Net_f_zero (cyI : ClassId) (cyZ : ClassId) (cyO40cd8 : ClassId) (cyO802ef : ClassId) (cyO6ad6e : ClassId) (S : wPS) {a : Nat} (h : S.K a = 4) (v : Option Nat) (b : Nat) : va_up (wPF cyI cyZ cyO40cd8 cyO802ef cyO6ad6e S) a (.inr (4, [va_rf v, va_rf (S.O_Net.f_one a), .int (S.O_Net.f_links a), .int (S.O_Net.f_most a), .int (S.O_Net.f_wait a), .int (S.O_Net.f_drain a), .int (S.O_Net.f_ticks a)])) b = wPF cyI cyZ cyO40cd8 cyO802ef cyO6ad6e { S with O_Net := { S.O_Net with f_zero := va_up S.O_Net.f_zero a v } } b := by by_cases hb : b = a <;> first | (simp only [wPF, va_up_ne _ _ hb]; done) | (simp only [wPF, va_up, if_neg hb]; done) | simp [wPF, va_re, va_up, va_rf, hb, h]
theorem wPu_O_Net_f_zero (cyI : ClassId) (cyZ : ClassId) (cyO40cd8 : ClassId) (cyO802ef : ClassId) (cyO6ad6e : ClassId) (X : va_W) (S : wPS) {A : Nat → Prop} {a k : Nat} (hD : va_D A (X ++ va_pl S.L (wPF cyI cyZ cyO40cd8 cyO802ef cyO6ad6e S))) (hL : a ∈ S.L) (h : S.K a = 4) (hk : (X ++ va_pl S.L (wPF cyI cyZ cyO40cd8 cyO802ef cyO6ad6e S))[k]? = some (a, wPF cyI cyZ cyO40cd8 cyO802ef cyO6ad6e S a)) (v : Option Nat) : (X ++ va_pl S.L (wPF cyI cyZ cyO40cd8 cyO802ef cyO6ad6e S)).set k (a, .inr (4, [va_rf v, va_rf (S.O_Net.f_one a), .int (S.O_Net.f_links a), .int (S.O_Net.f_most a), .int (S.O_Net.f_wait a), .int (S.O_Net.f_drain a), .int (S.O_Net.f_ticks a)])) = X ++ va_pl S.L (wPF cyI cyZ cyO40cd8 cyO802ef cyO6ad6e { S with O_Net := { S.O_Net with f_zero := va_up S.O_Net.f_zero a v } }) := by
  rw [va_pl_set hD hL hk]
  exact congrArg (fun l => X ++ l) (va_pl_congr (wSt_O_Net_f_zero cyI cyZ cyO40cd8 cyO802ef cyO6ad6e S h v))
theorem wSt_O_Net_f_one (cyI : ClassId) (cyZ : ClassId) (cyO40cd8 : ClassId) (cyO802ef : ClassId) (cyO6ad6e : ClassId) (S : wPS) {a : Nat} (h : S.K a = 4) (v : Option Nat) (b : Nat) : va_up (wPF cyI cyZ cyO40cd8 cyO802ef cyO6ad6e S) a (.inr (4, [va_rf (S.O_Net.f_zero a), va_rf v, .int (S.O_Net.f_links a), .int (S.O_Net.f_most a), .int (S.O_Net.f_wait a), .int (S.O_Net.f_drain a), .int (S.O_Net.f_ticks a)])) b = wPF cyI cyZ cyO40cd8 cyO802ef cyO6ad6e { S with O_Net := { S.O_Net with f_one := va_up S.O_Net.f_one a v } } b := by by_cases hb : b = a <;> first | (simp only [wPF, va_up_ne _ _ hb]; done) | (simp only [wPF, va_up, if_neg hb]; done) | simp [wPF, va_re, va_up, va_rf, hb, h]
theorem wPu_O_Net_f_one (cyI : ClassId) (cyZ : ClassId) (cyO40cd8 : ClassId) (cyO802ef : ClassId) (cyO6ad6e : ClassId) (X : va_W) (S : wPS) {A : Nat → Prop} {a k : Nat} (hD : va_D A (X ++ va_pl S.L (wPF cyI cyZ cyO40cd8 cyO802ef cyO6ad6e S))) (hL : a ∈ S.L) (h : S.K a = 4) (hk : (X ++ va_pl S.L (wPF cyI cyZ cyO40cd8 cyO802ef cyO6ad6e S))[k]? = some (a, wPF cyI cyZ cyO40cd8 cyO802ef cyO6ad6e S a)) (v : Option Nat) : (X ++ va_pl S.L (wPF cyI cyZ cyO40cd8 cyO802ef cyO6ad6e S)).set k (a, .inr (4, [va_rf (S.O_Net.f_zero a), va_rf v, .int (S.O_Net.f_links a), .int (S.O_Net.f_most a), .int (S.O_Net.f_wait a), .int (S.O_Net.f_drain a), .int (S.O_Net.f_ticks a)])) = X ++ va_pl S.L (wPF cyI cyZ cyO40cd8 cyO802ef cyO6ad6e { S with O_Net := { S.O_Net with f_one := va_up S.O_Net.f_one a v } }) := by
  rw [va_pl_set hD hL hk]
  exact congrArg (fun l => X ++ l) (va_pl_congr (wSt_O_Net_f_one cyI cyZ cyO40cd8 cyO802ef cyO6ad6e S h v))
theorem wSt_O_Net_f_links (cyI : ClassId) (cyZ : ClassId) (cyO40cd8 : ClassId) (cyO802ef : ClassId) (cyO6ad6e : ClassId) (S : wPS) {a : Nat} (h : S.K a = 4) (v : Int32) (b : Nat) : va_up (wPF cyI cyZ cyO40cd8 cyO802ef cyO6ad6e S) a (.inr (4, [va_rf (S.O_Net.f_zero a), va_rf (S.O_Net.f_one a), .int v, .int (S.O_Net.f_most a), .int (S.O_Net.f_wait a), .int (S.O_Net.f_drain a), .int (S.O_Net.f_ticks a)])) b = wPF cyI cyZ cyO40cd8 cyO802ef cyO6ad6e { S with O_Net := { S.O_Net with f_links := va_up S.O_Net.f_links a v } } b := by by_cases hb : b = a <;> first | (simp only [wPF, va_up_ne _ _ hb]; done) | (simp only [wPF, va_up, if_neg hb]; done) | simp [wPF, va_re, va_up, va_rf, hb, h]
theorem wPu_O_Net_f_links (cyI : ClassId) (cyZ : ClassId) (cyO40cd8 : ClassId) (cyO802ef : ClassId) (cyO6ad6e : ClassId) (X : va_W) (S : wPS) {A : Nat → Prop} {a k : Nat} (hD : va_D A (X ++ va_pl S.L (wPF cyI cyZ cyO40cd8 cyO802ef cyO6ad6e S))) (hL : a ∈ S.L) (h : S.K a = 4) (hk : (X ++ va_pl S.L (wPF cyI cyZ cyO40cd8 cyO802ef cyO6ad6e S))[k]? = some (a, wPF cyI cyZ cyO40cd8 cyO802ef cyO6ad6e S a)) (v : Int32) : (X ++ va_pl S.L (wPF cyI cyZ cyO40cd8 cyO802ef cyO6ad6e S)).set k (a, .inr (4, [va_rf (S.O_Net.f_zero a), va_rf (S.O_Net.f_one a), .int v, .int (S.O_Net.f_most a), .int (S.O_Net.f_wait a), .int (S.O_Net.f_drain a), .int (S.O_Net.f_ticks a)])) = X ++ va_pl S.L (wPF cyI cyZ cyO40cd8 cyO802ef cyO6ad6e { S with O_Net := { S.O_Net with f_links := va_up S.O_Net.f_links a v } }) := by
  rw [va_pl_set hD hL hk]
  exact congrArg (fun l => X ++ l) (va_pl_congr (wSt_O_Net_f_links cyI cyZ cyO40cd8 cyO802ef cyO6ad6e S h v))
theorem wSt_O_Net_f_most (cyI : ClassId) (cyZ : ClassId) (cyO40cd8 : ClassId) (cyO802ef : ClassId) (cyO6ad6e : ClassId) (S : wPS) {a : Nat} (h : S.K a = 4) (v : Int32) (b : Nat) : va_up (wPF cyI cyZ cyO40cd8 cyO802ef cyO6ad6e S) a (.inr (4, [va_rf (S.O_Net.f_zero a), va_rf (S.O_Net.f_one a), .int (S.O_Net.f_links a), .int v, .int (S.O_Net.f_wait a), .int (S.O_Net.f_drain a), .int (S.O_Net.f_ticks a)])) b = wPF cyI cyZ cyO40cd8 cyO802ef cyO6ad6e { S with O_Net := { S.O_Net with f_most := va_up S.O_Net.f_most a v } } b := by by_cases hb : b = a <;> first | (simp only [wPF, va_up_ne _ _ hb]; done) | (simp only [wPF, va_up, if_neg hb]; done) | simp [wPF, va_re, va_up, va_rf, hb, h]
theorem wPu_O_Net_f_most (cyI : ClassId) (cyZ : ClassId) (cyO40cd8 : ClassId) (cyO802ef : ClassId) (cyO6ad6e : ClassId) (X : va_W) (S : wPS) {A : Nat → Prop} {a k : Nat} (hD : va_D A (X ++ va_pl S.L (wPF cyI cyZ cyO40cd8 cyO802ef cyO6ad6e S))) (hL : a ∈ S.L) (h : S.K a = 4) (hk : (X ++ va_pl S.L (wPF cyI cyZ cyO40cd8 cyO802ef cyO6ad6e S))[k]? = some (a, wPF cyI cyZ cyO40cd8 cyO802ef cyO6ad6e S a)) (v : Int32) : (X ++ va_pl S.L (wPF cyI cyZ cyO40cd8 cyO802ef cyO6ad6e S)).set k (a, .inr (4, [va_rf (S.O_Net.f_zero a), va_rf (S.O_Net.f_one a), .int (S.O_Net.f_links a), .int v, .int (S.O_Net.f_wait a), .int (S.O_Net.f_drain a), .int (S.O_Net.f_ticks a)])) = X ++ va_pl S.L (wPF cyI cyZ cyO40cd8 cyO802ef cyO6ad6e { S with O_Net := { S.O_Net with f_most := va_up S.O_Net.f_most a v } }) := by
  rw [va_pl_set hD hL hk]
  exact congrArg (fun l => X ++ l) (va_pl_congr (wSt_O_Net_f_most cyI cyZ cyO40cd8 cyO802ef cyO6ad6e S h v))
theorem wSt_O_Net_f_wait (cyI : ClassId) (cyZ : ClassId) (cyO40cd8 : ClassId) (cyO802ef : ClassId) (cyO6ad6e : ClassId) (S : wPS) {a : Nat} (h : S.K a = 4) (v : Int32) (b : Nat) : va_up (wPF cyI cyZ cyO40cd8 cyO802ef cyO6ad6e S) a (.inr (4, [va_rf (S.O_Net.f_zero a), va_rf (S.O_Net.f_one a), .int (S.O_Net.f_links a), .int (S.O_Net.f_most a), .int v, .int (S.O_Net.f_drain a), .int (S.O_Net.f_ticks a)])) b = wPF cyI cyZ cyO40cd8 cyO802ef cyO6ad6e { S with O_Net := { S.O_Net with f_wait := va_up S.O_Net.f_wait a v } } b := by by_cases hb : b = a <;> first | (simp only [wPF, va_up_ne _ _ hb]; done) | (simp only [wPF, va_up, if_neg hb]; done) | simp [wPF, va_re, va_up, va_rf, hb, h]
theorem wPu_O_Net_f_wait (cyI : ClassId) (cyZ : ClassId) (cyO40cd8 : ClassId) (cyO802ef : ClassId) (cyO6ad6e : ClassId) (X : va_W) (S : wPS) {A : Nat → Prop} {a k : Nat} (hD : va_D A (X ++ va_pl S.L (wPF cyI cyZ cyO40cd8 cyO802ef cyO6ad6e S))) (hL : a ∈ S.L) (h : S.K a = 4) (hk : (X ++ va_pl S.L (wPF cyI cyZ cyO40cd8 cyO802ef cyO6ad6e S))[k]? = some (a, wPF cyI cyZ cyO40cd8 cyO802ef cyO6ad6e S a)) (v : Int32) : (X ++ va_pl S.L (wPF cyI cyZ cyO40cd8 cyO802ef cyO6ad6e S)).set k (a, .inr (4, [va_rf (S.O_Net.f_zero a), va_rf (S.O_Net.f_one a), .int (S.O_Net.f_links a), .int (S.O_Net.f_most a), .int v, .int (S.O_Net.f_drain a), .int (S.O_Net.f_ticks a)])) = X ++ va_pl S.L (wPF cyI cyZ cyO40cd8 cyO802ef cyO6ad6e { S with O_Net := { S.O_Net with f_wait := va_up S.O_Net.f_wait a v } }) := by
  rw [va_pl_set hD hL hk]
  exact congrArg (fun l => X ++ l) (va_pl_congr (wSt_O_Net_f_wait cyI cyZ cyO40cd8 cyO802ef cyO6ad6e S h v))
theorem wSt_O_Net_f_drain (cyI : ClassId) (cyZ : ClassId) (cyO40cd8 : ClassId) (cyO802ef : ClassId) (cyO6ad6e : ClassId) (S : wPS) {a : Nat} (h : S.K a = 4) (v : Int32) (b : Nat) : va_up (wPF cyI cyZ cyO40cd8 cyO802ef cyO6ad6e S) a (.inr (4, [va_rf (S.O_Net.f_zero a), va_rf (S.O_Net.f_one a), .int (S.O_Net.f_links a), .int (S.O_Net.f_most a), .int (S.O_Net.f_wait a), .int v, .int (S.O_Net.f_ticks a)])) b = wPF cyI cyZ cyO40cd8 cyO802ef cyO6ad6e { S with O_Net := { S.O_Net with f_drain := va_up S.O_Net.f_drain a v } } b := by by_cases hb : b = a <;> first | (simp only [wPF, va_up_ne _ _ hb]; done) | (simp only [wPF, va_up, if_neg hb]; done) | simp [wPF, va_re, va_up, va_rf, hb, h]
theorem wPu_O_Net_f_drain (cyI : ClassId) (cyZ : ClassId) (cyO40cd8 : ClassId) (cyO802ef : ClassId) (cyO6ad6e : ClassId) (X : va_W) (S : wPS) {A : Nat → Prop} {a k : Nat} (hD : va_D A (X ++ va_pl S.L (wPF cyI cyZ cyO40cd8 cyO802ef cyO6ad6e S))) (hL : a ∈ S.L) (h : S.K a = 4) (hk : (X ++ va_pl S.L (wPF cyI cyZ cyO40cd8 cyO802ef cyO6ad6e S))[k]? = some (a, wPF cyI cyZ cyO40cd8 cyO802ef cyO6ad6e S a)) (v : Int32) : (X ++ va_pl S.L (wPF cyI cyZ cyO40cd8 cyO802ef cyO6ad6e S)).set k (a, .inr (4, [va_rf (S.O_Net.f_zero a), va_rf (S.O_Net.f_one a), .int (S.O_Net.f_links a), .int (S.O_Net.f_most a), .int (S.O_Net.f_wait a), .int v, .int (S.O_Net.f_ticks a)])) = X ++ va_pl S.L (wPF cyI cyZ cyO40cd8 cyO802ef cyO6ad6e { S with O_Net := { S.O_Net with f_drain := va_up S.O_Net.f_drain a v } }) := by
  rw [va_pl_set hD hL hk]
  exact congrArg (fun l => X ++ l) (va_pl_congr (wSt_O_Net_f_drain cyI cyZ cyO40cd8 cyO802ef cyO6ad6e S h v))
theorem wSt_O_Net_f_ticks (cyI : ClassId) (cyZ : ClassId) (cyO40cd8 : ClassId) (cyO802ef : ClassId) (cyO6ad6e : ClassId) (S : wPS) {a : Nat} (h : S.K a = 4) (v : Int32) (b : Nat) : va_up (wPF cyI cyZ cyO40cd8 cyO802ef cyO6ad6e S) a (.inr (4, [va_rf (S.O_Net.f_zero a), va_rf (S.O_Net.f_one a), .int (S.O_Net.f_links a), .int (S.O_Net.f_most a), .int (S.O_Net.f_wait a), .int (S.O_Net.f_drain a), .int v])) b = wPF cyI cyZ cyO40cd8 cyO802ef cyO6ad6e { S with O_Net := { S.O_Net with f_ticks := va_up S.O_Net.f_ticks a v } } b := by by_cases hb : b = a <;> first | (simp only [wPF, va_up_ne _ _ hb]; done) | (simp only [wPF, va_up, if_neg hb]; done) | simp [wPF, va_re, va_up, va_rf, hb, h]
theorem wPu_O_Net_f_ticks (cyI : ClassId) (cyZ : ClassId) (cyO40cd8 : ClassId) (cyO802ef : ClassId) (cyO6ad6e : ClassId) (X : va_W) (S : wPS) {A : Nat → Prop} {a k : Nat} (hD : va_D A (X ++ va_pl S.L (wPF cyI cyZ cyO40cd8 cyO802ef cyO6ad6e S))) (hL : a ∈ S.L) (h : S.K a = 4) (hk : (X ++ va_pl S.L (wPF cyI cyZ cyO40cd8 cyO802ef cyO6ad6e S))[k]? = some (a, wPF cyI cyZ cyO40cd8 cyO802ef cyO6ad6e S a)) (v : Int32) : (X ++ va_pl S.L (wPF cyI cyZ cyO40cd8 cyO802ef cyO6ad6e S)).set k (a, .inr (4, [va_rf (S.O_Net.f_zero a), va_rf (S.O_Net.f_one a), .int (S.O_Net.f_links a), .int (S.O_Net.f_most a), .int (S.O_Net.f_wait a), .int (S.O_Net.f_drain a), .int v])) = X ++ va_pl S.L (wPF cyI cyZ cyO40cd8 cyO802ef cyO6ad6e { S with O_Net := { S.O_Net with f_ticks := va_up S.O_Net.f_ticks a v } }) := by
  rw [va_pl_set hD hL hk]
  exact congrArg (fun l => X ++ l) (va_pl_congr (wSt_O_Net_f_ticks cyI cyZ cyO40cd8 cyO802ef cyO6ad6e S h v))
end
section
theorem wNw_O_Net (cyI : ClassId) (cyZ : ClassId) (cyO40cd8 : ClassId) (cyO802ef : ClassId) (cyO6ad6e : ClassId) (S : wPS) (a b : Nat) : va_up (wPF cyI cyZ cyO40cd8 cyO802ef cyO6ad6e S) a (.inr (4, [.null, .null, .int 0, .int 0, .int 0, .int 0, .int 0])) b = wPF cyI cyZ cyO40cd8 cyO802ef cyO6ad6e { S with L := S.L ++ [a], K := va_up S.K a 4, O_Net := { f_zero := va_up S.O_Net.f_zero a none, f_one := va_up S.O_Net.f_one a none, f_links := va_up S.O_Net.f_links a 0, f_most := va_up S.O_Net.f_most a 0, f_wait := va_up S.O_Net.f_wait a 0, f_drain := va_up S.O_Net.f_drain a 0, f_ticks := va_up S.O_Net.f_ticks a 0 } } b := by by_cases hb : b = a <;> first | (simp only [wPF, va_up_ne _ _ hb]; done) | (simp only [wPF, va_up, if_neg hb]; done) | simp [wPF, va_re, va_up, va_rf, hb]
theorem wPn_O_Net (cyI : ClassId) (cyZ : ClassId) (cyO40cd8 : ClassId) (cyO802ef : ClassId) (cyO6ad6e : ClassId) (X : va_W) (S : wPS) {a : Nat} (ha : a ∉ S.L) : (X ++ va_pl S.L (wPF cyI cyZ cyO40cd8 cyO802ef cyO6ad6e S)) ++ [(a, .inr (4, [.null, .null, .int 0, .int 0, .int 0, .int 0, .int 0]))] = X ++ va_pl (S.L ++ [a]) (wPF cyI cyZ cyO40cd8 cyO802ef cyO6ad6e { S with L := S.L ++ [a], K := va_up S.K a 4, O_Net := { f_zero := va_up S.O_Net.f_zero a none, f_one := va_up S.O_Net.f_one a none, f_links := va_up S.O_Net.f_links a 0, f_most := va_up S.O_Net.f_most a 0, f_wait := va_up S.O_Net.f_wait a 0, f_drain := va_up S.O_Net.f_drain a 0, f_ticks := va_up S.O_Net.f_ticks a 0 } }) := by
  rw [List.append_assoc, va_pl_push ha]
  exact congrArg (fun l => X ++ l) (va_pl_congr (wNw_O_Net cyI cyZ cyO40cd8 cyO802ef cyO6ad6e S a))
theorem wAt_O_Port (cyI : ClassId) (cyZ : ClassId) (cyO40cd8 : ClassId) (cyO802ef : ClassId) (cyO6ad6e : ClassId) (S : wPS) {a : Nat} (h : S.K a = 5) : wPF cyI cyZ cyO40cd8 cyO802ef cyO6ad6e S a = .inr (5, [.int (S.O_Port.f_up a), .int (S.O_Port.f_muted a), .int (S.O_Port.f_key a), .int (S.O_Port.f_priority a), va_rf (S.O_Port.f_heard a), va_rf (S.O_Port.f_said a), .int (S.O_Port.f_age a), .int (S.O_Port.f_how a), .int (S.O_Port.f_chosen a), .int (S.O_Port.f_chosenFor a), .int (S.O_Port.f_begun a)]) := by simp [wPF, h]
theorem wGt_O_Port (cyI : ClassId) (cyZ : ClassId) (cyO40cd8 : ClassId) (cyO802ef : ClassId) (cyO6ad6e : ClassId) (X : va_W) (S : wPS) {a : Nat} (hL : a ∈ S.L) (h : S.K a = 5) : ∃ k : Nat, (X ++ va_pl S.L (wPF cyI cyZ cyO40cd8 cyO802ef cyO6ad6e S))[k]? = some (a, wPF cyI cyZ cyO40cd8 cyO802ef cyO6ad6e S a) ∧ (X ++ va_pl S.L (wPF cyI cyZ cyO40cd8 cyO802ef cyO6ad6e S))[k]? = some (a, .inr (5, [.int (S.O_Port.f_up a), .int (S.O_Port.f_muted a), .int (S.O_Port.f_key a), .int (S.O_Port.f_priority a), va_rf (S.O_Port.f_heard a), va_rf (S.O_Port.f_said a), .int (S.O_Port.f_age a), .int (S.O_Port.f_how a), .int (S.O_Port.f_chosen a), .int (S.O_Port.f_chosenFor a), .int (S.O_Port.f_begun a)])) := by
  obtain ⟨k, hk⟩ := va_pl_get (X := X) (f := wPF cyI cyZ cyO40cd8 cyO802ef cyO6ad6e S) hL
  exact ⟨k, hk, hk.trans (congrArg (fun e => some (a, e)) (wAt_O_Port cyI cyZ cyO40cd8 cyO802ef cyO6ad6e S h))⟩
theorem wSt_O_Port_f_up (cyI : ClassId) (cyZ : ClassId) (cyO40cd8 : ClassId) (cyO802ef : ClassId) (cyO6ad6e : ClassId) (S : wPS) {a : Nat} (h : S.K a = 5) (v : Int32) (b : Nat) : va_up (wPF cyI cyZ cyO40cd8 cyO802ef cyO6ad6e S) a (.inr (5, [.int v, .int (S.O_Port.f_muted a), .int (S.O_Port.f_key a), .int (S.O_Port.f_priority a), va_rf (S.O_Port.f_heard a), va_rf (S.O_Port.f_said a), .int (S.O_Port.f_age a), .int (S.O_Port.f_how a), .int (S.O_Port.f_chosen a), .int (S.O_Port.f_chosenFor a), .int (S.O_Port.f_begun a)])) b = wPF cyI cyZ cyO40cd8 cyO802ef cyO6ad6e { S with O_Port := { S.O_Port with f_up := va_up S.O_Port.f_up a v } } b := by by_cases hb : b = a <;> first | (simp only [wPF, va_up_ne _ _ hb]; done) | (simp only [wPF, va_up, if_neg hb]; done) | simp [wPF, va_re, va_up, va_rf, hb, h]
theorem wPu_O_Port_f_up (cyI : ClassId) (cyZ : ClassId) (cyO40cd8 : ClassId) (cyO802ef : ClassId) (cyO6ad6e : ClassId) (X : va_W) (S : wPS) {A : Nat → Prop} {a k : Nat} (hD : va_D A (X ++ va_pl S.L (wPF cyI cyZ cyO40cd8 cyO802ef cyO6ad6e S))) (hL : a ∈ S.L) (h : S.K a = 5) (hk : (X ++ va_pl S.L (wPF cyI cyZ cyO40cd8 cyO802ef cyO6ad6e S))[k]? = some (a, wPF cyI cyZ cyO40cd8 cyO802ef cyO6ad6e S a)) (v : Int32) : (X ++ va_pl S.L (wPF cyI cyZ cyO40cd8 cyO802ef cyO6ad6e S)).set k (a, .inr (5, [.int v, .int (S.O_Port.f_muted a), .int (S.O_Port.f_key a), .int (S.O_Port.f_priority a), va_rf (S.O_Port.f_heard a), va_rf (S.O_Port.f_said a), .int (S.O_Port.f_age a), .int (S.O_Port.f_how a), .int (S.O_Port.f_chosen a), .int (S.O_Port.f_chosenFor a), .int (S.O_Port.f_begun a)])) = X ++ va_pl S.L (wPF cyI cyZ cyO40cd8 cyO802ef cyO6ad6e { S with O_Port := { S.O_Port with f_up := va_up S.O_Port.f_up a v } }) := by
  rw [va_pl_set hD hL hk]
  exact congrArg (fun l => X ++ l) (va_pl_congr (wSt_O_Port_f_up cyI cyZ cyO40cd8 cyO802ef cyO6ad6e S h v))
theorem wSt_O_Port_f_muted (cyI : ClassId) (cyZ : ClassId) (cyO40cd8 : ClassId) (cyO802ef : ClassId) (cyO6ad6e : ClassId) (S : wPS) {a : Nat} (h : S.K a = 5) (v : Int32) (b : Nat) : va_up (wPF cyI cyZ cyO40cd8 cyO802ef cyO6ad6e S) a (.inr (5, [.int (S.O_Port.f_up a), .int v, .int (S.O_Port.f_key a), .int (S.O_Port.f_priority a), va_rf (S.O_Port.f_heard a), va_rf (S.O_Port.f_said a), .int (S.O_Port.f_age a), .int (S.O_Port.f_how a), .int (S.O_Port.f_chosen a), .int (S.O_Port.f_chosenFor a), .int (S.O_Port.f_begun a)])) b = wPF cyI cyZ cyO40cd8 cyO802ef cyO6ad6e { S with O_Port := { S.O_Port with f_muted := va_up S.O_Port.f_muted a v } } b := by by_cases hb : b = a <;> first | (simp only [wPF, va_up_ne _ _ hb]; done) | (simp only [wPF, va_up, if_neg hb]; done) | simp [wPF, va_re, va_up, va_rf, hb, h]
theorem wPu_O_Port_f_muted (cyI : ClassId) (cyZ : ClassId) (cyO40cd8 : ClassId) (cyO802ef : ClassId) (cyO6ad6e : ClassId) (X : va_W) (S : wPS) {A : Nat → Prop} {a k : Nat} (hD : va_D A (X ++ va_pl S.L (wPF cyI cyZ cyO40cd8 cyO802ef cyO6ad6e S))) (hL : a ∈ S.L) (h : S.K a = 5) (hk : (X ++ va_pl S.L (wPF cyI cyZ cyO40cd8 cyO802ef cyO6ad6e S))[k]? = some (a, wPF cyI cyZ cyO40cd8 cyO802ef cyO6ad6e S a)) (v : Int32) : (X ++ va_pl S.L (wPF cyI cyZ cyO40cd8 cyO802ef cyO6ad6e S)).set k (a, .inr (5, [.int (S.O_Port.f_up a), .int v, .int (S.O_Port.f_key a), .int (S.O_Port.f_priority a), va_rf (S.O_Port.f_heard a), va_rf (S.O_Port.f_said a), .int (S.O_Port.f_age a), .int (S.O_Port.f_how a), .int (S.O_Port.f_chosen a), .int (S.O_Port.f_chosenFor a), .int (S.O_Port.f_begun a)])) = X ++ va_pl S.L (wPF cyI cyZ cyO40cd8 cyO802ef cyO6ad6e { S with O_Port := { S.O_Port with f_muted := va_up S.O_Port.f_muted a v } }) := by
  rw [va_pl_set hD hL hk]
  exact congrArg (fun l => X ++ l) (va_pl_congr (wSt_O_Port_f_muted cyI cyZ cyO40cd8 cyO802ef cyO6ad6e S h v))
theorem wSt_O_Port_f_key (cyI : ClassId) (cyZ : ClassId) (cyO40cd8 : ClassId) (cyO802ef : ClassId) (cyO6ad6e : ClassId) (S : wPS) {a : Nat} (h : S.K a = 5) (v : Int32) (b : Nat) : va_up (wPF cyI cyZ cyO40cd8 cyO802ef cyO6ad6e S) a (.inr (5, [.int (S.O_Port.f_up a), .int (S.O_Port.f_muted a), .int v, .int (S.O_Port.f_priority a), va_rf (S.O_Port.f_heard a), va_rf (S.O_Port.f_said a), .int (S.O_Port.f_age a), .int (S.O_Port.f_how a), .int (S.O_Port.f_chosen a), .int (S.O_Port.f_chosenFor a), .int (S.O_Port.f_begun a)])) b = wPF cyI cyZ cyO40cd8 cyO802ef cyO6ad6e { S with O_Port := { S.O_Port with f_key := va_up S.O_Port.f_key a v } } b := by by_cases hb : b = a <;> first | (simp only [wPF, va_up_ne _ _ hb]; done) | (simp only [wPF, va_up, if_neg hb]; done) | simp [wPF, va_re, va_up, va_rf, hb, h]
theorem wPu_O_Port_f_key (cyI : ClassId) (cyZ : ClassId) (cyO40cd8 : ClassId) (cyO802ef : ClassId) (cyO6ad6e : ClassId) (X : va_W) (S : wPS) {A : Nat → Prop} {a k : Nat} (hD : va_D A (X ++ va_pl S.L (wPF cyI cyZ cyO40cd8 cyO802ef cyO6ad6e S))) (hL : a ∈ S.L) (h : S.K a = 5) (hk : (X ++ va_pl S.L (wPF cyI cyZ cyO40cd8 cyO802ef cyO6ad6e S))[k]? = some (a, wPF cyI cyZ cyO40cd8 cyO802ef cyO6ad6e S a)) (v : Int32) : (X ++ va_pl S.L (wPF cyI cyZ cyO40cd8 cyO802ef cyO6ad6e S)).set k (a, .inr (5, [.int (S.O_Port.f_up a), .int (S.O_Port.f_muted a), .int v, .int (S.O_Port.f_priority a), va_rf (S.O_Port.f_heard a), va_rf (S.O_Port.f_said a), .int (S.O_Port.f_age a), .int (S.O_Port.f_how a), .int (S.O_Port.f_chosen a), .int (S.O_Port.f_chosenFor a), .int (S.O_Port.f_begun a)])) = X ++ va_pl S.L (wPF cyI cyZ cyO40cd8 cyO802ef cyO6ad6e { S with O_Port := { S.O_Port with f_key := va_up S.O_Port.f_key a v } }) := by
  rw [va_pl_set hD hL hk]
  exact congrArg (fun l => X ++ l) (va_pl_congr (wSt_O_Port_f_key cyI cyZ cyO40cd8 cyO802ef cyO6ad6e S h v))
theorem wSt_O_Port_f_priority (cyI : ClassId) (cyZ : ClassId) (cyO40cd8 : ClassId) (cyO802ef : ClassId) (cyO6ad6e : ClassId) (S : wPS) {a : Nat} (h : S.K a = 5) (v : Int32) (b : Nat) : va_up (wPF cyI cyZ cyO40cd8 cyO802ef cyO6ad6e S) a (.inr (5, [.int (S.O_Port.f_up a), .int (S.O_Port.f_muted a), .int (S.O_Port.f_key a), .int v, va_rf (S.O_Port.f_heard a), va_rf (S.O_Port.f_said a), .int (S.O_Port.f_age a), .int (S.O_Port.f_how a), .int (S.O_Port.f_chosen a), .int (S.O_Port.f_chosenFor a), .int (S.O_Port.f_begun a)])) b = wPF cyI cyZ cyO40cd8 cyO802ef cyO6ad6e { S with O_Port := { S.O_Port with f_priority := va_up S.O_Port.f_priority a v } } b := by by_cases hb : b = a <;> first | (simp only [wPF, va_up_ne _ _ hb]; done) | (simp only [wPF, va_up, if_neg hb]; done) | simp [wPF, va_re, va_up, va_rf, hb, h]
theorem wPu_O_Port_f_priority (cyI : ClassId) (cyZ : ClassId) (cyO40cd8 : ClassId) (cyO802ef : ClassId) (cyO6ad6e : ClassId) (X : va_W) (S : wPS) {A : Nat → Prop} {a k : Nat} (hD : va_D A (X ++ va_pl S.L (wPF cyI cyZ cyO40cd8 cyO802ef cyO6ad6e S))) (hL : a ∈ S.L) (h : S.K a = 5) (hk : (X ++ va_pl S.L (wPF cyI cyZ cyO40cd8 cyO802ef cyO6ad6e S))[k]? = some (a, wPF cyI cyZ cyO40cd8 cyO802ef cyO6ad6e S a)) (v : Int32) : (X ++ va_pl S.L (wPF cyI cyZ cyO40cd8 cyO802ef cyO6ad6e S)).set k (a, .inr (5, [.int (S.O_Port.f_up a), .int (S.O_Port.f_muted a), .int (S.O_Port.f_key a), .int v, va_rf (S.O_Port.f_heard a), va_rf (S.O_Port.f_said a), .int (S.O_Port.f_age a), .int (S.O_Port.f_how a), .int (S.O_Port.f_chosen a), .int (S.O_Port.f_chosenFor a), .int (S.O_Port.f_begun a)])) = X ++ va_pl S.L (wPF cyI cyZ cyO40cd8 cyO802ef cyO6ad6e { S with O_Port := { S.O_Port with f_priority := va_up S.O_Port.f_priority a v } }) := by
  rw [va_pl_set hD hL hk]
  exact congrArg (fun l => X ++ l) (va_pl_congr (wSt_O_Port_f_priority cyI cyZ cyO40cd8 cyO802ef cyO6ad6e S h v))
theorem wSt_O_Port_f_heard (cyI : ClassId) (cyZ : ClassId) (cyO40cd8 : ClassId) (cyO802ef : ClassId) (cyO6ad6e : ClassId) (S : wPS) {a : Nat} (h : S.K a = 5) (v : Option Nat) (b : Nat) : va_up (wPF cyI cyZ cyO40cd8 cyO802ef cyO6ad6e S) a (.inr (5, [.int (S.O_Port.f_up a), .int (S.O_Port.f_muted a), .int (S.O_Port.f_key a), .int (S.O_Port.f_priority a), va_rf v, va_rf (S.O_Port.f_said a), .int (S.O_Port.f_age a), .int (S.O_Port.f_how a), .int (S.O_Port.f_chosen a), .int (S.O_Port.f_chosenFor a), .int (S.O_Port.f_begun a)])) b = wPF cyI cyZ cyO40cd8 cyO802ef cyO6ad6e { S with O_Port := { S.O_Port with f_heard := va_up S.O_Port.f_heard a v } } b := by by_cases hb : b = a <;> first | (simp only [wPF, va_up_ne _ _ hb]; done) | (simp only [wPF, va_up, if_neg hb]; done) | simp [wPF, va_re, va_up, va_rf, hb, h]
theorem wPu_O_Port_f_heard (cyI : ClassId) (cyZ : ClassId) (cyO40cd8 : ClassId) (cyO802ef : ClassId) (cyO6ad6e : ClassId) (X : va_W) (S : wPS) {A : Nat → Prop} {a k : Nat} (hD : va_D A (X ++ va_pl S.L (wPF cyI cyZ cyO40cd8 cyO802ef cyO6ad6e S))) (hL : a ∈ S.L) (h : S.K a = 5) (hk : (X ++ va_pl S.L (wPF cyI cyZ cyO40cd8 cyO802ef cyO6ad6e S))[k]? = some (a, wPF cyI cyZ cyO40cd8 cyO802ef cyO6ad6e S a)) (v : Option Nat) : (X ++ va_pl S.L (wPF cyI cyZ cyO40cd8 cyO802ef cyO6ad6e S)).set k (a, .inr (5, [.int (S.O_Port.f_up a), .int (S.O_Port.f_muted a), .int (S.O_Port.f_key a), .int (S.O_Port.f_priority a), va_rf v, va_rf (S.O_Port.f_said a), .int (S.O_Port.f_age a), .int (S.O_Port.f_how a), .int (S.O_Port.f_chosen a), .int (S.O_Port.f_chosenFor a), .int (S.O_Port.f_begun a)])) = X ++ va_pl S.L (wPF cyI cyZ cyO40cd8 cyO802ef cyO6ad6e { S with O_Port := { S.O_Port with f_heard := va_up S.O_Port.f_heard a v } }) := by
  rw [va_pl_set hD hL hk]
  exact congrArg (fun l => X ++ l) (va_pl_congr (wSt_O_Port_f_heard cyI cyZ cyO40cd8 cyO802ef cyO6ad6e S h v))
theorem wSt_O_Port_f_said (cyI : ClassId) (cyZ : ClassId) (cyO40cd8 : ClassId) (cyO802ef : ClassId) (cyO6ad6e : ClassId) (S : wPS) {a : Nat} (h : S.K a = 5) (v : Option Nat) (b : Nat) : va_up (wPF cyI cyZ cyO40cd8 cyO802ef cyO6ad6e S) a (.inr (5, [.int (S.O_Port.f_up a), .int (S.O_Port.f_muted a), .int (S.O_Port.f_key a), .int (S.O_Port.f_priority a), va_rf (S.O_Port.f_heard a), va_rf v, .int (S.O_Port.f_age a), .int (S.O_Port.f_how a), .int (S.O_Port.f_chosen a), .int (S.O_Port.f_chosenFor a), .int (S.O_Port.f_begun a)])) b = wPF cyI cyZ cyO40cd8 cyO802ef cyO6ad6e { S with O_Port := { S.O_Port with f_said := va_up S.O_Port.f_said a v } } b := by by_cases hb : b = a <;> first | (simp only [wPF, va_up_ne _ _ hb]; done) | (simp only [wPF, va_up, if_neg hb]; done) | simp [wPF, va_re, va_up, va_rf, hb, h]
theorem wPu_O_Port_f_said (cyI : ClassId) (cyZ : ClassId) (cyO40cd8 : ClassId) (cyO802ef : ClassId) (cyO6ad6e : ClassId) (X : va_W) (S : wPS) {A : Nat → Prop} {a k : Nat} (hD : va_D A (X ++ va_pl S.L (wPF cyI cyZ cyO40cd8 cyO802ef cyO6ad6e S))) (hL : a ∈ S.L) (h : S.K a = 5) (hk : (X ++ va_pl S.L (wPF cyI cyZ cyO40cd8 cyO802ef cyO6ad6e S))[k]? = some (a, wPF cyI cyZ cyO40cd8 cyO802ef cyO6ad6e S a)) (v : Option Nat) : (X ++ va_pl S.L (wPF cyI cyZ cyO40cd8 cyO802ef cyO6ad6e S)).set k (a, .inr (5, [.int (S.O_Port.f_up a), .int (S.O_Port.f_muted a), .int (S.O_Port.f_key a), .int (S.O_Port.f_priority a), va_rf (S.O_Port.f_heard a), va_rf v, .int (S.O_Port.f_age a), .int (S.O_Port.f_how a), .int (S.O_Port.f_chosen a), .int (S.O_Port.f_chosenFor a), .int (S.O_Port.f_begun a)])) = X ++ va_pl S.L (wPF cyI cyZ cyO40cd8 cyO802ef cyO6ad6e { S with O_Port := { S.O_Port with f_said := va_up S.O_Port.f_said a v } }) := by
  rw [va_pl_set hD hL hk]
  exact congrArg (fun l => X ++ l) (va_pl_congr (wSt_O_Port_f_said cyI cyZ cyO40cd8 cyO802ef cyO6ad6e S h v))
theorem wSt_O_Port_f_age (cyI : ClassId) (cyZ : ClassId) (cyO40cd8 : ClassId) (cyO802ef : ClassId) (cyO6ad6e : ClassId) (S : wPS) {a : Nat} (h : S.K a = 5) (v : Int32) (b : Nat) : va_up (wPF cyI cyZ cyO40cd8 cyO802ef cyO6ad6e S) a (.inr (5, [.int (S.O_Port.f_up a), .int (S.O_Port.f_muted a), .int (S.O_Port.f_key a), .int (S.O_Port.f_priority a), va_rf (S.O_Port.f_heard a), va_rf (S.O_Port.f_said a), .int v, .int (S.O_Port.f_how a), .int (S.O_Port.f_chosen a), .int (S.O_Port.f_chosenFor a), .int (S.O_Port.f_begun a)])) b = wPF cyI cyZ cyO40cd8 cyO802ef cyO6ad6e { S with O_Port := { S.O_Port with f_age := va_up S.O_Port.f_age a v } } b := by by_cases hb : b = a <;> first | (simp only [wPF, va_up_ne _ _ hb]; done) | (simp only [wPF, va_up, if_neg hb]; done) | simp [wPF, va_re, va_up, va_rf, hb, h]
theorem wPu_O_Port_f_age (cyI : ClassId) (cyZ : ClassId) (cyO40cd8 : ClassId) (cyO802ef : ClassId) (cyO6ad6e : ClassId) (X : va_W) (S : wPS) {A : Nat → Prop} {a k : Nat} (hD : va_D A (X ++ va_pl S.L (wPF cyI cyZ cyO40cd8 cyO802ef cyO6ad6e S))) (hL : a ∈ S.L) (h : S.K a = 5) (hk : (X ++ va_pl S.L (wPF cyI cyZ cyO40cd8 cyO802ef cyO6ad6e S))[k]? = some (a, wPF cyI cyZ cyO40cd8 cyO802ef cyO6ad6e S a)) (v : Int32) : (X ++ va_pl S.L (wPF cyI cyZ cyO40cd8 cyO802ef cyO6ad6e S)).set k (a, .inr (5, [.int (S.O_Port.f_up a), .int (S.O_Port.f_muted a), .int (S.O_Port.f_key a), .int (S.O_Port.f_priority a), va_rf (S.O_Port.f_heard a), va_rf (S.O_Port.f_said a), .int v, .int (S.O_Port.f_how a), .int (S.O_Port.f_chosen a), .int (S.O_Port.f_chosenFor a), .int (S.O_Port.f_begun a)])) = X ++ va_pl S.L (wPF cyI cyZ cyO40cd8 cyO802ef cyO6ad6e { S with O_Port := { S.O_Port with f_age := va_up S.O_Port.f_age a v } }) := by
  rw [va_pl_set hD hL hk]
  exact congrArg (fun l => X ++ l) (va_pl_congr (wSt_O_Port_f_age cyI cyZ cyO40cd8 cyO802ef cyO6ad6e S h v))
theorem wSt_O_Port_f_how (cyI : ClassId) (cyZ : ClassId) (cyO40cd8 : ClassId) (cyO802ef : ClassId) (cyO6ad6e : ClassId) (S : wPS) {a : Nat} (h : S.K a = 5) (v : Int32) (b : Nat) : va_up (wPF cyI cyZ cyO40cd8 cyO802ef cyO6ad6e S) a (.inr (5, [.int (S.O_Port.f_up a), .int (S.O_Port.f_muted a), .int (S.O_Port.f_key a), .int (S.O_Port.f_priority a), va_rf (S.O_Port.f_heard a), va_rf (S.O_Port.f_said a), .int (S.O_Port.f_age a), .int v, .int (S.O_Port.f_chosen a), .int (S.O_Port.f_chosenFor a), .int (S.O_Port.f_begun a)])) b = wPF cyI cyZ cyO40cd8 cyO802ef cyO6ad6e { S with O_Port := { S.O_Port with f_how := va_up S.O_Port.f_how a v } } b := by by_cases hb : b = a <;> first | (simp only [wPF, va_up_ne _ _ hb]; done) | (simp only [wPF, va_up, if_neg hb]; done) | simp [wPF, va_re, va_up, va_rf, hb, h]
theorem wPu_O_Port_f_how (cyI : ClassId) (cyZ : ClassId) (cyO40cd8 : ClassId) (cyO802ef : ClassId) (cyO6ad6e : ClassId) (X : va_W) (S : wPS) {A : Nat → Prop} {a k : Nat} (hD : va_D A (X ++ va_pl S.L (wPF cyI cyZ cyO40cd8 cyO802ef cyO6ad6e S))) (hL : a ∈ S.L) (h : S.K a = 5) (hk : (X ++ va_pl S.L (wPF cyI cyZ cyO40cd8 cyO802ef cyO6ad6e S))[k]? = some (a, wPF cyI cyZ cyO40cd8 cyO802ef cyO6ad6e S a)) (v : Int32) : (X ++ va_pl S.L (wPF cyI cyZ cyO40cd8 cyO802ef cyO6ad6e S)).set k (a, .inr (5, [.int (S.O_Port.f_up a), .int (S.O_Port.f_muted a), .int (S.O_Port.f_key a), .int (S.O_Port.f_priority a), va_rf (S.O_Port.f_heard a), va_rf (S.O_Port.f_said a), .int (S.O_Port.f_age a), .int v, .int (S.O_Port.f_chosen a), .int (S.O_Port.f_chosenFor a), .int (S.O_Port.f_begun a)])) = X ++ va_pl S.L (wPF cyI cyZ cyO40cd8 cyO802ef cyO6ad6e { S with O_Port := { S.O_Port with f_how := va_up S.O_Port.f_how a v } }) := by
  rw [va_pl_set hD hL hk]
  exact congrArg (fun l => X ++ l) (va_pl_congr (wSt_O_Port_f_how cyI cyZ cyO40cd8 cyO802ef cyO6ad6e S h v))
theorem wSt_O_Port_f_chosen (cyI : ClassId) (cyZ : ClassId) (cyO40cd8 : ClassId) (cyO802ef : ClassId) (cyO6ad6e : ClassId) (S : wPS) {a : Nat} (h : S.K a = 5) (v : Int32) (b : Nat) : va_up (wPF cyI cyZ cyO40cd8 cyO802ef cyO6ad6e S) a (.inr (5, [.int (S.O_Port.f_up a), .int (S.O_Port.f_muted a), .int (S.O_Port.f_key a), .int (S.O_Port.f_priority a), va_rf (S.O_Port.f_heard a), va_rf (S.O_Port.f_said a), .int (S.O_Port.f_age a), .int (S.O_Port.f_how a), .int v, .int (S.O_Port.f_chosenFor a), .int (S.O_Port.f_begun a)])) b = wPF cyI cyZ cyO40cd8 cyO802ef cyO6ad6e { S with O_Port := { S.O_Port with f_chosen := va_up S.O_Port.f_chosen a v } } b := by by_cases hb : b = a <;> first | (simp only [wPF, va_up_ne _ _ hb]; done) | (simp only [wPF, va_up, if_neg hb]; done) | simp [wPF, va_re, va_up, va_rf, hb, h]
theorem wPu_O_Port_f_chosen (cyI : ClassId) (cyZ : ClassId) (cyO40cd8 : ClassId) (cyO802ef : ClassId) (cyO6ad6e : ClassId) (X : va_W) (S : wPS) {A : Nat → Prop} {a k : Nat} (hD : va_D A (X ++ va_pl S.L (wPF cyI cyZ cyO40cd8 cyO802ef cyO6ad6e S))) (hL : a ∈ S.L) (h : S.K a = 5) (hk : (X ++ va_pl S.L (wPF cyI cyZ cyO40cd8 cyO802ef cyO6ad6e S))[k]? = some (a, wPF cyI cyZ cyO40cd8 cyO802ef cyO6ad6e S a)) (v : Int32) : (X ++ va_pl S.L (wPF cyI cyZ cyO40cd8 cyO802ef cyO6ad6e S)).set k (a, .inr (5, [.int (S.O_Port.f_up a), .int (S.O_Port.f_muted a), .int (S.O_Port.f_key a), .int (S.O_Port.f_priority a), va_rf (S.O_Port.f_heard a), va_rf (S.O_Port.f_said a), .int (S.O_Port.f_age a), .int (S.O_Port.f_how a), .int v, .int (S.O_Port.f_chosenFor a), .int (S.O_Port.f_begun a)])) = X ++ va_pl S.L (wPF cyI cyZ cyO40cd8 cyO802ef cyO6ad6e { S with O_Port := { S.O_Port with f_chosen := va_up S.O_Port.f_chosen a v } }) := by
  rw [va_pl_set hD hL hk]
  exact congrArg (fun l => X ++ l) (va_pl_congr (wSt_O_Port_f_chosen cyI cyZ cyO40cd8 cyO802ef cyO6ad6e S h v))
theorem wSt_O_Port_f_chosenFor (cyI : ClassId) (cyZ : ClassId) (cyO40cd8 : ClassId) (cyO802ef : ClassId) (cyO6ad6e : ClassId) (S : wPS) {a : Nat} (h : S.K a = 5) (v : Int32) (b : Nat) : va_up (wPF cyI cyZ cyO40cd8 cyO802ef cyO6ad6e S) a (.inr (5, [.int (S.O_Port.f_up a), .int (S.O_Port.f_muted a), .int (S.O_Port.f_key a), .int (S.O_Port.f_priority a), va_rf (S.O_Port.f_heard a), va_rf (S.O_Port.f_said a), .int (S.O_Port.f_age a), .int (S.O_Port.f_how a), .int (S.O_Port.f_chosen a), .int v, .int (S.O_Port.f_begun a)])) b = wPF cyI cyZ cyO40cd8 cyO802ef cyO6ad6e { S with O_Port := { S.O_Port with f_chosenFor := va_up S.O_Port.f_chosenFor a v } } b := by by_cases hb : b = a <;> first | (simp only [wPF, va_up_ne _ _ hb]; done) | (simp only [wPF, va_up, if_neg hb]; done) | simp [wPF, va_re, va_up, va_rf, hb, h]
theorem wPu_O_Port_f_chosenFor (cyI : ClassId) (cyZ : ClassId) (cyO40cd8 : ClassId) (cyO802ef : ClassId) (cyO6ad6e : ClassId) (X : va_W) (S : wPS) {A : Nat → Prop} {a k : Nat} (hD : va_D A (X ++ va_pl S.L (wPF cyI cyZ cyO40cd8 cyO802ef cyO6ad6e S))) (hL : a ∈ S.L) (h : S.K a = 5) (hk : (X ++ va_pl S.L (wPF cyI cyZ cyO40cd8 cyO802ef cyO6ad6e S))[k]? = some (a, wPF cyI cyZ cyO40cd8 cyO802ef cyO6ad6e S a)) (v : Int32) : (X ++ va_pl S.L (wPF cyI cyZ cyO40cd8 cyO802ef cyO6ad6e S)).set k (a, .inr (5, [.int (S.O_Port.f_up a), .int (S.O_Port.f_muted a), .int (S.O_Port.f_key a), .int (S.O_Port.f_priority a), va_rf (S.O_Port.f_heard a), va_rf (S.O_Port.f_said a), .int (S.O_Port.f_age a), .int (S.O_Port.f_how a), .int (S.O_Port.f_chosen a), .int v, .int (S.O_Port.f_begun a)])) = X ++ va_pl S.L (wPF cyI cyZ cyO40cd8 cyO802ef cyO6ad6e { S with O_Port := { S.O_Port with f_chosenFor := va_up S.O_Port.f_chosenFor a v } }) := by
  rw [va_pl_set hD hL hk]
  exact congrArg (fun l => X ++ l) (va_pl_congr (wSt_O_Port_f_chosenFor cyI cyZ cyO40cd8 cyO802ef cyO6ad6e S h v))
theorem wSt_O_Port_f_begun (cyI : ClassId) (cyZ : ClassId) (cyO40cd8 : ClassId) (cyO802ef : ClassId) (cyO6ad6e : ClassId) (S : wPS) {a : Nat} (h : S.K a = 5) (v : Int32) (b : Nat) : va_up (wPF cyI cyZ cyO40cd8 cyO802ef cyO6ad6e S) a (.inr (5, [.int (S.O_Port.f_up a), .int (S.O_Port.f_muted a), .int (S.O_Port.f_key a), .int (S.O_Port.f_priority a), va_rf (S.O_Port.f_heard a), va_rf (S.O_Port.f_said a), .int (S.O_Port.f_age a), .int (S.O_Port.f_how a), .int (S.O_Port.f_chosen a), .int (S.O_Port.f_chosenFor a), .int v])) b = wPF cyI cyZ cyO40cd8 cyO802ef cyO6ad6e { S with O_Port := { S.O_Port with f_begun := va_up S.O_Port.f_begun a v } } b := by by_cases hb : b = a <;> first | (simp only [wPF, va_up_ne _ _ hb]; done) | (simp only [wPF, va_up, if_neg hb]; done) | simp [wPF, va_re, va_up, va_rf, hb, h]
theorem wPu_O_Port_f_begun (cyI : ClassId) (cyZ : ClassId) (cyO40cd8 : ClassId) (cyO802ef : ClassId) (cyO6ad6e : ClassId) (X : va_W) (S : wPS) {A : Nat → Prop} {a k : Nat} (hD : va_D A (X ++ va_pl S.L (wPF cyI cyZ cyO40cd8 cyO802ef cyO6ad6e S))) (hL : a ∈ S.L) (h : S.K a = 5) (hk : (X ++ va_pl S.L (wPF cyI cyZ cyO40cd8 cyO802ef cyO6ad6e S))[k]? = some (a, wPF cyI cyZ cyO40cd8 cyO802ef cyO6ad6e S a)) (v : Int32) : (X ++ va_pl S.L (wPF cyI cyZ cyO40cd8 cyO802ef cyO6ad6e S)).set k (a, .inr (5, [.int (S.O_Port.f_up a), .int (S.O_Port.f_muted a), .int (S.O_Port.f_key a), .int (S.O_Port.f_priority a), va_rf (S.O_Port.f_heard a), va_rf (S.O_Port.f_said a), .int (S.O_Port.f_age a), .int (S.O_Port.f_how a), .int (S.O_Port.f_chosen a), .int (S.O_Port.f_chosenFor a), .int v])) = X ++ va_pl S.L (wPF cyI cyZ cyO40cd8 cyO802ef cyO6ad6e { S with O_Port := { S.O_Port with f_begun := va_up S.O_Port.f_begun a v } }) := by
  rw [va_pl_set hD hL hk]
  exact congrArg (fun l => X ++ l) (va_pl_congr (wSt_O_Port_f_begun cyI cyZ cyO40cd8 cyO802ef cyO6ad6e S h v))
theorem wNw_O_Port (cyI : ClassId) (cyZ : ClassId) (cyO40cd8 : ClassId) (cyO802ef : ClassId) (cyO6ad6e : ClassId) (S : wPS) (a b : Nat) : va_up (wPF cyI cyZ cyO40cd8 cyO802ef cyO6ad6e S) a (.inr (5, [.int 0, .int 0, .int 0, .int 0, .null, .null, .int 0, .int 0, .int 0, .int 0, .int 0])) b = wPF cyI cyZ cyO40cd8 cyO802ef cyO6ad6e { S with L := S.L ++ [a], K := va_up S.K a 5, O_Port := { f_up := va_up S.O_Port.f_up a 0, f_muted := va_up S.O_Port.f_muted a 0, f_key := va_up S.O_Port.f_key a 0, f_priority := va_up S.O_Port.f_priority a 0, f_heard := va_up S.O_Port.f_heard a none, f_said := va_up S.O_Port.f_said a none, f_age := va_up S.O_Port.f_age a 0, f_how := va_up S.O_Port.f_how a 0, f_chosen := va_up S.O_Port.f_chosen a 0, f_chosenFor := va_up S.O_Port.f_chosenFor a 0, f_begun := va_up S.O_Port.f_begun a 0 } } b := by by_cases hb : b = a <;> first | (simp only [wPF, va_up_ne _ _ hb]; done) | (simp only [wPF, va_up, if_neg hb]; done) | simp [wPF, va_re, va_up, va_rf, hb]
theorem wPn_O_Port (cyI : ClassId) (cyZ : ClassId) (cyO40cd8 : ClassId) (cyO802ef : ClassId) (cyO6ad6e : ClassId) (X : va_W) (S : wPS) {a : Nat} (ha : a ∉ S.L) : (X ++ va_pl S.L (wPF cyI cyZ cyO40cd8 cyO802ef cyO6ad6e S)) ++ [(a, .inr (5, [.int 0, .int 0, .int 0, .int 0, .null, .null, .int 0, .int 0, .int 0, .int 0, .int 0]))] = X ++ va_pl (S.L ++ [a]) (wPF cyI cyZ cyO40cd8 cyO802ef cyO6ad6e { S with L := S.L ++ [a], K := va_up S.K a 5, O_Port := { f_up := va_up S.O_Port.f_up a 0, f_muted := va_up S.O_Port.f_muted a 0, f_key := va_up S.O_Port.f_key a 0, f_priority := va_up S.O_Port.f_priority a 0, f_heard := va_up S.O_Port.f_heard a none, f_said := va_up S.O_Port.f_said a none, f_age := va_up S.O_Port.f_age a 0, f_how := va_up S.O_Port.f_how a 0, f_chosen := va_up S.O_Port.f_chosen a 0, f_chosenFor := va_up S.O_Port.f_chosenFor a 0, f_begun := va_up S.O_Port.f_begun a 0 } }) := by
  rw [List.append_assoc, va_pl_push ha]
  exact congrArg (fun l => X ++ l) (va_pl_congr (wNw_O_Port cyI cyZ cyO40cd8 cyO802ef cyO6ad6e S a))
theorem wAt_O_Text (cyI : ClassId) (cyZ : ClassId) (cyO40cd8 : ClassId) (cyO802ef : ClassId) (cyO6ad6e : ClassId) (S : wPS) {a : Nat} (h : S.K a = 6) : wPF cyI cyZ cyO40cd8 cyO802ef cyO6ad6e S a = .inr (6, [va_rf (S.O_Text.f_letters a), .int (S.O_Text.f_size a)]) := by simp [wPF, h]
theorem wGt_O_Text (cyI : ClassId) (cyZ : ClassId) (cyO40cd8 : ClassId) (cyO802ef : ClassId) (cyO6ad6e : ClassId) (X : va_W) (S : wPS) {a : Nat} (hL : a ∈ S.L) (h : S.K a = 6) : ∃ k : Nat, (X ++ va_pl S.L (wPF cyI cyZ cyO40cd8 cyO802ef cyO6ad6e S))[k]? = some (a, wPF cyI cyZ cyO40cd8 cyO802ef cyO6ad6e S a) ∧ (X ++ va_pl S.L (wPF cyI cyZ cyO40cd8 cyO802ef cyO6ad6e S))[k]? = some (a, .inr (6, [va_rf (S.O_Text.f_letters a), .int (S.O_Text.f_size a)])) := by
  obtain ⟨k, hk⟩ := va_pl_get (X := X) (f := wPF cyI cyZ cyO40cd8 cyO802ef cyO6ad6e S) hL
  exact ⟨k, hk, hk.trans (congrArg (fun e => some (a, e)) (wAt_O_Text cyI cyZ cyO40cd8 cyO802ef cyO6ad6e S h))⟩
theorem wSt_O_Text_f_letters (cyI : ClassId) (cyZ : ClassId) (cyO40cd8 : ClassId) (cyO802ef : ClassId) (cyO6ad6e : ClassId) (S : wPS) {a : Nat} (h : S.K a = 6) (v : Option Nat) (b : Nat) : va_up (wPF cyI cyZ cyO40cd8 cyO802ef cyO6ad6e S) a (.inr (6, [va_rf v, .int (S.O_Text.f_size a)])) b = wPF cyI cyZ cyO40cd8 cyO802ef cyO6ad6e { S with O_Text := { S.O_Text with f_letters := va_up S.O_Text.f_letters a v } } b := by by_cases hb : b = a <;> first | (simp only [wPF, va_up_ne _ _ hb]; done) | (simp only [wPF, va_up, if_neg hb]; done) | simp [wPF, va_re, va_up, va_rf, hb, h]
theorem wPu_O_Text_f_letters (cyI : ClassId) (cyZ : ClassId) (cyO40cd8 : ClassId) (cyO802ef : ClassId) (cyO6ad6e : ClassId) (X : va_W) (S : wPS) {A : Nat → Prop} {a k : Nat} (hD : va_D A (X ++ va_pl S.L (wPF cyI cyZ cyO40cd8 cyO802ef cyO6ad6e S))) (hL : a ∈ S.L) (h : S.K a = 6) (hk : (X ++ va_pl S.L (wPF cyI cyZ cyO40cd8 cyO802ef cyO6ad6e S))[k]? = some (a, wPF cyI cyZ cyO40cd8 cyO802ef cyO6ad6e S a)) (v : Option Nat) : (X ++ va_pl S.L (wPF cyI cyZ cyO40cd8 cyO802ef cyO6ad6e S)).set k (a, .inr (6, [va_rf v, .int (S.O_Text.f_size a)])) = X ++ va_pl S.L (wPF cyI cyZ cyO40cd8 cyO802ef cyO6ad6e { S with O_Text := { S.O_Text with f_letters := va_up S.O_Text.f_letters a v } }) := by
  rw [va_pl_set hD hL hk]
  exact congrArg (fun l => X ++ l) (va_pl_congr (wSt_O_Text_f_letters cyI cyZ cyO40cd8 cyO802ef cyO6ad6e S h v))
theorem wSt_O_Text_f_size (cyI : ClassId) (cyZ : ClassId) (cyO40cd8 : ClassId) (cyO802ef : ClassId) (cyO6ad6e : ClassId) (S : wPS) {a : Nat} (h : S.K a = 6) (v : Int32) (b : Nat) : va_up (wPF cyI cyZ cyO40cd8 cyO802ef cyO6ad6e S) a (.inr (6, [va_rf (S.O_Text.f_letters a), .int v])) b = wPF cyI cyZ cyO40cd8 cyO802ef cyO6ad6e { S with O_Text := { S.O_Text with f_size := va_up S.O_Text.f_size a v } } b := by by_cases hb : b = a <;> first | (simp only [wPF, va_up_ne _ _ hb]; done) | (simp only [wPF, va_up, if_neg hb]; done) | simp [wPF, va_re, va_up, va_rf, hb, h]
theorem wPu_O_Text_f_size (cyI : ClassId) (cyZ : ClassId) (cyO40cd8 : ClassId) (cyO802ef : ClassId) (cyO6ad6e : ClassId) (X : va_W) (S : wPS) {A : Nat → Prop} {a k : Nat} (hD : va_D A (X ++ va_pl S.L (wPF cyI cyZ cyO40cd8 cyO802ef cyO6ad6e S))) (hL : a ∈ S.L) (h : S.K a = 6) (hk : (X ++ va_pl S.L (wPF cyI cyZ cyO40cd8 cyO802ef cyO6ad6e S))[k]? = some (a, wPF cyI cyZ cyO40cd8 cyO802ef cyO6ad6e S a)) (v : Int32) : (X ++ va_pl S.L (wPF cyI cyZ cyO40cd8 cyO802ef cyO6ad6e S)).set k (a, .inr (6, [va_rf (S.O_Text.f_letters a), .int v])) = X ++ va_pl S.L (wPF cyI cyZ cyO40cd8 cyO802ef cyO6ad6e { S with O_Text := { S.O_Text with f_size := va_up S.O_Text.f_size a v } }) := by
  rw [va_pl_set hD hL hk]
  exact congrArg (fun l => X ++ l) (va_pl_congr (wSt_O_Text_f_size cyI cyZ cyO40cd8 cyO802ef cyO6ad6e S h v))
theorem wNw_O_Text (cyI : ClassId) (cyZ : ClassId) (cyO40cd8 : ClassId) (cyO802ef : ClassId) (cyO6ad6e : ClassId) (S : wPS) (a b : Nat) : va_up (wPF cyI cyZ cyO40cd8 cyO802ef cyO6ad6e S) a (.inr (6, [.null, .int 0])) b = wPF cyI cyZ cyO40cd8 cyO802ef cyO6ad6e { S with L := S.L ++ [a], K := va_up S.K a 6, O_Text := { f_letters := va_up S.O_Text.f_letters a none, f_size := va_up S.O_Text.f_size a 0 } } b := by by_cases hb : b = a <;> first | (simp only [wPF, va_up_ne _ _ hb]; done) | (simp only [wPF, va_up, if_neg hb]; done) | simp [wPF, va_re, va_up, va_rf, hb]
theorem wPn_O_Text (cyI : ClassId) (cyZ : ClassId) (cyO40cd8 : ClassId) (cyO802ef : ClassId) (cyO6ad6e : ClassId) (X : va_W) (S : wPS) {a : Nat} (ha : a ∉ S.L) : (X ++ va_pl S.L (wPF cyI cyZ cyO40cd8 cyO802ef cyO6ad6e S)) ++ [(a, .inr (6, [.null, .int 0]))] = X ++ va_pl (S.L ++ [a]) (wPF cyI cyZ cyO40cd8 cyO802ef cyO6ad6e { S with L := S.L ++ [a], K := va_up S.K a 6, O_Text := { f_letters := va_up S.O_Text.f_letters a none, f_size := va_up S.O_Text.f_size a 0 } }) := by
  rw [List.append_assoc, va_pl_push ha]
  exact congrArg (fun l => X ++ l) (va_pl_congr (wNw_O_Text cyI cyZ cyO40cd8 cyO802ef cyO6ad6e S a))
theorem wAt_O_BundledLinks (cyI : ClassId) (cyZ : ClassId) (cyO40cd8 : ClassId) (cyO802ef : ClassId) (cyO6ad6e : ClassId) (S : wPS) {a : Nat} (h : S.K a = 7) : wPF cyI cyZ cyO40cd8 cyO802ef cyO6ad6e S a = .inr (7, [va_rf (S.O_BundledLinks.f_text a), va_rf (S.O_BundledLinks.f_net a), va_rf (S.O_BundledLinks.f_history a), va_rf (S.O_BundledLinks.f_went a), va_rf (S.O_BundledLinks.f_trial a), va_rf (S.O_BundledLinks.f_mark a)]) := by simp [wPF, h]
theorem wGt_O_BundledLinks (cyI : ClassId) (cyZ : ClassId) (cyO40cd8 : ClassId) (cyO802ef : ClassId) (cyO6ad6e : ClassId) (X : va_W) (S : wPS) {a : Nat} (hL : a ∈ S.L) (h : S.K a = 7) : ∃ k : Nat, (X ++ va_pl S.L (wPF cyI cyZ cyO40cd8 cyO802ef cyO6ad6e S))[k]? = some (a, wPF cyI cyZ cyO40cd8 cyO802ef cyO6ad6e S a) ∧ (X ++ va_pl S.L (wPF cyI cyZ cyO40cd8 cyO802ef cyO6ad6e S))[k]? = some (a, .inr (7, [va_rf (S.O_BundledLinks.f_text a), va_rf (S.O_BundledLinks.f_net a), va_rf (S.O_BundledLinks.f_history a), va_rf (S.O_BundledLinks.f_went a), va_rf (S.O_BundledLinks.f_trial a), va_rf (S.O_BundledLinks.f_mark a)])) := by
  obtain ⟨k, hk⟩ := va_pl_get (X := X) (f := wPF cyI cyZ cyO40cd8 cyO802ef cyO6ad6e S) hL
  exact ⟨k, hk, hk.trans (congrArg (fun e => some (a, e)) (wAt_O_BundledLinks cyI cyZ cyO40cd8 cyO802ef cyO6ad6e S h))⟩
theorem wSt_O_BundledLinks_f_text (cyI : ClassId) (cyZ : ClassId) (cyO40cd8 : ClassId) (cyO802ef : ClassId) (cyO6ad6e : ClassId) (S : wPS) {a : Nat} (h : S.K a = 7) (v : Option Nat) (b : Nat) : va_up (wPF cyI cyZ cyO40cd8 cyO802ef cyO6ad6e S) a (.inr (7, [va_rf v, va_rf (S.O_BundledLinks.f_net a), va_rf (S.O_BundledLinks.f_history a), va_rf (S.O_BundledLinks.f_went a), va_rf (S.O_BundledLinks.f_trial a), va_rf (S.O_BundledLinks.f_mark a)])) b = wPF cyI cyZ cyO40cd8 cyO802ef cyO6ad6e { S with O_BundledLinks := { S.O_BundledLinks with f_text := va_up S.O_BundledLinks.f_text a v } } b := by by_cases hb : b = a <;> first | (simp only [wPF, va_up_ne _ _ hb]; done) | (simp only [wPF, va_up, if_neg hb]; done) | simp [wPF, va_re, va_up, va_rf, hb, h]
theorem wPu_O_BundledLinks_f_text (cyI : ClassId) (cyZ : ClassId) (cyO40cd8 : ClassId) (cyO802ef : ClassId) (cyO6ad6e : ClassId) (X : va_W) (S : wPS) {A : Nat → Prop} {a k : Nat} (hD : va_D A (X ++ va_pl S.L (wPF cyI cyZ cyO40cd8 cyO802ef cyO6ad6e S))) (hL : a ∈ S.L) (h : S.K a = 7) (hk : (X ++ va_pl S.L (wPF cyI cyZ cyO40cd8 cyO802ef cyO6ad6e S))[k]? = some (a, wPF cyI cyZ cyO40cd8 cyO802ef cyO6ad6e S a)) (v : Option Nat) : (X ++ va_pl S.L (wPF cyI cyZ cyO40cd8 cyO802ef cyO6ad6e S)).set k (a, .inr (7, [va_rf v, va_rf (S.O_BundledLinks.f_net a), va_rf (S.O_BundledLinks.f_history a), va_rf (S.O_BundledLinks.f_went a), va_rf (S.O_BundledLinks.f_trial a), va_rf (S.O_BundledLinks.f_mark a)])) = X ++ va_pl S.L (wPF cyI cyZ cyO40cd8 cyO802ef cyO6ad6e { S with O_BundledLinks := { S.O_BundledLinks with f_text := va_up S.O_BundledLinks.f_text a v } }) := by
  rw [va_pl_set hD hL hk]
  exact congrArg (fun l => X ++ l) (va_pl_congr (wSt_O_BundledLinks_f_text cyI cyZ cyO40cd8 cyO802ef cyO6ad6e S h v))
theorem wSt_O_BundledLinks_f_net (cyI : ClassId) (cyZ : ClassId) (cyO40cd8 : ClassId) (cyO802ef : ClassId) (cyO6ad6e : ClassId) (S : wPS) {a : Nat} (h : S.K a = 7) (v : Option Nat) (b : Nat) : va_up (wPF cyI cyZ cyO40cd8 cyO802ef cyO6ad6e S) a (.inr (7, [va_rf (S.O_BundledLinks.f_text a), va_rf v, va_rf (S.O_BundledLinks.f_history a), va_rf (S.O_BundledLinks.f_went a), va_rf (S.O_BundledLinks.f_trial a), va_rf (S.O_BundledLinks.f_mark a)])) b = wPF cyI cyZ cyO40cd8 cyO802ef cyO6ad6e { S with O_BundledLinks := { S.O_BundledLinks with f_net := va_up S.O_BundledLinks.f_net a v } } b := by by_cases hb : b = a <;> first | (simp only [wPF, va_up_ne _ _ hb]; done) | (simp only [wPF, va_up, if_neg hb]; done) | simp [wPF, va_re, va_up, va_rf, hb, h]
theorem wPu_O_BundledLinks_f_net (cyI : ClassId) (cyZ : ClassId) (cyO40cd8 : ClassId) (cyO802ef : ClassId) (cyO6ad6e : ClassId) (X : va_W) (S : wPS) {A : Nat → Prop} {a k : Nat} (hD : va_D A (X ++ va_pl S.L (wPF cyI cyZ cyO40cd8 cyO802ef cyO6ad6e S))) (hL : a ∈ S.L) (h : S.K a = 7) (hk : (X ++ va_pl S.L (wPF cyI cyZ cyO40cd8 cyO802ef cyO6ad6e S))[k]? = some (a, wPF cyI cyZ cyO40cd8 cyO802ef cyO6ad6e S a)) (v : Option Nat) : (X ++ va_pl S.L (wPF cyI cyZ cyO40cd8 cyO802ef cyO6ad6e S)).set k (a, .inr (7, [va_rf (S.O_BundledLinks.f_text a), va_rf v, va_rf (S.O_BundledLinks.f_history a), va_rf (S.O_BundledLinks.f_went a), va_rf (S.O_BundledLinks.f_trial a), va_rf (S.O_BundledLinks.f_mark a)])) = X ++ va_pl S.L (wPF cyI cyZ cyO40cd8 cyO802ef cyO6ad6e { S with O_BundledLinks := { S.O_BundledLinks with f_net := va_up S.O_BundledLinks.f_net a v } }) := by
  rw [va_pl_set hD hL hk]
  exact congrArg (fun l => X ++ l) (va_pl_congr (wSt_O_BundledLinks_f_net cyI cyZ cyO40cd8 cyO802ef cyO6ad6e S h v))
theorem wSt_O_BundledLinks_f_history (cyI : ClassId) (cyZ : ClassId) (cyO40cd8 : ClassId) (cyO802ef : ClassId) (cyO6ad6e : ClassId) (S : wPS) {a : Nat} (h : S.K a = 7) (v : Option Nat) (b : Nat) : va_up (wPF cyI cyZ cyO40cd8 cyO802ef cyO6ad6e S) a (.inr (7, [va_rf (S.O_BundledLinks.f_text a), va_rf (S.O_BundledLinks.f_net a), va_rf v, va_rf (S.O_BundledLinks.f_went a), va_rf (S.O_BundledLinks.f_trial a), va_rf (S.O_BundledLinks.f_mark a)])) b = wPF cyI cyZ cyO40cd8 cyO802ef cyO6ad6e { S with O_BundledLinks := { S.O_BundledLinks with f_history := va_up S.O_BundledLinks.f_history a v } } b := by by_cases hb : b = a <;> first | (simp only [wPF, va_up_ne _ _ hb]; done) | (simp only [wPF, va_up, if_neg hb]; done) | simp [wPF, va_re, va_up, va_rf, hb, h]
theorem wPu_O_BundledLinks_f_history (cyI : ClassId) (cyZ : ClassId) (cyO40cd8 : ClassId) (cyO802ef : ClassId) (cyO6ad6e : ClassId) (X : va_W) (S : wPS) {A : Nat → Prop} {a k : Nat} (hD : va_D A (X ++ va_pl S.L (wPF cyI cyZ cyO40cd8 cyO802ef cyO6ad6e S))) (hL : a ∈ S.L) (h : S.K a = 7) (hk : (X ++ va_pl S.L (wPF cyI cyZ cyO40cd8 cyO802ef cyO6ad6e S))[k]? = some (a, wPF cyI cyZ cyO40cd8 cyO802ef cyO6ad6e S a)) (v : Option Nat) : (X ++ va_pl S.L (wPF cyI cyZ cyO40cd8 cyO802ef cyO6ad6e S)).set k (a, .inr (7, [va_rf (S.O_BundledLinks.f_text a), va_rf (S.O_BundledLinks.f_net a), va_rf v, va_rf (S.O_BundledLinks.f_went a), va_rf (S.O_BundledLinks.f_trial a), va_rf (S.O_BundledLinks.f_mark a)])) = X ++ va_pl S.L (wPF cyI cyZ cyO40cd8 cyO802ef cyO6ad6e { S with O_BundledLinks := { S.O_BundledLinks with f_history := va_up S.O_BundledLinks.f_history a v } }) := by
  rw [va_pl_set hD hL hk]
  exact congrArg (fun l => X ++ l) (va_pl_congr (wSt_O_BundledLinks_f_history cyI cyZ cyO40cd8 cyO802ef cyO6ad6e S h v))
theorem wSt_O_BundledLinks_f_went (cyI : ClassId) (cyZ : ClassId) (cyO40cd8 : ClassId) (cyO802ef : ClassId) (cyO6ad6e : ClassId) (S : wPS) {a : Nat} (h : S.K a = 7) (v : Option Nat) (b : Nat) : va_up (wPF cyI cyZ cyO40cd8 cyO802ef cyO6ad6e S) a (.inr (7, [va_rf (S.O_BundledLinks.f_text a), va_rf (S.O_BundledLinks.f_net a), va_rf (S.O_BundledLinks.f_history a), va_rf v, va_rf (S.O_BundledLinks.f_trial a), va_rf (S.O_BundledLinks.f_mark a)])) b = wPF cyI cyZ cyO40cd8 cyO802ef cyO6ad6e { S with O_BundledLinks := { S.O_BundledLinks with f_went := va_up S.O_BundledLinks.f_went a v } } b := by by_cases hb : b = a <;> first | (simp only [wPF, va_up_ne _ _ hb]; done) | (simp only [wPF, va_up, if_neg hb]; done) | simp [wPF, va_re, va_up, va_rf, hb, h]
theorem wPu_O_BundledLinks_f_went (cyI : ClassId) (cyZ : ClassId) (cyO40cd8 : ClassId) (cyO802ef : ClassId) (cyO6ad6e : ClassId) (X : va_W) (S : wPS) {A : Nat → Prop} {a k : Nat} (hD : va_D A (X ++ va_pl S.L (wPF cyI cyZ cyO40cd8 cyO802ef cyO6ad6e S))) (hL : a ∈ S.L) (h : S.K a = 7) (hk : (X ++ va_pl S.L (wPF cyI cyZ cyO40cd8 cyO802ef cyO6ad6e S))[k]? = some (a, wPF cyI cyZ cyO40cd8 cyO802ef cyO6ad6e S a)) (v : Option Nat) : (X ++ va_pl S.L (wPF cyI cyZ cyO40cd8 cyO802ef cyO6ad6e S)).set k (a, .inr (7, [va_rf (S.O_BundledLinks.f_text a), va_rf (S.O_BundledLinks.f_net a), va_rf (S.O_BundledLinks.f_history a), va_rf v, va_rf (S.O_BundledLinks.f_trial a), va_rf (S.O_BundledLinks.f_mark a)])) = X ++ va_pl S.L (wPF cyI cyZ cyO40cd8 cyO802ef cyO6ad6e { S with O_BundledLinks := { S.O_BundledLinks with f_went := va_up S.O_BundledLinks.f_went a v } }) := by
  rw [va_pl_set hD hL hk]
  exact congrArg (fun l => X ++ l) (va_pl_congr (wSt_O_BundledLinks_f_went cyI cyZ cyO40cd8 cyO802ef cyO6ad6e S h v))
theorem wSt_O_BundledLinks_f_trial (cyI : ClassId) (cyZ : ClassId) (cyO40cd8 : ClassId) (cyO802ef : ClassId) (cyO6ad6e : ClassId) (S : wPS) {a : Nat} (h : S.K a = 7) (v : Option Nat) (b : Nat) : va_up (wPF cyI cyZ cyO40cd8 cyO802ef cyO6ad6e S) a (.inr (7, [va_rf (S.O_BundledLinks.f_text a), va_rf (S.O_BundledLinks.f_net a), va_rf (S.O_BundledLinks.f_history a), va_rf (S.O_BundledLinks.f_went a), va_rf v, va_rf (S.O_BundledLinks.f_mark a)])) b = wPF cyI cyZ cyO40cd8 cyO802ef cyO6ad6e { S with O_BundledLinks := { S.O_BundledLinks with f_trial := va_up S.O_BundledLinks.f_trial a v } } b := by by_cases hb : b = a <;> first | (simp only [wPF, va_up_ne _ _ hb]; done) | (simp only [wPF, va_up, if_neg hb]; done) | simp [wPF, va_re, va_up, va_rf, hb, h]
theorem wPu_O_BundledLinks_f_trial (cyI : ClassId) (cyZ : ClassId) (cyO40cd8 : ClassId) (cyO802ef : ClassId) (cyO6ad6e : ClassId) (X : va_W) (S : wPS) {A : Nat → Prop} {a k : Nat} (hD : va_D A (X ++ va_pl S.L (wPF cyI cyZ cyO40cd8 cyO802ef cyO6ad6e S))) (hL : a ∈ S.L) (h : S.K a = 7) (hk : (X ++ va_pl S.L (wPF cyI cyZ cyO40cd8 cyO802ef cyO6ad6e S))[k]? = some (a, wPF cyI cyZ cyO40cd8 cyO802ef cyO6ad6e S a)) (v : Option Nat) : (X ++ va_pl S.L (wPF cyI cyZ cyO40cd8 cyO802ef cyO6ad6e S)).set k (a, .inr (7, [va_rf (S.O_BundledLinks.f_text a), va_rf (S.O_BundledLinks.f_net a), va_rf (S.O_BundledLinks.f_history a), va_rf (S.O_BundledLinks.f_went a), va_rf v, va_rf (S.O_BundledLinks.f_mark a)])) = X ++ va_pl S.L (wPF cyI cyZ cyO40cd8 cyO802ef cyO6ad6e { S with O_BundledLinks := { S.O_BundledLinks with f_trial := va_up S.O_BundledLinks.f_trial a v } }) := by
  rw [va_pl_set hD hL hk]
  exact congrArg (fun l => X ++ l) (va_pl_congr (wSt_O_BundledLinks_f_trial cyI cyZ cyO40cd8 cyO802ef cyO6ad6e S h v))
theorem wSt_O_BundledLinks_f_mark (cyI : ClassId) (cyZ : ClassId) (cyO40cd8 : ClassId) (cyO802ef : ClassId) (cyO6ad6e : ClassId) (S : wPS) {a : Nat} (h : S.K a = 7) (v : Option Nat) (b : Nat) : va_up (wPF cyI cyZ cyO40cd8 cyO802ef cyO6ad6e S) a (.inr (7, [va_rf (S.O_BundledLinks.f_text a), va_rf (S.O_BundledLinks.f_net a), va_rf (S.O_BundledLinks.f_history a), va_rf (S.O_BundledLinks.f_went a), va_rf (S.O_BundledLinks.f_trial a), va_rf v])) b = wPF cyI cyZ cyO40cd8 cyO802ef cyO6ad6e { S with O_BundledLinks := { S.O_BundledLinks with f_mark := va_up S.O_BundledLinks.f_mark a v } } b := by by_cases hb : b = a <;> first | (simp only [wPF, va_up_ne _ _ hb]; done) | (simp only [wPF, va_up, if_neg hb]; done) | simp [wPF, va_re, va_up, va_rf, hb, h]
theorem wPu_O_BundledLinks_f_mark (cyI : ClassId) (cyZ : ClassId) (cyO40cd8 : ClassId) (cyO802ef : ClassId) (cyO6ad6e : ClassId) (X : va_W) (S : wPS) {A : Nat → Prop} {a k : Nat} (hD : va_D A (X ++ va_pl S.L (wPF cyI cyZ cyO40cd8 cyO802ef cyO6ad6e S))) (hL : a ∈ S.L) (h : S.K a = 7) (hk : (X ++ va_pl S.L (wPF cyI cyZ cyO40cd8 cyO802ef cyO6ad6e S))[k]? = some (a, wPF cyI cyZ cyO40cd8 cyO802ef cyO6ad6e S a)) (v : Option Nat) : (X ++ va_pl S.L (wPF cyI cyZ cyO40cd8 cyO802ef cyO6ad6e S)).set k (a, .inr (7, [va_rf (S.O_BundledLinks.f_text a), va_rf (S.O_BundledLinks.f_net a), va_rf (S.O_BundledLinks.f_history a), va_rf (S.O_BundledLinks.f_went a), va_rf (S.O_BundledLinks.f_trial a), va_rf v])) = X ++ va_pl S.L (wPF cyI cyZ cyO40cd8 cyO802ef cyO6ad6e { S with O_BundledLinks := { S.O_BundledLinks with f_mark := va_up S.O_BundledLinks.f_mark a v } }) := by
  rw [va_pl_set hD hL hk]
  exact congrArg (fun l => X ++ l) (va_pl_congr (wSt_O_BundledLinks_f_mark cyI cyZ cyO40cd8 cyO802ef cyO6ad6e S h v))
theorem wNw_O_BundledLinks (cyI : ClassId) (cyZ : ClassId) (cyO40cd8 : ClassId) (cyO802ef : ClassId) (cyO6ad6e : ClassId) (S : wPS) (a b : Nat) : va_up (wPF cyI cyZ cyO40cd8 cyO802ef cyO6ad6e S) a (.inr (7, [.null, .null, .null, .null, .null, .null])) b = wPF cyI cyZ cyO40cd8 cyO802ef cyO6ad6e { S with L := S.L ++ [a], K := va_up S.K a 7, O_BundledLinks := { f_text := va_up S.O_BundledLinks.f_text a none, f_net := va_up S.O_BundledLinks.f_net a none, f_history := va_up S.O_BundledLinks.f_history a none, f_went := va_up S.O_BundledLinks.f_went a none, f_trial := va_up S.O_BundledLinks.f_trial a none, f_mark := va_up S.O_BundledLinks.f_mark a none } } b := by by_cases hb : b = a <;> first | (simp only [wPF, va_up_ne _ _ hb]; done) | (simp only [wPF, va_up, if_neg hb]; done) | simp [wPF, va_re, va_up, va_rf, hb]
theorem wPn_O_BundledLinks (cyI : ClassId) (cyZ : ClassId) (cyO40cd8 : ClassId) (cyO802ef : ClassId) (cyO6ad6e : ClassId) (X : va_W) (S : wPS) {a : Nat} (ha : a ∉ S.L) : (X ++ va_pl S.L (wPF cyI cyZ cyO40cd8 cyO802ef cyO6ad6e S)) ++ [(a, .inr (7, [.null, .null, .null, .null, .null, .null]))] = X ++ va_pl (S.L ++ [a]) (wPF cyI cyZ cyO40cd8 cyO802ef cyO6ad6e { S with L := S.L ++ [a], K := va_up S.K a 7, O_BundledLinks := { f_text := va_up S.O_BundledLinks.f_text a none, f_net := va_up S.O_BundledLinks.f_net a none, f_history := va_up S.O_BundledLinks.f_history a none, f_went := va_up S.O_BundledLinks.f_went a none, f_trial := va_up S.O_BundledLinks.f_trial a none, f_mark := va_up S.O_BundledLinks.f_mark a none } }) := by
  rw [List.append_assoc, va_pl_push ha]
  exact congrArg (fun l => X ++ l) (va_pl_congr (wNw_O_BundledLinks cyI cyZ cyO40cd8 cyO802ef cyO6ad6e S a))
theorem wAt_O_BundledLinksModel (cyI : ClassId) (cyZ : ClassId) (cyO40cd8 : ClassId) (cyO802ef : ClassId) (cyO6ad6e : ClassId) (S : wPS) {a : Nat} (h : S.K a = 8) : wPF cyI cyZ cyO40cd8 cyO802ef cyO6ad6e S a = .inr (8, [.int (S.O_BundledLinksModel.f_links a), .int (S.O_BundledLinksModel.f_wait a), .int (S.O_BundledLinksModel.f_drain a), va_rf (S.O_BundledLinksModel.f_now a), va_rf (S.O_BundledLinksModel.f_kept a), va_rf (S.O_BundledLinksModel.f_past a), .int (S.O_BundledLinksModel.f_undos a), va_rf (S.O_BundledLinksModel.f_frames a), va_rf (S.O_BundledLinksModel.f_text a), .int (S.O_BundledLinksModel.f_letters a), .int (S.O_BundledLinksModel.f_newLinks a), va_rf (S.O_BundledLinksModel.f_told a), va_rf (S.O_BundledLinksModel.f_ranks a), va_rf (S.O_BundledLinksModel.f_more a), va_rf (S.O_BundledLinksModel.f_figures a), .int (S.O_BundledLinksModel.f_at a), va_rf (S.O_BundledLinksModel.f_chosen a), va_rf (S.O_BundledLinksModel.f_seen a)]) := by simp [wPF, h]
theorem wGt_O_BundledLinksModel (cyI : ClassId) (cyZ : ClassId) (cyO40cd8 : ClassId) (cyO802ef : ClassId) (cyO6ad6e : ClassId) (X : va_W) (S : wPS) {a : Nat} (hL : a ∈ S.L) (h : S.K a = 8) : ∃ k : Nat, (X ++ va_pl S.L (wPF cyI cyZ cyO40cd8 cyO802ef cyO6ad6e S))[k]? = some (a, wPF cyI cyZ cyO40cd8 cyO802ef cyO6ad6e S a) ∧ (X ++ va_pl S.L (wPF cyI cyZ cyO40cd8 cyO802ef cyO6ad6e S))[k]? = some (a, .inr (8, [.int (S.O_BundledLinksModel.f_links a), .int (S.O_BundledLinksModel.f_wait a), .int (S.O_BundledLinksModel.f_drain a), va_rf (S.O_BundledLinksModel.f_now a), va_rf (S.O_BundledLinksModel.f_kept a), va_rf (S.O_BundledLinksModel.f_past a), .int (S.O_BundledLinksModel.f_undos a), va_rf (S.O_BundledLinksModel.f_frames a), va_rf (S.O_BundledLinksModel.f_text a), .int (S.O_BundledLinksModel.f_letters a), .int (S.O_BundledLinksModel.f_newLinks a), va_rf (S.O_BundledLinksModel.f_told a), va_rf (S.O_BundledLinksModel.f_ranks a), va_rf (S.O_BundledLinksModel.f_more a), va_rf (S.O_BundledLinksModel.f_figures a), .int (S.O_BundledLinksModel.f_at a), va_rf (S.O_BundledLinksModel.f_chosen a), va_rf (S.O_BundledLinksModel.f_seen a)])) := by
  obtain ⟨k, hk⟩ := va_pl_get (X := X) (f := wPF cyI cyZ cyO40cd8 cyO802ef cyO6ad6e S) hL
  exact ⟨k, hk, hk.trans (congrArg (fun e => some (a, e)) (wAt_O_BundledLinksModel cyI cyZ cyO40cd8 cyO802ef cyO6ad6e S h))⟩
theorem wSt_O_BundledLinksModel_f_links (cyI : ClassId) (cyZ : ClassId) (cyO40cd8 : ClassId) (cyO802ef : ClassId) (cyO6ad6e : ClassId) (S : wPS) {a : Nat} (h : S.K a = 8) (v : Int32) (b : Nat) : va_up (wPF cyI cyZ cyO40cd8 cyO802ef cyO6ad6e S) a (.inr (8, [.int v, .int (S.O_BundledLinksModel.f_wait a), .int (S.O_BundledLinksModel.f_drain a), va_rf (S.O_BundledLinksModel.f_now a), va_rf (S.O_BundledLinksModel.f_kept a), va_rf (S.O_BundledLinksModel.f_past a), .int (S.O_BundledLinksModel.f_undos a), va_rf (S.O_BundledLinksModel.f_frames a), va_rf (S.O_BundledLinksModel.f_text a), .int (S.O_BundledLinksModel.f_letters a), .int (S.O_BundledLinksModel.f_newLinks a), va_rf (S.O_BundledLinksModel.f_told a), va_rf (S.O_BundledLinksModel.f_ranks a), va_rf (S.O_BundledLinksModel.f_more a), va_rf (S.O_BundledLinksModel.f_figures a), .int (S.O_BundledLinksModel.f_at a), va_rf (S.O_BundledLinksModel.f_chosen a), va_rf (S.O_BundledLinksModel.f_seen a)])) b = wPF cyI cyZ cyO40cd8 cyO802ef cyO6ad6e { S with O_BundledLinksModel := { S.O_BundledLinksModel with f_links := va_up S.O_BundledLinksModel.f_links a v } } b := by by_cases hb : b = a <;> first | (simp only [wPF, va_up_ne _ _ hb]; done) | (simp only [wPF, va_up, if_neg hb]; done) | simp [wPF, va_re, va_up, va_rf, hb, h]
theorem wPu_O_BundledLinksModel_f_links (cyI : ClassId) (cyZ : ClassId) (cyO40cd8 : ClassId) (cyO802ef : ClassId) (cyO6ad6e : ClassId) (X : va_W) (S : wPS) {A : Nat → Prop} {a k : Nat} (hD : va_D A (X ++ va_pl S.L (wPF cyI cyZ cyO40cd8 cyO802ef cyO6ad6e S))) (hL : a ∈ S.L) (h : S.K a = 8) (hk : (X ++ va_pl S.L (wPF cyI cyZ cyO40cd8 cyO802ef cyO6ad6e S))[k]? = some (a, wPF cyI cyZ cyO40cd8 cyO802ef cyO6ad6e S a)) (v : Int32) : (X ++ va_pl S.L (wPF cyI cyZ cyO40cd8 cyO802ef cyO6ad6e S)).set k (a, .inr (8, [.int v, .int (S.O_BundledLinksModel.f_wait a), .int (S.O_BundledLinksModel.f_drain a), va_rf (S.O_BundledLinksModel.f_now a), va_rf (S.O_BundledLinksModel.f_kept a), va_rf (S.O_BundledLinksModel.f_past a), .int (S.O_BundledLinksModel.f_undos a), va_rf (S.O_BundledLinksModel.f_frames a), va_rf (S.O_BundledLinksModel.f_text a), .int (S.O_BundledLinksModel.f_letters a), .int (S.O_BundledLinksModel.f_newLinks a), va_rf (S.O_BundledLinksModel.f_told a), va_rf (S.O_BundledLinksModel.f_ranks a), va_rf (S.O_BundledLinksModel.f_more a), va_rf (S.O_BundledLinksModel.f_figures a), .int (S.O_BundledLinksModel.f_at a), va_rf (S.O_BundledLinksModel.f_chosen a), va_rf (S.O_BundledLinksModel.f_seen a)])) = X ++ va_pl S.L (wPF cyI cyZ cyO40cd8 cyO802ef cyO6ad6e { S with O_BundledLinksModel := { S.O_BundledLinksModel with f_links := va_up S.O_BundledLinksModel.f_links a v } }) := by
  rw [va_pl_set hD hL hk]
  exact congrArg (fun l => X ++ l) (va_pl_congr (wSt_O_BundledLinksModel_f_links cyI cyZ cyO40cd8 cyO802ef cyO6ad6e S h v))
theorem wSt_O_BundledLinksModel_f_wait (cyI : ClassId) (cyZ : ClassId) (cyO40cd8 : ClassId) (cyO802ef : ClassId) (cyO6ad6e : ClassId) (S : wPS) {a : Nat} (h : S.K a = 8) (v : Int32) (b : Nat) : va_up (wPF cyI cyZ cyO40cd8 cyO802ef cyO6ad6e S) a (.inr (8, [.int (S.O_BundledLinksModel.f_links a), .int v, .int (S.O_BundledLinksModel.f_drain a), va_rf (S.O_BundledLinksModel.f_now a), va_rf (S.O_BundledLinksModel.f_kept a), va_rf (S.O_BundledLinksModel.f_past a), .int (S.O_BundledLinksModel.f_undos a), va_rf (S.O_BundledLinksModel.f_frames a), va_rf (S.O_BundledLinksModel.f_text a), .int (S.O_BundledLinksModel.f_letters a), .int (S.O_BundledLinksModel.f_newLinks a), va_rf (S.O_BundledLinksModel.f_told a), va_rf (S.O_BundledLinksModel.f_ranks a), va_rf (S.O_BundledLinksModel.f_more a), va_rf (S.O_BundledLinksModel.f_figures a), .int (S.O_BundledLinksModel.f_at a), va_rf (S.O_BundledLinksModel.f_chosen a), va_rf (S.O_BundledLinksModel.f_seen a)])) b = wPF cyI cyZ cyO40cd8 cyO802ef cyO6ad6e { S with O_BundledLinksModel := { S.O_BundledLinksModel with f_wait := va_up S.O_BundledLinksModel.f_wait a v } } b := by by_cases hb : b = a <;> first | (simp only [wPF, va_up_ne _ _ hb]; done) | (simp only [wPF, va_up, if_neg hb]; done) | simp [wPF, va_re, va_up, va_rf, hb, h]
theorem wPu_O_BundledLinksModel_f_wait (cyI : ClassId) (cyZ : ClassId) (cyO40cd8 : ClassId) (cyO802ef : ClassId) (cyO6ad6e : ClassId) (X : va_W) (S : wPS) {A : Nat → Prop} {a k : Nat} (hD : va_D A (X ++ va_pl S.L (wPF cyI cyZ cyO40cd8 cyO802ef cyO6ad6e S))) (hL : a ∈ S.L) (h : S.K a = 8) (hk : (X ++ va_pl S.L (wPF cyI cyZ cyO40cd8 cyO802ef cyO6ad6e S))[k]? = some (a, wPF cyI cyZ cyO40cd8 cyO802ef cyO6ad6e S a)) (v : Int32) : (X ++ va_pl S.L (wPF cyI cyZ cyO40cd8 cyO802ef cyO6ad6e S)).set k (a, .inr (8, [.int (S.O_BundledLinksModel.f_links a), .int v, .int (S.O_BundledLinksModel.f_drain a), va_rf (S.O_BundledLinksModel.f_now a), va_rf (S.O_BundledLinksModel.f_kept a), va_rf (S.O_BundledLinksModel.f_past a), .int (S.O_BundledLinksModel.f_undos a), va_rf (S.O_BundledLinksModel.f_frames a), va_rf (S.O_BundledLinksModel.f_text a), .int (S.O_BundledLinksModel.f_letters a), .int (S.O_BundledLinksModel.f_newLinks a), va_rf (S.O_BundledLinksModel.f_told a), va_rf (S.O_BundledLinksModel.f_ranks a), va_rf (S.O_BundledLinksModel.f_more a), va_rf (S.O_BundledLinksModel.f_figures a), .int (S.O_BundledLinksModel.f_at a), va_rf (S.O_BundledLinksModel.f_chosen a), va_rf (S.O_BundledLinksModel.f_seen a)])) = X ++ va_pl S.L (wPF cyI cyZ cyO40cd8 cyO802ef cyO6ad6e { S with O_BundledLinksModel := { S.O_BundledLinksModel with f_wait := va_up S.O_BundledLinksModel.f_wait a v } }) := by
  rw [va_pl_set hD hL hk]
  exact congrArg (fun l => X ++ l) (va_pl_congr (wSt_O_BundledLinksModel_f_wait cyI cyZ cyO40cd8 cyO802ef cyO6ad6e S h v))
theorem wSt_O_BundledLinksModel_f_drain (cyI : ClassId) (cyZ : ClassId) (cyO40cd8 : ClassId) (cyO802ef : ClassId) (cyO6ad6e : ClassId) (S : wPS) {a : Nat} (h : S.K a = 8) (v : Int32) (b : Nat) : va_up (wPF cyI cyZ cyO40cd8 cyO802ef cyO6ad6e S) a (.inr (8, [.int (S.O_BundledLinksModel.f_links a), .int (S.O_BundledLinksModel.f_wait a), .int v, va_rf (S.O_BundledLinksModel.f_now a), va_rf (S.O_BundledLinksModel.f_kept a), va_rf (S.O_BundledLinksModel.f_past a), .int (S.O_BundledLinksModel.f_undos a), va_rf (S.O_BundledLinksModel.f_frames a), va_rf (S.O_BundledLinksModel.f_text a), .int (S.O_BundledLinksModel.f_letters a), .int (S.O_BundledLinksModel.f_newLinks a), va_rf (S.O_BundledLinksModel.f_told a), va_rf (S.O_BundledLinksModel.f_ranks a), va_rf (S.O_BundledLinksModel.f_more a), va_rf (S.O_BundledLinksModel.f_figures a), .int (S.O_BundledLinksModel.f_at a), va_rf (S.O_BundledLinksModel.f_chosen a), va_rf (S.O_BundledLinksModel.f_seen a)])) b = wPF cyI cyZ cyO40cd8 cyO802ef cyO6ad6e { S with O_BundledLinksModel := { S.O_BundledLinksModel with f_drain := va_up S.O_BundledLinksModel.f_drain a v } } b := by by_cases hb : b = a <;> first | (simp only [wPF, va_up_ne _ _ hb]; done) | (simp only [wPF, va_up, if_neg hb]; done) | simp [wPF, va_re, va_up, va_rf, hb, h]
theorem wPu_O_BundledLinksModel_f_drain (cyI : ClassId) (cyZ : ClassId) (cyO40cd8 : ClassId) (cyO802ef : ClassId) (cyO6ad6e : ClassId) (X : va_W) (S : wPS) {A : Nat → Prop} {a k : Nat} (hD : va_D A (X ++ va_pl S.L (wPF cyI cyZ cyO40cd8 cyO802ef cyO6ad6e S))) (hL : a ∈ S.L) (h : S.K a = 8) (hk : (X ++ va_pl S.L (wPF cyI cyZ cyO40cd8 cyO802ef cyO6ad6e S))[k]? = some (a, wPF cyI cyZ cyO40cd8 cyO802ef cyO6ad6e S a)) (v : Int32) : (X ++ va_pl S.L (wPF cyI cyZ cyO40cd8 cyO802ef cyO6ad6e S)).set k (a, .inr (8, [.int (S.O_BundledLinksModel.f_links a), .int (S.O_BundledLinksModel.f_wait a), .int v, va_rf (S.O_BundledLinksModel.f_now a), va_rf (S.O_BundledLinksModel.f_kept a), va_rf (S.O_BundledLinksModel.f_past a), .int (S.O_BundledLinksModel.f_undos a), va_rf (S.O_BundledLinksModel.f_frames a), va_rf (S.O_BundledLinksModel.f_text a), .int (S.O_BundledLinksModel.f_letters a), .int (S.O_BundledLinksModel.f_newLinks a), va_rf (S.O_BundledLinksModel.f_told a), va_rf (S.O_BundledLinksModel.f_ranks a), va_rf (S.O_BundledLinksModel.f_more a), va_rf (S.O_BundledLinksModel.f_figures a), .int (S.O_BundledLinksModel.f_at a), va_rf (S.O_BundledLinksModel.f_chosen a), va_rf (S.O_BundledLinksModel.f_seen a)])) = X ++ va_pl S.L (wPF cyI cyZ cyO40cd8 cyO802ef cyO6ad6e { S with O_BundledLinksModel := { S.O_BundledLinksModel with f_drain := va_up S.O_BundledLinksModel.f_drain a v } }) := by
  rw [va_pl_set hD hL hk]
  exact congrArg (fun l => X ++ l) (va_pl_congr (wSt_O_BundledLinksModel_f_drain cyI cyZ cyO40cd8 cyO802ef cyO6ad6e S h v))
theorem wSt_O_BundledLinksModel_f_now (cyI : ClassId) (cyZ : ClassId) (cyO40cd8 : ClassId) (cyO802ef : ClassId) (cyO6ad6e : ClassId) (S : wPS) {a : Nat} (h : S.K a = 8) (v : Option Nat) (b : Nat) : va_up (wPF cyI cyZ cyO40cd8 cyO802ef cyO6ad6e S) a (.inr (8, [.int (S.O_BundledLinksModel.f_links a), .int (S.O_BundledLinksModel.f_wait a), .int (S.O_BundledLinksModel.f_drain a), va_rf v, va_rf (S.O_BundledLinksModel.f_kept a), va_rf (S.O_BundledLinksModel.f_past a), .int (S.O_BundledLinksModel.f_undos a), va_rf (S.O_BundledLinksModel.f_frames a), va_rf (S.O_BundledLinksModel.f_text a), .int (S.O_BundledLinksModel.f_letters a), .int (S.O_BundledLinksModel.f_newLinks a), va_rf (S.O_BundledLinksModel.f_told a), va_rf (S.O_BundledLinksModel.f_ranks a), va_rf (S.O_BundledLinksModel.f_more a), va_rf (S.O_BundledLinksModel.f_figures a), .int (S.O_BundledLinksModel.f_at a), va_rf (S.O_BundledLinksModel.f_chosen a), va_rf (S.O_BundledLinksModel.f_seen a)])) b = wPF cyI cyZ cyO40cd8 cyO802ef cyO6ad6e { S with O_BundledLinksModel := { S.O_BundledLinksModel with f_now := va_up S.O_BundledLinksModel.f_now a v } } b := by by_cases hb : b = a <;> first | (simp only [wPF, va_up_ne _ _ hb]; done) | (simp only [wPF, va_up, if_neg hb]; done) | simp [wPF, va_re, va_up, va_rf, hb, h]
theorem wPu_O_BundledLinksModel_f_now (cyI : ClassId) (cyZ : ClassId) (cyO40cd8 : ClassId) (cyO802ef : ClassId) (cyO6ad6e : ClassId) (X : va_W) (S : wPS) {A : Nat → Prop} {a k : Nat} (hD : va_D A (X ++ va_pl S.L (wPF cyI cyZ cyO40cd8 cyO802ef cyO6ad6e S))) (hL : a ∈ S.L) (h : S.K a = 8) (hk : (X ++ va_pl S.L (wPF cyI cyZ cyO40cd8 cyO802ef cyO6ad6e S))[k]? = some (a, wPF cyI cyZ cyO40cd8 cyO802ef cyO6ad6e S a)) (v : Option Nat) : (X ++ va_pl S.L (wPF cyI cyZ cyO40cd8 cyO802ef cyO6ad6e S)).set k (a, .inr (8, [.int (S.O_BundledLinksModel.f_links a), .int (S.O_BundledLinksModel.f_wait a), .int (S.O_BundledLinksModel.f_drain a), va_rf v, va_rf (S.O_BundledLinksModel.f_kept a), va_rf (S.O_BundledLinksModel.f_past a), .int (S.O_BundledLinksModel.f_undos a), va_rf (S.O_BundledLinksModel.f_frames a), va_rf (S.O_BundledLinksModel.f_text a), .int (S.O_BundledLinksModel.f_letters a), .int (S.O_BundledLinksModel.f_newLinks a), va_rf (S.O_BundledLinksModel.f_told a), va_rf (S.O_BundledLinksModel.f_ranks a), va_rf (S.O_BundledLinksModel.f_more a), va_rf (S.O_BundledLinksModel.f_figures a), .int (S.O_BundledLinksModel.f_at a), va_rf (S.O_BundledLinksModel.f_chosen a), va_rf (S.O_BundledLinksModel.f_seen a)])) = X ++ va_pl S.L (wPF cyI cyZ cyO40cd8 cyO802ef cyO6ad6e { S with O_BundledLinksModel := { S.O_BundledLinksModel with f_now := va_up S.O_BundledLinksModel.f_now a v } }) := by
  rw [va_pl_set hD hL hk]
  exact congrArg (fun l => X ++ l) (va_pl_congr (wSt_O_BundledLinksModel_f_now cyI cyZ cyO40cd8 cyO802ef cyO6ad6e S h v))
theorem wSt_O_BundledLinksModel_f_kept (cyI : ClassId) (cyZ : ClassId) (cyO40cd8 : ClassId) (cyO802ef : ClassId) (cyO6ad6e : ClassId) (S : wPS) {a : Nat} (h : S.K a = 8) (v : Option Nat) (b : Nat) : va_up (wPF cyI cyZ cyO40cd8 cyO802ef cyO6ad6e S) a (.inr (8, [.int (S.O_BundledLinksModel.f_links a), .int (S.O_BundledLinksModel.f_wait a), .int (S.O_BundledLinksModel.f_drain a), va_rf (S.O_BundledLinksModel.f_now a), va_rf v, va_rf (S.O_BundledLinksModel.f_past a), .int (S.O_BundledLinksModel.f_undos a), va_rf (S.O_BundledLinksModel.f_frames a), va_rf (S.O_BundledLinksModel.f_text a), .int (S.O_BundledLinksModel.f_letters a), .int (S.O_BundledLinksModel.f_newLinks a), va_rf (S.O_BundledLinksModel.f_told a), va_rf (S.O_BundledLinksModel.f_ranks a), va_rf (S.O_BundledLinksModel.f_more a), va_rf (S.O_BundledLinksModel.f_figures a), .int (S.O_BundledLinksModel.f_at a), va_rf (S.O_BundledLinksModel.f_chosen a), va_rf (S.O_BundledLinksModel.f_seen a)])) b = wPF cyI cyZ cyO40cd8 cyO802ef cyO6ad6e { S with O_BundledLinksModel := { S.O_BundledLinksModel with f_kept := va_up S.O_BundledLinksModel.f_kept a v } } b := by by_cases hb : b = a <;> first | (simp only [wPF, va_up_ne _ _ hb]; done) | (simp only [wPF, va_up, if_neg hb]; done) | simp [wPF, va_re, va_up, va_rf, hb, h]
theorem wPu_O_BundledLinksModel_f_kept (cyI : ClassId) (cyZ : ClassId) (cyO40cd8 : ClassId) (cyO802ef : ClassId) (cyO6ad6e : ClassId) (X : va_W) (S : wPS) {A : Nat → Prop} {a k : Nat} (hD : va_D A (X ++ va_pl S.L (wPF cyI cyZ cyO40cd8 cyO802ef cyO6ad6e S))) (hL : a ∈ S.L) (h : S.K a = 8) (hk : (X ++ va_pl S.L (wPF cyI cyZ cyO40cd8 cyO802ef cyO6ad6e S))[k]? = some (a, wPF cyI cyZ cyO40cd8 cyO802ef cyO6ad6e S a)) (v : Option Nat) : (X ++ va_pl S.L (wPF cyI cyZ cyO40cd8 cyO802ef cyO6ad6e S)).set k (a, .inr (8, [.int (S.O_BundledLinksModel.f_links a), .int (S.O_BundledLinksModel.f_wait a), .int (S.O_BundledLinksModel.f_drain a), va_rf (S.O_BundledLinksModel.f_now a), va_rf v, va_rf (S.O_BundledLinksModel.f_past a), .int (S.O_BundledLinksModel.f_undos a), va_rf (S.O_BundledLinksModel.f_frames a), va_rf (S.O_BundledLinksModel.f_text a), .int (S.O_BundledLinksModel.f_letters a), .int (S.O_BundledLinksModel.f_newLinks a), va_rf (S.O_BundledLinksModel.f_told a), va_rf (S.O_BundledLinksModel.f_ranks a), va_rf (S.O_BundledLinksModel.f_more a), va_rf (S.O_BundledLinksModel.f_figures a), .int (S.O_BundledLinksModel.f_at a), va_rf (S.O_BundledLinksModel.f_chosen a), va_rf (S.O_BundledLinksModel.f_seen a)])) = X ++ va_pl S.L (wPF cyI cyZ cyO40cd8 cyO802ef cyO6ad6e { S with O_BundledLinksModel := { S.O_BundledLinksModel with f_kept := va_up S.O_BundledLinksModel.f_kept a v } }) := by
  rw [va_pl_set hD hL hk]
  exact congrArg (fun l => X ++ l) (va_pl_congr (wSt_O_BundledLinksModel_f_kept cyI cyZ cyO40cd8 cyO802ef cyO6ad6e S h v))
theorem wSt_O_BundledLinksModel_f_past (cyI : ClassId) (cyZ : ClassId) (cyO40cd8 : ClassId) (cyO802ef : ClassId) (cyO6ad6e : ClassId) (S : wPS) {a : Nat} (h : S.K a = 8) (v : Option Nat) (b : Nat) : va_up (wPF cyI cyZ cyO40cd8 cyO802ef cyO6ad6e S) a (.inr (8, [.int (S.O_BundledLinksModel.f_links a), .int (S.O_BundledLinksModel.f_wait a), .int (S.O_BundledLinksModel.f_drain a), va_rf (S.O_BundledLinksModel.f_now a), va_rf (S.O_BundledLinksModel.f_kept a), va_rf v, .int (S.O_BundledLinksModel.f_undos a), va_rf (S.O_BundledLinksModel.f_frames a), va_rf (S.O_BundledLinksModel.f_text a), .int (S.O_BundledLinksModel.f_letters a), .int (S.O_BundledLinksModel.f_newLinks a), va_rf (S.O_BundledLinksModel.f_told a), va_rf (S.O_BundledLinksModel.f_ranks a), va_rf (S.O_BundledLinksModel.f_more a), va_rf (S.O_BundledLinksModel.f_figures a), .int (S.O_BundledLinksModel.f_at a), va_rf (S.O_BundledLinksModel.f_chosen a), va_rf (S.O_BundledLinksModel.f_seen a)])) b = wPF cyI cyZ cyO40cd8 cyO802ef cyO6ad6e { S with O_BundledLinksModel := { S.O_BundledLinksModel with f_past := va_up S.O_BundledLinksModel.f_past a v } } b := by by_cases hb : b = a <;> first | (simp only [wPF, va_up_ne _ _ hb]; done) | (simp only [wPF, va_up, if_neg hb]; done) | simp [wPF, va_re, va_up, va_rf, hb, h]
theorem wPu_O_BundledLinksModel_f_past (cyI : ClassId) (cyZ : ClassId) (cyO40cd8 : ClassId) (cyO802ef : ClassId) (cyO6ad6e : ClassId) (X : va_W) (S : wPS) {A : Nat → Prop} {a k : Nat} (hD : va_D A (X ++ va_pl S.L (wPF cyI cyZ cyO40cd8 cyO802ef cyO6ad6e S))) (hL : a ∈ S.L) (h : S.K a = 8) (hk : (X ++ va_pl S.L (wPF cyI cyZ cyO40cd8 cyO802ef cyO6ad6e S))[k]? = some (a, wPF cyI cyZ cyO40cd8 cyO802ef cyO6ad6e S a)) (v : Option Nat) : (X ++ va_pl S.L (wPF cyI cyZ cyO40cd8 cyO802ef cyO6ad6e S)).set k (a, .inr (8, [.int (S.O_BundledLinksModel.f_links a), .int (S.O_BundledLinksModel.f_wait a), .int (S.O_BundledLinksModel.f_drain a), va_rf (S.O_BundledLinksModel.f_now a), va_rf (S.O_BundledLinksModel.f_kept a), va_rf v, .int (S.O_BundledLinksModel.f_undos a), va_rf (S.O_BundledLinksModel.f_frames a), va_rf (S.O_BundledLinksModel.f_text a), .int (S.O_BundledLinksModel.f_letters a), .int (S.O_BundledLinksModel.f_newLinks a), va_rf (S.O_BundledLinksModel.f_told a), va_rf (S.O_BundledLinksModel.f_ranks a), va_rf (S.O_BundledLinksModel.f_more a), va_rf (S.O_BundledLinksModel.f_figures a), .int (S.O_BundledLinksModel.f_at a), va_rf (S.O_BundledLinksModel.f_chosen a), va_rf (S.O_BundledLinksModel.f_seen a)])) = X ++ va_pl S.L (wPF cyI cyZ cyO40cd8 cyO802ef cyO6ad6e { S with O_BundledLinksModel := { S.O_BundledLinksModel with f_past := va_up S.O_BundledLinksModel.f_past a v } }) := by
  rw [va_pl_set hD hL hk]
  exact congrArg (fun l => X ++ l) (va_pl_congr (wSt_O_BundledLinksModel_f_past cyI cyZ cyO40cd8 cyO802ef cyO6ad6e S h v))
theorem wSt_O_BundledLinksModel_f_undos (cyI : ClassId) (cyZ : ClassId) (cyO40cd8 : ClassId) (cyO802ef : ClassId) (cyO6ad6e : ClassId) (S : wPS) {a : Nat} (h : S.K a = 8) (v : Int32) (b : Nat) : va_up (wPF cyI cyZ cyO40cd8 cyO802ef cyO6ad6e S) a (.inr (8, [.int (S.O_BundledLinksModel.f_links a), .int (S.O_BundledLinksModel.f_wait a), .int (S.O_BundledLinksModel.f_drain a), va_rf (S.O_BundledLinksModel.f_now a), va_rf (S.O_BundledLinksModel.f_kept a), va_rf (S.O_BundledLinksModel.f_past a), .int v, va_rf (S.O_BundledLinksModel.f_frames a), va_rf (S.O_BundledLinksModel.f_text a), .int (S.O_BundledLinksModel.f_letters a), .int (S.O_BundledLinksModel.f_newLinks a), va_rf (S.O_BundledLinksModel.f_told a), va_rf (S.O_BundledLinksModel.f_ranks a), va_rf (S.O_BundledLinksModel.f_more a), va_rf (S.O_BundledLinksModel.f_figures a), .int (S.O_BundledLinksModel.f_at a), va_rf (S.O_BundledLinksModel.f_chosen a), va_rf (S.O_BundledLinksModel.f_seen a)])) b = wPF cyI cyZ cyO40cd8 cyO802ef cyO6ad6e { S with O_BundledLinksModel := { S.O_BundledLinksModel with f_undos := va_up S.O_BundledLinksModel.f_undos a v } } b := by by_cases hb : b = a <;> first | (simp only [wPF, va_up_ne _ _ hb]; done) | (simp only [wPF, va_up, if_neg hb]; done) | simp [wPF, va_re, va_up, va_rf, hb, h]
theorem wPu_O_BundledLinksModel_f_undos (cyI : ClassId) (cyZ : ClassId) (cyO40cd8 : ClassId) (cyO802ef : ClassId) (cyO6ad6e : ClassId) (X : va_W) (S : wPS) {A : Nat → Prop} {a k : Nat} (hD : va_D A (X ++ va_pl S.L (wPF cyI cyZ cyO40cd8 cyO802ef cyO6ad6e S))) (hL : a ∈ S.L) (h : S.K a = 8) (hk : (X ++ va_pl S.L (wPF cyI cyZ cyO40cd8 cyO802ef cyO6ad6e S))[k]? = some (a, wPF cyI cyZ cyO40cd8 cyO802ef cyO6ad6e S a)) (v : Int32) : (X ++ va_pl S.L (wPF cyI cyZ cyO40cd8 cyO802ef cyO6ad6e S)).set k (a, .inr (8, [.int (S.O_BundledLinksModel.f_links a), .int (S.O_BundledLinksModel.f_wait a), .int (S.O_BundledLinksModel.f_drain a), va_rf (S.O_BundledLinksModel.f_now a), va_rf (S.O_BundledLinksModel.f_kept a), va_rf (S.O_BundledLinksModel.f_past a), .int v, va_rf (S.O_BundledLinksModel.f_frames a), va_rf (S.O_BundledLinksModel.f_text a), .int (S.O_BundledLinksModel.f_letters a), .int (S.O_BundledLinksModel.f_newLinks a), va_rf (S.O_BundledLinksModel.f_told a), va_rf (S.O_BundledLinksModel.f_ranks a), va_rf (S.O_BundledLinksModel.f_more a), va_rf (S.O_BundledLinksModel.f_figures a), .int (S.O_BundledLinksModel.f_at a), va_rf (S.O_BundledLinksModel.f_chosen a), va_rf (S.O_BundledLinksModel.f_seen a)])) = X ++ va_pl S.L (wPF cyI cyZ cyO40cd8 cyO802ef cyO6ad6e { S with O_BundledLinksModel := { S.O_BundledLinksModel with f_undos := va_up S.O_BundledLinksModel.f_undos a v } }) := by
  rw [va_pl_set hD hL hk]
  exact congrArg (fun l => X ++ l) (va_pl_congr (wSt_O_BundledLinksModel_f_undos cyI cyZ cyO40cd8 cyO802ef cyO6ad6e S h v))
theorem wSt_O_BundledLinksModel_f_frames (cyI : ClassId) (cyZ : ClassId) (cyO40cd8 : ClassId) (cyO802ef : ClassId) (cyO6ad6e : ClassId) (S : wPS) {a : Nat} (h : S.K a = 8) (v : Option Nat) (b : Nat) : va_up (wPF cyI cyZ cyO40cd8 cyO802ef cyO6ad6e S) a (.inr (8, [.int (S.O_BundledLinksModel.f_links a), .int (S.O_BundledLinksModel.f_wait a), .int (S.O_BundledLinksModel.f_drain a), va_rf (S.O_BundledLinksModel.f_now a), va_rf (S.O_BundledLinksModel.f_kept a), va_rf (S.O_BundledLinksModel.f_past a), .int (S.O_BundledLinksModel.f_undos a), va_rf v, va_rf (S.O_BundledLinksModel.f_text a), .int (S.O_BundledLinksModel.f_letters a), .int (S.O_BundledLinksModel.f_newLinks a), va_rf (S.O_BundledLinksModel.f_told a), va_rf (S.O_BundledLinksModel.f_ranks a), va_rf (S.O_BundledLinksModel.f_more a), va_rf (S.O_BundledLinksModel.f_figures a), .int (S.O_BundledLinksModel.f_at a), va_rf (S.O_BundledLinksModel.f_chosen a), va_rf (S.O_BundledLinksModel.f_seen a)])) b = wPF cyI cyZ cyO40cd8 cyO802ef cyO6ad6e { S with O_BundledLinksModel := { S.O_BundledLinksModel with f_frames := va_up S.O_BundledLinksModel.f_frames a v } } b := by by_cases hb : b = a <;> first | (simp only [wPF, va_up_ne _ _ hb]; done) | (simp only [wPF, va_up, if_neg hb]; done) | simp [wPF, va_re, va_up, va_rf, hb, h]
theorem wPu_O_BundledLinksModel_f_frames (cyI : ClassId) (cyZ : ClassId) (cyO40cd8 : ClassId) (cyO802ef : ClassId) (cyO6ad6e : ClassId) (X : va_W) (S : wPS) {A : Nat → Prop} {a k : Nat} (hD : va_D A (X ++ va_pl S.L (wPF cyI cyZ cyO40cd8 cyO802ef cyO6ad6e S))) (hL : a ∈ S.L) (h : S.K a = 8) (hk : (X ++ va_pl S.L (wPF cyI cyZ cyO40cd8 cyO802ef cyO6ad6e S))[k]? = some (a, wPF cyI cyZ cyO40cd8 cyO802ef cyO6ad6e S a)) (v : Option Nat) : (X ++ va_pl S.L (wPF cyI cyZ cyO40cd8 cyO802ef cyO6ad6e S)).set k (a, .inr (8, [.int (S.O_BundledLinksModel.f_links a), .int (S.O_BundledLinksModel.f_wait a), .int (S.O_BundledLinksModel.f_drain a), va_rf (S.O_BundledLinksModel.f_now a), va_rf (S.O_BundledLinksModel.f_kept a), va_rf (S.O_BundledLinksModel.f_past a), .int (S.O_BundledLinksModel.f_undos a), va_rf v, va_rf (S.O_BundledLinksModel.f_text a), .int (S.O_BundledLinksModel.f_letters a), .int (S.O_BundledLinksModel.f_newLinks a), va_rf (S.O_BundledLinksModel.f_told a), va_rf (S.O_BundledLinksModel.f_ranks a), va_rf (S.O_BundledLinksModel.f_more a), va_rf (S.O_BundledLinksModel.f_figures a), .int (S.O_BundledLinksModel.f_at a), va_rf (S.O_BundledLinksModel.f_chosen a), va_rf (S.O_BundledLinksModel.f_seen a)])) = X ++ va_pl S.L (wPF cyI cyZ cyO40cd8 cyO802ef cyO6ad6e { S with O_BundledLinksModel := { S.O_BundledLinksModel with f_frames := va_up S.O_BundledLinksModel.f_frames a v } }) := by
  rw [va_pl_set hD hL hk]
  exact congrArg (fun l => X ++ l) (va_pl_congr (wSt_O_BundledLinksModel_f_frames cyI cyZ cyO40cd8 cyO802ef cyO6ad6e S h v))
theorem wSt_O_BundledLinksModel_f_text (cyI : ClassId) (cyZ : ClassId) (cyO40cd8 : ClassId) (cyO802ef : ClassId) (cyO6ad6e : ClassId) (S : wPS) {a : Nat} (h : S.K a = 8) (v : Option Nat) (b : Nat) : va_up (wPF cyI cyZ cyO40cd8 cyO802ef cyO6ad6e S) a (.inr (8, [.int (S.O_BundledLinksModel.f_links a), .int (S.O_BundledLinksModel.f_wait a), .int (S.O_BundledLinksModel.f_drain a), va_rf (S.O_BundledLinksModel.f_now a), va_rf (S.O_BundledLinksModel.f_kept a), va_rf (S.O_BundledLinksModel.f_past a), .int (S.O_BundledLinksModel.f_undos a), va_rf (S.O_BundledLinksModel.f_frames a), va_rf v, .int (S.O_BundledLinksModel.f_letters a), .int (S.O_BundledLinksModel.f_newLinks a), va_rf (S.O_BundledLinksModel.f_told a), va_rf (S.O_BundledLinksModel.f_ranks a), va_rf (S.O_BundledLinksModel.f_more a), va_rf (S.O_BundledLinksModel.f_figures a), .int (S.O_BundledLinksModel.f_at a), va_rf (S.O_BundledLinksModel.f_chosen a), va_rf (S.O_BundledLinksModel.f_seen a)])) b = wPF cyI cyZ cyO40cd8 cyO802ef cyO6ad6e { S with O_BundledLinksModel := { S.O_BundledLinksModel with f_text := va_up S.O_BundledLinksModel.f_text a v } } b := by by_cases hb : b = a <;> first | (simp only [wPF, va_up_ne _ _ hb]; done) | (simp only [wPF, va_up, if_neg hb]; done) | simp [wPF, va_re, va_up, va_rf, hb, h]
theorem wPu_O_BundledLinksModel_f_text (cyI : ClassId) (cyZ : ClassId) (cyO40cd8 : ClassId) (cyO802ef : ClassId) (cyO6ad6e : ClassId) (X : va_W) (S : wPS) {A : Nat → Prop} {a k : Nat} (hD : va_D A (X ++ va_pl S.L (wPF cyI cyZ cyO40cd8 cyO802ef cyO6ad6e S))) (hL : a ∈ S.L) (h : S.K a = 8) (hk : (X ++ va_pl S.L (wPF cyI cyZ cyO40cd8 cyO802ef cyO6ad6e S))[k]? = some (a, wPF cyI cyZ cyO40cd8 cyO802ef cyO6ad6e S a)) (v : Option Nat) : (X ++ va_pl S.L (wPF cyI cyZ cyO40cd8 cyO802ef cyO6ad6e S)).set k (a, .inr (8, [.int (S.O_BundledLinksModel.f_links a), .int (S.O_BundledLinksModel.f_wait a), .int (S.O_BundledLinksModel.f_drain a), va_rf (S.O_BundledLinksModel.f_now a), va_rf (S.O_BundledLinksModel.f_kept a), va_rf (S.O_BundledLinksModel.f_past a), .int (S.O_BundledLinksModel.f_undos a), va_rf (S.O_BundledLinksModel.f_frames a), va_rf v, .int (S.O_BundledLinksModel.f_letters a), .int (S.O_BundledLinksModel.f_newLinks a), va_rf (S.O_BundledLinksModel.f_told a), va_rf (S.O_BundledLinksModel.f_ranks a), va_rf (S.O_BundledLinksModel.f_more a), va_rf (S.O_BundledLinksModel.f_figures a), .int (S.O_BundledLinksModel.f_at a), va_rf (S.O_BundledLinksModel.f_chosen a), va_rf (S.O_BundledLinksModel.f_seen a)])) = X ++ va_pl S.L (wPF cyI cyZ cyO40cd8 cyO802ef cyO6ad6e { S with O_BundledLinksModel := { S.O_BundledLinksModel with f_text := va_up S.O_BundledLinksModel.f_text a v } }) := by
  rw [va_pl_set hD hL hk]
  exact congrArg (fun l => X ++ l) (va_pl_congr (wSt_O_BundledLinksModel_f_text cyI cyZ cyO40cd8 cyO802ef cyO6ad6e S h v))
theorem wSt_O_BundledLinksModel_f_letters (cyI : ClassId) (cyZ : ClassId) (cyO40cd8 : ClassId) (cyO802ef : ClassId) (cyO6ad6e : ClassId) (S : wPS) {a : Nat} (h : S.K a = 8) (v : Int32) (b : Nat) : va_up (wPF cyI cyZ cyO40cd8 cyO802ef cyO6ad6e S) a (.inr (8, [.int (S.O_BundledLinksModel.f_links a), .int (S.O_BundledLinksModel.f_wait a), .int (S.O_BundledLinksModel.f_drain a), va_rf (S.O_BundledLinksModel.f_now a), va_rf (S.O_BundledLinksModel.f_kept a), va_rf (S.O_BundledLinksModel.f_past a), .int (S.O_BundledLinksModel.f_undos a), va_rf (S.O_BundledLinksModel.f_frames a), va_rf (S.O_BundledLinksModel.f_text a), .int v, .int (S.O_BundledLinksModel.f_newLinks a), va_rf (S.O_BundledLinksModel.f_told a), va_rf (S.O_BundledLinksModel.f_ranks a), va_rf (S.O_BundledLinksModel.f_more a), va_rf (S.O_BundledLinksModel.f_figures a), .int (S.O_BundledLinksModel.f_at a), va_rf (S.O_BundledLinksModel.f_chosen a), va_rf (S.O_BundledLinksModel.f_seen a)])) b = wPF cyI cyZ cyO40cd8 cyO802ef cyO6ad6e { S with O_BundledLinksModel := { S.O_BundledLinksModel with f_letters := va_up S.O_BundledLinksModel.f_letters a v } } b := by by_cases hb : b = a <;> first | (simp only [wPF, va_up_ne _ _ hb]; done) | (simp only [wPF, va_up, if_neg hb]; done) | simp [wPF, va_re, va_up, va_rf, hb, h]
theorem wPu_O_BundledLinksModel_f_letters (cyI : ClassId) (cyZ : ClassId) (cyO40cd8 : ClassId) (cyO802ef : ClassId) (cyO6ad6e : ClassId) (X : va_W) (S : wPS) {A : Nat → Prop} {a k : Nat} (hD : va_D A (X ++ va_pl S.L (wPF cyI cyZ cyO40cd8 cyO802ef cyO6ad6e S))) (hL : a ∈ S.L) (h : S.K a = 8) (hk : (X ++ va_pl S.L (wPF cyI cyZ cyO40cd8 cyO802ef cyO6ad6e S))[k]? = some (a, wPF cyI cyZ cyO40cd8 cyO802ef cyO6ad6e S a)) (v : Int32) : (X ++ va_pl S.L (wPF cyI cyZ cyO40cd8 cyO802ef cyO6ad6e S)).set k (a, .inr (8, [.int (S.O_BundledLinksModel.f_links a), .int (S.O_BundledLinksModel.f_wait a), .int (S.O_BundledLinksModel.f_drain a), va_rf (S.O_BundledLinksModel.f_now a), va_rf (S.O_BundledLinksModel.f_kept a), va_rf (S.O_BundledLinksModel.f_past a), .int (S.O_BundledLinksModel.f_undos a), va_rf (S.O_BundledLinksModel.f_frames a), va_rf (S.O_BundledLinksModel.f_text a), .int v, .int (S.O_BundledLinksModel.f_newLinks a), va_rf (S.O_BundledLinksModel.f_told a), va_rf (S.O_BundledLinksModel.f_ranks a), va_rf (S.O_BundledLinksModel.f_more a), va_rf (S.O_BundledLinksModel.f_figures a), .int (S.O_BundledLinksModel.f_at a), va_rf (S.O_BundledLinksModel.f_chosen a), va_rf (S.O_BundledLinksModel.f_seen a)])) = X ++ va_pl S.L (wPF cyI cyZ cyO40cd8 cyO802ef cyO6ad6e { S with O_BundledLinksModel := { S.O_BundledLinksModel with f_letters := va_up S.O_BundledLinksModel.f_letters a v } }) := by
  rw [va_pl_set hD hL hk]
  exact congrArg (fun l => X ++ l) (va_pl_congr (wSt_O_BundledLinksModel_f_letters cyI cyZ cyO40cd8 cyO802ef cyO6ad6e S h v))
theorem wSt_O_BundledLinksModel_f_newLinks (cyI : ClassId) (cyZ : ClassId) (cyO40cd8 : ClassId) (cyO802ef : ClassId) (cyO6ad6e : ClassId) (S : wPS) {a : Nat} (h : S.K a = 8) (v : Int32) (b : Nat) : va_up (wPF cyI cyZ cyO40cd8 cyO802ef cyO6ad6e S) a (.inr (8, [.int (S.O_BundledLinksModel.f_links a), .int (S.O_BundledLinksModel.f_wait a), .int (S.O_BundledLinksModel.f_drain a), va_rf (S.O_BundledLinksModel.f_now a), va_rf (S.O_BundledLinksModel.f_kept a), va_rf (S.O_BundledLinksModel.f_past a), .int (S.O_BundledLinksModel.f_undos a), va_rf (S.O_BundledLinksModel.f_frames a), va_rf (S.O_BundledLinksModel.f_text a), .int (S.O_BundledLinksModel.f_letters a), .int v, va_rf (S.O_BundledLinksModel.f_told a), va_rf (S.O_BundledLinksModel.f_ranks a), va_rf (S.O_BundledLinksModel.f_more a), va_rf (S.O_BundledLinksModel.f_figures a), .int (S.O_BundledLinksModel.f_at a), va_rf (S.O_BundledLinksModel.f_chosen a), va_rf (S.O_BundledLinksModel.f_seen a)])) b = wPF cyI cyZ cyO40cd8 cyO802ef cyO6ad6e { S with O_BundledLinksModel := { S.O_BundledLinksModel with f_newLinks := va_up S.O_BundledLinksModel.f_newLinks a v } } b := by by_cases hb : b = a <;> first | (simp only [wPF, va_up_ne _ _ hb]; done) | (simp only [wPF, va_up, if_neg hb]; done) | simp [wPF, va_re, va_up, va_rf, hb, h]
theorem wPu_O_BundledLinksModel_f_newLinks (cyI : ClassId) (cyZ : ClassId) (cyO40cd8 : ClassId) (cyO802ef : ClassId) (cyO6ad6e : ClassId) (X : va_W) (S : wPS) {A : Nat → Prop} {a k : Nat} (hD : va_D A (X ++ va_pl S.L (wPF cyI cyZ cyO40cd8 cyO802ef cyO6ad6e S))) (hL : a ∈ S.L) (h : S.K a = 8) (hk : (X ++ va_pl S.L (wPF cyI cyZ cyO40cd8 cyO802ef cyO6ad6e S))[k]? = some (a, wPF cyI cyZ cyO40cd8 cyO802ef cyO6ad6e S a)) (v : Int32) : (X ++ va_pl S.L (wPF cyI cyZ cyO40cd8 cyO802ef cyO6ad6e S)).set k (a, .inr (8, [.int (S.O_BundledLinksModel.f_links a), .int (S.O_BundledLinksModel.f_wait a), .int (S.O_BundledLinksModel.f_drain a), va_rf (S.O_BundledLinksModel.f_now a), va_rf (S.O_BundledLinksModel.f_kept a), va_rf (S.O_BundledLinksModel.f_past a), .int (S.O_BundledLinksModel.f_undos a), va_rf (S.O_BundledLinksModel.f_frames a), va_rf (S.O_BundledLinksModel.f_text a), .int (S.O_BundledLinksModel.f_letters a), .int v, va_rf (S.O_BundledLinksModel.f_told a), va_rf (S.O_BundledLinksModel.f_ranks a), va_rf (S.O_BundledLinksModel.f_more a), va_rf (S.O_BundledLinksModel.f_figures a), .int (S.O_BundledLinksModel.f_at a), va_rf (S.O_BundledLinksModel.f_chosen a), va_rf (S.O_BundledLinksModel.f_seen a)])) = X ++ va_pl S.L (wPF cyI cyZ cyO40cd8 cyO802ef cyO6ad6e { S with O_BundledLinksModel := { S.O_BundledLinksModel with f_newLinks := va_up S.O_BundledLinksModel.f_newLinks a v } }) := by
  rw [va_pl_set hD hL hk]
  exact congrArg (fun l => X ++ l) (va_pl_congr (wSt_O_BundledLinksModel_f_newLinks cyI cyZ cyO40cd8 cyO802ef cyO6ad6e S h v))
theorem wSt_O_BundledLinksModel_f_told (cyI : ClassId) (cyZ : ClassId) (cyO40cd8 : ClassId) (cyO802ef : ClassId) (cyO6ad6e : ClassId) (S : wPS) {a : Nat} (h : S.K a = 8) (v : Option Nat) (b : Nat) : va_up (wPF cyI cyZ cyO40cd8 cyO802ef cyO6ad6e S) a (.inr (8, [.int (S.O_BundledLinksModel.f_links a), .int (S.O_BundledLinksModel.f_wait a), .int (S.O_BundledLinksModel.f_drain a), va_rf (S.O_BundledLinksModel.f_now a), va_rf (S.O_BundledLinksModel.f_kept a), va_rf (S.O_BundledLinksModel.f_past a), .int (S.O_BundledLinksModel.f_undos a), va_rf (S.O_BundledLinksModel.f_frames a), va_rf (S.O_BundledLinksModel.f_text a), .int (S.O_BundledLinksModel.f_letters a), .int (S.O_BundledLinksModel.f_newLinks a), va_rf v, va_rf (S.O_BundledLinksModel.f_ranks a), va_rf (S.O_BundledLinksModel.f_more a), va_rf (S.O_BundledLinksModel.f_figures a), .int (S.O_BundledLinksModel.f_at a), va_rf (S.O_BundledLinksModel.f_chosen a), va_rf (S.O_BundledLinksModel.f_seen a)])) b = wPF cyI cyZ cyO40cd8 cyO802ef cyO6ad6e { S with O_BundledLinksModel := { S.O_BundledLinksModel with f_told := va_up S.O_BundledLinksModel.f_told a v } } b := by by_cases hb : b = a <;> first | (simp only [wPF, va_up_ne _ _ hb]; done) | (simp only [wPF, va_up, if_neg hb]; done) | simp [wPF, va_re, va_up, va_rf, hb, h]
theorem wPu_O_BundledLinksModel_f_told (cyI : ClassId) (cyZ : ClassId) (cyO40cd8 : ClassId) (cyO802ef : ClassId) (cyO6ad6e : ClassId) (X : va_W) (S : wPS) {A : Nat → Prop} {a k : Nat} (hD : va_D A (X ++ va_pl S.L (wPF cyI cyZ cyO40cd8 cyO802ef cyO6ad6e S))) (hL : a ∈ S.L) (h : S.K a = 8) (hk : (X ++ va_pl S.L (wPF cyI cyZ cyO40cd8 cyO802ef cyO6ad6e S))[k]? = some (a, wPF cyI cyZ cyO40cd8 cyO802ef cyO6ad6e S a)) (v : Option Nat) : (X ++ va_pl S.L (wPF cyI cyZ cyO40cd8 cyO802ef cyO6ad6e S)).set k (a, .inr (8, [.int (S.O_BundledLinksModel.f_links a), .int (S.O_BundledLinksModel.f_wait a), .int (S.O_BundledLinksModel.f_drain a), va_rf (S.O_BundledLinksModel.f_now a), va_rf (S.O_BundledLinksModel.f_kept a), va_rf (S.O_BundledLinksModel.f_past a), .int (S.O_BundledLinksModel.f_undos a), va_rf (S.O_BundledLinksModel.f_frames a), va_rf (S.O_BundledLinksModel.f_text a), .int (S.O_BundledLinksModel.f_letters a), .int (S.O_BundledLinksModel.f_newLinks a), va_rf v, va_rf (S.O_BundledLinksModel.f_ranks a), va_rf (S.O_BundledLinksModel.f_more a), va_rf (S.O_BundledLinksModel.f_figures a), .int (S.O_BundledLinksModel.f_at a), va_rf (S.O_BundledLinksModel.f_chosen a), va_rf (S.O_BundledLinksModel.f_seen a)])) = X ++ va_pl S.L (wPF cyI cyZ cyO40cd8 cyO802ef cyO6ad6e { S with O_BundledLinksModel := { S.O_BundledLinksModel with f_told := va_up S.O_BundledLinksModel.f_told a v } }) := by
  rw [va_pl_set hD hL hk]
  exact congrArg (fun l => X ++ l) (va_pl_congr (wSt_O_BundledLinksModel_f_told cyI cyZ cyO40cd8 cyO802ef cyO6ad6e S h v))
theorem wSt_O_BundledLinksModel_f_ranks (cyI : ClassId) (cyZ : ClassId) (cyO40cd8 : ClassId) (cyO802ef : ClassId) (cyO6ad6e : ClassId) (S : wPS) {a : Nat} (h : S.K a = 8) (v : Option Nat) (b : Nat) : va_up (wPF cyI cyZ cyO40cd8 cyO802ef cyO6ad6e S) a (.inr (8, [.int (S.O_BundledLinksModel.f_links a), .int (S.O_BundledLinksModel.f_wait a), .int (S.O_BundledLinksModel.f_drain a), va_rf (S.O_BundledLinksModel.f_now a), va_rf (S.O_BundledLinksModel.f_kept a), va_rf (S.O_BundledLinksModel.f_past a), .int (S.O_BundledLinksModel.f_undos a), va_rf (S.O_BundledLinksModel.f_frames a), va_rf (S.O_BundledLinksModel.f_text a), .int (S.O_BundledLinksModel.f_letters a), .int (S.O_BundledLinksModel.f_newLinks a), va_rf (S.O_BundledLinksModel.f_told a), va_rf v, va_rf (S.O_BundledLinksModel.f_more a), va_rf (S.O_BundledLinksModel.f_figures a), .int (S.O_BundledLinksModel.f_at a), va_rf (S.O_BundledLinksModel.f_chosen a), va_rf (S.O_BundledLinksModel.f_seen a)])) b = wPF cyI cyZ cyO40cd8 cyO802ef cyO6ad6e { S with O_BundledLinksModel := { S.O_BundledLinksModel with f_ranks := va_up S.O_BundledLinksModel.f_ranks a v } } b := by by_cases hb : b = a <;> first | (simp only [wPF, va_up_ne _ _ hb]; done) | (simp only [wPF, va_up, if_neg hb]; done) | simp [wPF, va_re, va_up, va_rf, hb, h]
theorem wPu_O_BundledLinksModel_f_ranks (cyI : ClassId) (cyZ : ClassId) (cyO40cd8 : ClassId) (cyO802ef : ClassId) (cyO6ad6e : ClassId) (X : va_W) (S : wPS) {A : Nat → Prop} {a k : Nat} (hD : va_D A (X ++ va_pl S.L (wPF cyI cyZ cyO40cd8 cyO802ef cyO6ad6e S))) (hL : a ∈ S.L) (h : S.K a = 8) (hk : (X ++ va_pl S.L (wPF cyI cyZ cyO40cd8 cyO802ef cyO6ad6e S))[k]? = some (a, wPF cyI cyZ cyO40cd8 cyO802ef cyO6ad6e S a)) (v : Option Nat) : (X ++ va_pl S.L (wPF cyI cyZ cyO40cd8 cyO802ef cyO6ad6e S)).set k (a, .inr (8, [.int (S.O_BundledLinksModel.f_links a), .int (S.O_BundledLinksModel.f_wait a), .int (S.O_BundledLinksModel.f_drain a), va_rf (S.O_BundledLinksModel.f_now a), va_rf (S.O_BundledLinksModel.f_kept a), va_rf (S.O_BundledLinksModel.f_past a), .int (S.O_BundledLinksModel.f_undos a), va_rf (S.O_BundledLinksModel.f_frames a), va_rf (S.O_BundledLinksModel.f_text a), .int (S.O_BundledLinksModel.f_letters a), .int (S.O_BundledLinksModel.f_newLinks a), va_rf (S.O_BundledLinksModel.f_told a), va_rf v, va_rf (S.O_BundledLinksModel.f_more a), va_rf (S.O_BundledLinksModel.f_figures a), .int (S.O_BundledLinksModel.f_at a), va_rf (S.O_BundledLinksModel.f_chosen a), va_rf (S.O_BundledLinksModel.f_seen a)])) = X ++ va_pl S.L (wPF cyI cyZ cyO40cd8 cyO802ef cyO6ad6e { S with O_BundledLinksModel := { S.O_BundledLinksModel with f_ranks := va_up S.O_BundledLinksModel.f_ranks a v } }) := by
  rw [va_pl_set hD hL hk]
  exact congrArg (fun l => X ++ l) (va_pl_congr (wSt_O_BundledLinksModel_f_ranks cyI cyZ cyO40cd8 cyO802ef cyO6ad6e S h v))
theorem wSt_O_BundledLinksModel_f_more (cyI : ClassId) (cyZ : ClassId) (cyO40cd8 : ClassId) (cyO802ef : ClassId) (cyO6ad6e : ClassId) (S : wPS) {a : Nat} (h : S.K a = 8) (v : Option Nat) (b : Nat) : va_up (wPF cyI cyZ cyO40cd8 cyO802ef cyO6ad6e S) a (.inr (8, [.int (S.O_BundledLinksModel.f_links a), .int (S.O_BundledLinksModel.f_wait a), .int (S.O_BundledLinksModel.f_drain a), va_rf (S.O_BundledLinksModel.f_now a), va_rf (S.O_BundledLinksModel.f_kept a), va_rf (S.O_BundledLinksModel.f_past a), .int (S.O_BundledLinksModel.f_undos a), va_rf (S.O_BundledLinksModel.f_frames a), va_rf (S.O_BundledLinksModel.f_text a), .int (S.O_BundledLinksModel.f_letters a), .int (S.O_BundledLinksModel.f_newLinks a), va_rf (S.O_BundledLinksModel.f_told a), va_rf (S.O_BundledLinksModel.f_ranks a), va_rf v, va_rf (S.O_BundledLinksModel.f_figures a), .int (S.O_BundledLinksModel.f_at a), va_rf (S.O_BundledLinksModel.f_chosen a), va_rf (S.O_BundledLinksModel.f_seen a)])) b = wPF cyI cyZ cyO40cd8 cyO802ef cyO6ad6e { S with O_BundledLinksModel := { S.O_BundledLinksModel with f_more := va_up S.O_BundledLinksModel.f_more a v } } b := by by_cases hb : b = a <;> first | (simp only [wPF, va_up_ne _ _ hb]; done) | (simp only [wPF, va_up, if_neg hb]; done) | simp [wPF, va_re, va_up, va_rf, hb, h]
theorem wPu_O_BundledLinksModel_f_more (cyI : ClassId) (cyZ : ClassId) (cyO40cd8 : ClassId) (cyO802ef : ClassId) (cyO6ad6e : ClassId) (X : va_W) (S : wPS) {A : Nat → Prop} {a k : Nat} (hD : va_D A (X ++ va_pl S.L (wPF cyI cyZ cyO40cd8 cyO802ef cyO6ad6e S))) (hL : a ∈ S.L) (h : S.K a = 8) (hk : (X ++ va_pl S.L (wPF cyI cyZ cyO40cd8 cyO802ef cyO6ad6e S))[k]? = some (a, wPF cyI cyZ cyO40cd8 cyO802ef cyO6ad6e S a)) (v : Option Nat) : (X ++ va_pl S.L (wPF cyI cyZ cyO40cd8 cyO802ef cyO6ad6e S)).set k (a, .inr (8, [.int (S.O_BundledLinksModel.f_links a), .int (S.O_BundledLinksModel.f_wait a), .int (S.O_BundledLinksModel.f_drain a), va_rf (S.O_BundledLinksModel.f_now a), va_rf (S.O_BundledLinksModel.f_kept a), va_rf (S.O_BundledLinksModel.f_past a), .int (S.O_BundledLinksModel.f_undos a), va_rf (S.O_BundledLinksModel.f_frames a), va_rf (S.O_BundledLinksModel.f_text a), .int (S.O_BundledLinksModel.f_letters a), .int (S.O_BundledLinksModel.f_newLinks a), va_rf (S.O_BundledLinksModel.f_told a), va_rf (S.O_BundledLinksModel.f_ranks a), va_rf v, va_rf (S.O_BundledLinksModel.f_figures a), .int (S.O_BundledLinksModel.f_at a), va_rf (S.O_BundledLinksModel.f_chosen a), va_rf (S.O_BundledLinksModel.f_seen a)])) = X ++ va_pl S.L (wPF cyI cyZ cyO40cd8 cyO802ef cyO6ad6e { S with O_BundledLinksModel := { S.O_BundledLinksModel with f_more := va_up S.O_BundledLinksModel.f_more a v } }) := by
  rw [va_pl_set hD hL hk]
  exact congrArg (fun l => X ++ l) (va_pl_congr (wSt_O_BundledLinksModel_f_more cyI cyZ cyO40cd8 cyO802ef cyO6ad6e S h v))
theorem wSt_O_BundledLinksModel_f_figures (cyI : ClassId) (cyZ : ClassId) (cyO40cd8 : ClassId) (cyO802ef : ClassId) (cyO6ad6e : ClassId) (S : wPS) {a : Nat} (h : S.K a = 8) (v : Option Nat) (b : Nat) : va_up (wPF cyI cyZ cyO40cd8 cyO802ef cyO6ad6e S) a (.inr (8, [.int (S.O_BundledLinksModel.f_links a), .int (S.O_BundledLinksModel.f_wait a), .int (S.O_BundledLinksModel.f_drain a), va_rf (S.O_BundledLinksModel.f_now a), va_rf (S.O_BundledLinksModel.f_kept a), va_rf (S.O_BundledLinksModel.f_past a), .int (S.O_BundledLinksModel.f_undos a), va_rf (S.O_BundledLinksModel.f_frames a), va_rf (S.O_BundledLinksModel.f_text a), .int (S.O_BundledLinksModel.f_letters a), .int (S.O_BundledLinksModel.f_newLinks a), va_rf (S.O_BundledLinksModel.f_told a), va_rf (S.O_BundledLinksModel.f_ranks a), va_rf (S.O_BundledLinksModel.f_more a), va_rf v, .int (S.O_BundledLinksModel.f_at a), va_rf (S.O_BundledLinksModel.f_chosen a), va_rf (S.O_BundledLinksModel.f_seen a)])) b = wPF cyI cyZ cyO40cd8 cyO802ef cyO6ad6e { S with O_BundledLinksModel := { S.O_BundledLinksModel with f_figures := va_up S.O_BundledLinksModel.f_figures a v } } b := by by_cases hb : b = a <;> first | (simp only [wPF, va_up_ne _ _ hb]; done) | (simp only [wPF, va_up, if_neg hb]; done) | simp [wPF, va_re, va_up, va_rf, hb, h]
theorem wPu_O_BundledLinksModel_f_figures (cyI : ClassId) (cyZ : ClassId) (cyO40cd8 : ClassId) (cyO802ef : ClassId) (cyO6ad6e : ClassId) (X : va_W) (S : wPS) {A : Nat → Prop} {a k : Nat} (hD : va_D A (X ++ va_pl S.L (wPF cyI cyZ cyO40cd8 cyO802ef cyO6ad6e S))) (hL : a ∈ S.L) (h : S.K a = 8) (hk : (X ++ va_pl S.L (wPF cyI cyZ cyO40cd8 cyO802ef cyO6ad6e S))[k]? = some (a, wPF cyI cyZ cyO40cd8 cyO802ef cyO6ad6e S a)) (v : Option Nat) : (X ++ va_pl S.L (wPF cyI cyZ cyO40cd8 cyO802ef cyO6ad6e S)).set k (a, .inr (8, [.int (S.O_BundledLinksModel.f_links a), .int (S.O_BundledLinksModel.f_wait a), .int (S.O_BundledLinksModel.f_drain a), va_rf (S.O_BundledLinksModel.f_now a), va_rf (S.O_BundledLinksModel.f_kept a), va_rf (S.O_BundledLinksModel.f_past a), .int (S.O_BundledLinksModel.f_undos a), va_rf (S.O_BundledLinksModel.f_frames a), va_rf (S.O_BundledLinksModel.f_text a), .int (S.O_BundledLinksModel.f_letters a), .int (S.O_BundledLinksModel.f_newLinks a), va_rf (S.O_BundledLinksModel.f_told a), va_rf (S.O_BundledLinksModel.f_ranks a), va_rf (S.O_BundledLinksModel.f_more a), va_rf v, .int (S.O_BundledLinksModel.f_at a), va_rf (S.O_BundledLinksModel.f_chosen a), va_rf (S.O_BundledLinksModel.f_seen a)])) = X ++ va_pl S.L (wPF cyI cyZ cyO40cd8 cyO802ef cyO6ad6e { S with O_BundledLinksModel := { S.O_BundledLinksModel with f_figures := va_up S.O_BundledLinksModel.f_figures a v } }) := by
  rw [va_pl_set hD hL hk]
  exact congrArg (fun l => X ++ l) (va_pl_congr (wSt_O_BundledLinksModel_f_figures cyI cyZ cyO40cd8 cyO802ef cyO6ad6e S h v))
theorem wSt_O_BundledLinksModel_f_at (cyI : ClassId) (cyZ : ClassId) (cyO40cd8 : ClassId) (cyO802ef : ClassId) (cyO6ad6e : ClassId) (S : wPS) {a : Nat} (h : S.K a = 8) (v : Int32) (b : Nat) : va_up (wPF cyI cyZ cyO40cd8 cyO802ef cyO6ad6e S) a (.inr (8, [.int (S.O_BundledLinksModel.f_links a), .int (S.O_BundledLinksModel.f_wait a), .int (S.O_BundledLinksModel.f_drain a), va_rf (S.O_BundledLinksModel.f_now a), va_rf (S.O_BundledLinksModel.f_kept a), va_rf (S.O_BundledLinksModel.f_past a), .int (S.O_BundledLinksModel.f_undos a), va_rf (S.O_BundledLinksModel.f_frames a), va_rf (S.O_BundledLinksModel.f_text a), .int (S.O_BundledLinksModel.f_letters a), .int (S.O_BundledLinksModel.f_newLinks a), va_rf (S.O_BundledLinksModel.f_told a), va_rf (S.O_BundledLinksModel.f_ranks a), va_rf (S.O_BundledLinksModel.f_more a), va_rf (S.O_BundledLinksModel.f_figures a), .int v, va_rf (S.O_BundledLinksModel.f_chosen a), va_rf (S.O_BundledLinksModel.f_seen a)])) b = wPF cyI cyZ cyO40cd8 cyO802ef cyO6ad6e { S with O_BundledLinksModel := { S.O_BundledLinksModel with f_at := va_up S.O_BundledLinksModel.f_at a v } } b := by by_cases hb : b = a <;> first | (simp only [wPF, va_up_ne _ _ hb]; done) | (simp only [wPF, va_up, if_neg hb]; done) | simp [wPF, va_re, va_up, va_rf, hb, h]
theorem wPu_O_BundledLinksModel_f_at (cyI : ClassId) (cyZ : ClassId) (cyO40cd8 : ClassId) (cyO802ef : ClassId) (cyO6ad6e : ClassId) (X : va_W) (S : wPS) {A : Nat → Prop} {a k : Nat} (hD : va_D A (X ++ va_pl S.L (wPF cyI cyZ cyO40cd8 cyO802ef cyO6ad6e S))) (hL : a ∈ S.L) (h : S.K a = 8) (hk : (X ++ va_pl S.L (wPF cyI cyZ cyO40cd8 cyO802ef cyO6ad6e S))[k]? = some (a, wPF cyI cyZ cyO40cd8 cyO802ef cyO6ad6e S a)) (v : Int32) : (X ++ va_pl S.L (wPF cyI cyZ cyO40cd8 cyO802ef cyO6ad6e S)).set k (a, .inr (8, [.int (S.O_BundledLinksModel.f_links a), .int (S.O_BundledLinksModel.f_wait a), .int (S.O_BundledLinksModel.f_drain a), va_rf (S.O_BundledLinksModel.f_now a), va_rf (S.O_BundledLinksModel.f_kept a), va_rf (S.O_BundledLinksModel.f_past a), .int (S.O_BundledLinksModel.f_undos a), va_rf (S.O_BundledLinksModel.f_frames a), va_rf (S.O_BundledLinksModel.f_text a), .int (S.O_BundledLinksModel.f_letters a), .int (S.O_BundledLinksModel.f_newLinks a), va_rf (S.O_BundledLinksModel.f_told a), va_rf (S.O_BundledLinksModel.f_ranks a), va_rf (S.O_BundledLinksModel.f_more a), va_rf (S.O_BundledLinksModel.f_figures a), .int v, va_rf (S.O_BundledLinksModel.f_chosen a), va_rf (S.O_BundledLinksModel.f_seen a)])) = X ++ va_pl S.L (wPF cyI cyZ cyO40cd8 cyO802ef cyO6ad6e { S with O_BundledLinksModel := { S.O_BundledLinksModel with f_at := va_up S.O_BundledLinksModel.f_at a v } }) := by
  rw [va_pl_set hD hL hk]
  exact congrArg (fun l => X ++ l) (va_pl_congr (wSt_O_BundledLinksModel_f_at cyI cyZ cyO40cd8 cyO802ef cyO6ad6e S h v))
theorem wSt_O_BundledLinksModel_f_chosen (cyI : ClassId) (cyZ : ClassId) (cyO40cd8 : ClassId) (cyO802ef : ClassId) (cyO6ad6e : ClassId) (S : wPS) {a : Nat} (h : S.K a = 8) (v : Option Nat) (b : Nat) : va_up (wPF cyI cyZ cyO40cd8 cyO802ef cyO6ad6e S) a (.inr (8, [.int (S.O_BundledLinksModel.f_links a), .int (S.O_BundledLinksModel.f_wait a), .int (S.O_BundledLinksModel.f_drain a), va_rf (S.O_BundledLinksModel.f_now a), va_rf (S.O_BundledLinksModel.f_kept a), va_rf (S.O_BundledLinksModel.f_past a), .int (S.O_BundledLinksModel.f_undos a), va_rf (S.O_BundledLinksModel.f_frames a), va_rf (S.O_BundledLinksModel.f_text a), .int (S.O_BundledLinksModel.f_letters a), .int (S.O_BundledLinksModel.f_newLinks a), va_rf (S.O_BundledLinksModel.f_told a), va_rf (S.O_BundledLinksModel.f_ranks a), va_rf (S.O_BundledLinksModel.f_more a), va_rf (S.O_BundledLinksModel.f_figures a), .int (S.O_BundledLinksModel.f_at a), va_rf v, va_rf (S.O_BundledLinksModel.f_seen a)])) b = wPF cyI cyZ cyO40cd8 cyO802ef cyO6ad6e { S with O_BundledLinksModel := { S.O_BundledLinksModel with f_chosen := va_up S.O_BundledLinksModel.f_chosen a v } } b := by by_cases hb : b = a <;> first | (simp only [wPF, va_up_ne _ _ hb]; done) | (simp only [wPF, va_up, if_neg hb]; done) | simp [wPF, va_re, va_up, va_rf, hb, h]
theorem wPu_O_BundledLinksModel_f_chosen (cyI : ClassId) (cyZ : ClassId) (cyO40cd8 : ClassId) (cyO802ef : ClassId) (cyO6ad6e : ClassId) (X : va_W) (S : wPS) {A : Nat → Prop} {a k : Nat} (hD : va_D A (X ++ va_pl S.L (wPF cyI cyZ cyO40cd8 cyO802ef cyO6ad6e S))) (hL : a ∈ S.L) (h : S.K a = 8) (hk : (X ++ va_pl S.L (wPF cyI cyZ cyO40cd8 cyO802ef cyO6ad6e S))[k]? = some (a, wPF cyI cyZ cyO40cd8 cyO802ef cyO6ad6e S a)) (v : Option Nat) : (X ++ va_pl S.L (wPF cyI cyZ cyO40cd8 cyO802ef cyO6ad6e S)).set k (a, .inr (8, [.int (S.O_BundledLinksModel.f_links a), .int (S.O_BundledLinksModel.f_wait a), .int (S.O_BundledLinksModel.f_drain a), va_rf (S.O_BundledLinksModel.f_now a), va_rf (S.O_BundledLinksModel.f_kept a), va_rf (S.O_BundledLinksModel.f_past a), .int (S.O_BundledLinksModel.f_undos a), va_rf (S.O_BundledLinksModel.f_frames a), va_rf (S.O_BundledLinksModel.f_text a), .int (S.O_BundledLinksModel.f_letters a), .int (S.O_BundledLinksModel.f_newLinks a), va_rf (S.O_BundledLinksModel.f_told a), va_rf (S.O_BundledLinksModel.f_ranks a), va_rf (S.O_BundledLinksModel.f_more a), va_rf (S.O_BundledLinksModel.f_figures a), .int (S.O_BundledLinksModel.f_at a), va_rf v, va_rf (S.O_BundledLinksModel.f_seen a)])) = X ++ va_pl S.L (wPF cyI cyZ cyO40cd8 cyO802ef cyO6ad6e { S with O_BundledLinksModel := { S.O_BundledLinksModel with f_chosen := va_up S.O_BundledLinksModel.f_chosen a v } }) := by
  rw [va_pl_set hD hL hk]
  exact congrArg (fun l => X ++ l) (va_pl_congr (wSt_O_BundledLinksModel_f_chosen cyI cyZ cyO40cd8 cyO802ef cyO6ad6e S h v))
theorem wSt_O_BundledLinksModel_f_seen (cyI : ClassId) (cyZ : ClassId) (cyO40cd8 : ClassId) (cyO802ef : ClassId) (cyO6ad6e : ClassId) (S : wPS) {a : Nat} (h : S.K a = 8) (v : Option Nat) (b : Nat) : va_up (wPF cyI cyZ cyO40cd8 cyO802ef cyO6ad6e S) a (.inr (8, [.int (S.O_BundledLinksModel.f_links a), .int (S.O_BundledLinksModel.f_wait a), .int (S.O_BundledLinksModel.f_drain a), va_rf (S.O_BundledLinksModel.f_now a), va_rf (S.O_BundledLinksModel.f_kept a), va_rf (S.O_BundledLinksModel.f_past a), .int (S.O_BundledLinksModel.f_undos a), va_rf (S.O_BundledLinksModel.f_frames a), va_rf (S.O_BundledLinksModel.f_text a), .int (S.O_BundledLinksModel.f_letters a), .int (S.O_BundledLinksModel.f_newLinks a), va_rf (S.O_BundledLinksModel.f_told a), va_rf (S.O_BundledLinksModel.f_ranks a), va_rf (S.O_BundledLinksModel.f_more a), va_rf (S.O_BundledLinksModel.f_figures a), .int (S.O_BundledLinksModel.f_at a), va_rf (S.O_BundledLinksModel.f_chosen a), va_rf v])) b = wPF cyI cyZ cyO40cd8 cyO802ef cyO6ad6e { S with O_BundledLinksModel := { S.O_BundledLinksModel with f_seen := va_up S.O_BundledLinksModel.f_seen a v } } b := by by_cases hb : b = a <;> first | (simp only [wPF, va_up_ne _ _ hb]; done) | (simp only [wPF, va_up, if_neg hb]; done) | simp [wPF, va_re, va_up, va_rf, hb, h]
theorem wPu_O_BundledLinksModel_f_seen (cyI : ClassId) (cyZ : ClassId) (cyO40cd8 : ClassId) (cyO802ef : ClassId) (cyO6ad6e : ClassId) (X : va_W) (S : wPS) {A : Nat → Prop} {a k : Nat} (hD : va_D A (X ++ va_pl S.L (wPF cyI cyZ cyO40cd8 cyO802ef cyO6ad6e S))) (hL : a ∈ S.L) (h : S.K a = 8) (hk : (X ++ va_pl S.L (wPF cyI cyZ cyO40cd8 cyO802ef cyO6ad6e S))[k]? = some (a, wPF cyI cyZ cyO40cd8 cyO802ef cyO6ad6e S a)) (v : Option Nat) : (X ++ va_pl S.L (wPF cyI cyZ cyO40cd8 cyO802ef cyO6ad6e S)).set k (a, .inr (8, [.int (S.O_BundledLinksModel.f_links a), .int (S.O_BundledLinksModel.f_wait a), .int (S.O_BundledLinksModel.f_drain a), va_rf (S.O_BundledLinksModel.f_now a), va_rf (S.O_BundledLinksModel.f_kept a), va_rf (S.O_BundledLinksModel.f_past a), .int (S.O_BundledLinksModel.f_undos a), va_rf (S.O_BundledLinksModel.f_frames a), va_rf (S.O_BundledLinksModel.f_text a), .int (S.O_BundledLinksModel.f_letters a), .int (S.O_BundledLinksModel.f_newLinks a), va_rf (S.O_BundledLinksModel.f_told a), va_rf (S.O_BundledLinksModel.f_ranks a), va_rf (S.O_BundledLinksModel.f_more a), va_rf (S.O_BundledLinksModel.f_figures a), .int (S.O_BundledLinksModel.f_at a), va_rf (S.O_BundledLinksModel.f_chosen a), va_rf v])) = X ++ va_pl S.L (wPF cyI cyZ cyO40cd8 cyO802ef cyO6ad6e { S with O_BundledLinksModel := { S.O_BundledLinksModel with f_seen := va_up S.O_BundledLinksModel.f_seen a v } }) := by
  rw [va_pl_set hD hL hk]
  exact congrArg (fun l => X ++ l) (va_pl_congr (wSt_O_BundledLinksModel_f_seen cyI cyZ cyO40cd8 cyO802ef cyO6ad6e S h v))
theorem wNw_O_BundledLinksModel (cyI : ClassId) (cyZ : ClassId) (cyO40cd8 : ClassId) (cyO802ef : ClassId) (cyO6ad6e : ClassId) (S : wPS) (a b : Nat) : va_up (wPF cyI cyZ cyO40cd8 cyO802ef cyO6ad6e S) a (.inr (8, [.int 0, .int 0, .int 0, .null, .null, .null, .int 0, .null, .null, .int 0, .int 0, .null, .null, .null, .null, .int 0, .null, .null])) b = wPF cyI cyZ cyO40cd8 cyO802ef cyO6ad6e { S with L := S.L ++ [a], K := va_up S.K a 8, O_BundledLinksModel := { f_links := va_up S.O_BundledLinksModel.f_links a 0, f_wait := va_up S.O_BundledLinksModel.f_wait a 0, f_drain := va_up S.O_BundledLinksModel.f_drain a 0, f_now := va_up S.O_BundledLinksModel.f_now a none, f_kept := va_up S.O_BundledLinksModel.f_kept a none, f_past := va_up S.O_BundledLinksModel.f_past a none, f_undos := va_up S.O_BundledLinksModel.f_undos a 0, f_frames := va_up S.O_BundledLinksModel.f_frames a none, f_text := va_up S.O_BundledLinksModel.f_text a none, f_letters := va_up S.O_BundledLinksModel.f_letters a 0, f_newLinks := va_up S.O_BundledLinksModel.f_newLinks a 0, f_told := va_up S.O_BundledLinksModel.f_told a none, f_ranks := va_up S.O_BundledLinksModel.f_ranks a none, f_more := va_up S.O_BundledLinksModel.f_more a none, f_figures := va_up S.O_BundledLinksModel.f_figures a none, f_at := va_up S.O_BundledLinksModel.f_at a 0, f_chosen := va_up S.O_BundledLinksModel.f_chosen a none, f_seen := va_up S.O_BundledLinksModel.f_seen a none } } b := by by_cases hb : b = a <;> first | (simp only [wPF, va_up_ne _ _ hb]; done) | (simp only [wPF, va_up, if_neg hb]; done) | simp [wPF, va_re, va_up, va_rf, hb]
theorem wPn_O_BundledLinksModel (cyI : ClassId) (cyZ : ClassId) (cyO40cd8 : ClassId) (cyO802ef : ClassId) (cyO6ad6e : ClassId) (X : va_W) (S : wPS) {a : Nat} (ha : a ∉ S.L) : (X ++ va_pl S.L (wPF cyI cyZ cyO40cd8 cyO802ef cyO6ad6e S)) ++ [(a, .inr (8, [.int 0, .int 0, .int 0, .null, .null, .null, .int 0, .null, .null, .int 0, .int 0, .null, .null, .null, .null, .int 0, .null, .null]))] = X ++ va_pl (S.L ++ [a]) (wPF cyI cyZ cyO40cd8 cyO802ef cyO6ad6e { S with L := S.L ++ [a], K := va_up S.K a 8, O_BundledLinksModel := { f_links := va_up S.O_BundledLinksModel.f_links a 0, f_wait := va_up S.O_BundledLinksModel.f_wait a 0, f_drain := va_up S.O_BundledLinksModel.f_drain a 0, f_now := va_up S.O_BundledLinksModel.f_now a none, f_kept := va_up S.O_BundledLinksModel.f_kept a none, f_past := va_up S.O_BundledLinksModel.f_past a none, f_undos := va_up S.O_BundledLinksModel.f_undos a 0, f_frames := va_up S.O_BundledLinksModel.f_frames a none, f_text := va_up S.O_BundledLinksModel.f_text a none, f_letters := va_up S.O_BundledLinksModel.f_letters a 0, f_newLinks := va_up S.O_BundledLinksModel.f_newLinks a 0, f_told := va_up S.O_BundledLinksModel.f_told a none, f_ranks := va_up S.O_BundledLinksModel.f_ranks a none, f_more := va_up S.O_BundledLinksModel.f_more a none, f_figures := va_up S.O_BundledLinksModel.f_figures a none, f_at := va_up S.O_BundledLinksModel.f_at a 0, f_chosen := va_up S.O_BundledLinksModel.f_chosen a none, f_seen := va_up S.O_BundledLinksModel.f_seen a none } }) := by
  rw [List.append_assoc, va_pl_push ha]
  exact congrArg (fun l => X ++ l) (va_pl_congr (wNw_O_BundledLinksModel cyI cyZ cyO40cd8 cyO802ef cyO6ad6e S a))
theorem wAt_R_I (cyI : ClassId) (cyZ : ClassId) (cyO40cd8 : ClassId) (cyO802ef : ClassId) (cyO6ad6e : ClassId) (S : wPS) {a : Nat} (h : S.K a = 9) : wPF cyI cyZ cyO40cd8 cyO802ef cyO6ad6e S a = .inl (cyI, S.R_I.len a, .inl (S.R_I.row a)) := by simp [wPF, h]
theorem wGt_R_I (cyI : ClassId) (cyZ : ClassId) (cyO40cd8 : ClassId) (cyO802ef : ClassId) (cyO6ad6e : ClassId) (X : va_W) (S : wPS) {a : Nat} (hL : a ∈ S.L) (h : S.K a = 9) : ∃ k : Nat, (X ++ va_pl S.L (wPF cyI cyZ cyO40cd8 cyO802ef cyO6ad6e S))[k]? = some (a, wPF cyI cyZ cyO40cd8 cyO802ef cyO6ad6e S a) ∧ (X ++ va_pl S.L (wPF cyI cyZ cyO40cd8 cyO802ef cyO6ad6e S))[k]? = some (a, .inl (cyI, S.R_I.len a, .inl (S.R_I.row a))) := by
  obtain ⟨k, hk⟩ := va_pl_get (X := X) (f := wPF cyI cyZ cyO40cd8 cyO802ef cyO6ad6e S) hL
  exact ⟨k, hk, hk.trans (congrArg (fun e => some (a, e)) (wAt_R_I cyI cyZ cyO40cd8 cyO802ef cyO6ad6e S h))⟩
theorem wSt_R_I_row (cyI : ClassId) (cyZ : ClassId) (cyO40cd8 : ClassId) (cyO802ef : ClassId) (cyO6ad6e : ClassId) (S : wPS) {a : Nat} (h : S.K a = 9) (v : Nat → Int32) (b : Nat) : va_up (wPF cyI cyZ cyO40cd8 cyO802ef cyO6ad6e S) a (.inl (cyI, S.R_I.len a, .inl v)) b = wPF cyI cyZ cyO40cd8 cyO802ef cyO6ad6e { S with R_I := { S.R_I with row := va_up S.R_I.row a v } } b := by by_cases hb : b = a <;> first | (simp only [wPF, va_up_ne _ _ hb]; done) | (simp only [wPF, va_up, if_neg hb]; done) | simp [wPF, va_re, va_up, va_rf, hb, h]
theorem wPu_R_I_row (cyI : ClassId) (cyZ : ClassId) (cyO40cd8 : ClassId) (cyO802ef : ClassId) (cyO6ad6e : ClassId) (X : va_W) (S : wPS) {A : Nat → Prop} {a k : Nat} (hD : va_D A (X ++ va_pl S.L (wPF cyI cyZ cyO40cd8 cyO802ef cyO6ad6e S))) (hL : a ∈ S.L) (h : S.K a = 9) (hk : (X ++ va_pl S.L (wPF cyI cyZ cyO40cd8 cyO802ef cyO6ad6e S))[k]? = some (a, wPF cyI cyZ cyO40cd8 cyO802ef cyO6ad6e S a)) (v : Nat → Int32) : (X ++ va_pl S.L (wPF cyI cyZ cyO40cd8 cyO802ef cyO6ad6e S)).set k (a, .inl (cyI, S.R_I.len a, .inl v)) = X ++ va_pl S.L (wPF cyI cyZ cyO40cd8 cyO802ef cyO6ad6e { S with R_I := { S.R_I with row := va_up S.R_I.row a v } }) := by
  rw [va_pl_set hD hL hk]
  exact congrArg (fun l => X ++ l) (va_pl_congr (wSt_R_I_row cyI cyZ cyO40cd8 cyO802ef cyO6ad6e S h v))
theorem wNw_R_I (cyI : ClassId) (cyZ : ClassId) (cyO40cd8 : ClassId) (cyO802ef : ClassId) (cyO6ad6e : ClassId) (S : wPS) (a : Nat) (z : Nat) (f : Nat → Int32) (b : Nat) : va_up (wPF cyI cyZ cyO40cd8 cyO802ef cyO6ad6e S) a (.inl (cyI, z, .inl f)) b = wPF cyI cyZ cyO40cd8 cyO802ef cyO6ad6e { S with L := S.L ++ [a], K := va_up S.K a 9, R_I := { len := va_up S.R_I.len a z, row := va_up S.R_I.row a f } } b := by by_cases hb : b = a <;> first | (simp only [wPF, va_up_ne _ _ hb]; done) | (simp only [wPF, va_up, if_neg hb]; done) | simp [wPF, va_re, va_up, va_rf, hb]
theorem wAt_R_Z (cyI : ClassId) (cyZ : ClassId) (cyO40cd8 : ClassId) (cyO802ef : ClassId) (cyO6ad6e : ClassId) (S : wPS) {a : Nat} (h : S.K a = 10) : wPF cyI cyZ cyO40cd8 cyO802ef cyO6ad6e S a = .inl (cyZ, S.R_Z.len a, .inl (S.R_Z.row a)) := by simp [wPF, h]
theorem wGt_R_Z (cyI : ClassId) (cyZ : ClassId) (cyO40cd8 : ClassId) (cyO802ef : ClassId) (cyO6ad6e : ClassId) (X : va_W) (S : wPS) {a : Nat} (hL : a ∈ S.L) (h : S.K a = 10) : ∃ k : Nat, (X ++ va_pl S.L (wPF cyI cyZ cyO40cd8 cyO802ef cyO6ad6e S))[k]? = some (a, wPF cyI cyZ cyO40cd8 cyO802ef cyO6ad6e S a) ∧ (X ++ va_pl S.L (wPF cyI cyZ cyO40cd8 cyO802ef cyO6ad6e S))[k]? = some (a, .inl (cyZ, S.R_Z.len a, .inl (S.R_Z.row a))) := by
  obtain ⟨k, hk⟩ := va_pl_get (X := X) (f := wPF cyI cyZ cyO40cd8 cyO802ef cyO6ad6e S) hL
  exact ⟨k, hk, hk.trans (congrArg (fun e => some (a, e)) (wAt_R_Z cyI cyZ cyO40cd8 cyO802ef cyO6ad6e S h))⟩
theorem wSt_R_Z_row (cyI : ClassId) (cyZ : ClassId) (cyO40cd8 : ClassId) (cyO802ef : ClassId) (cyO6ad6e : ClassId) (S : wPS) {a : Nat} (h : S.K a = 10) (v : Nat → Int32) (b : Nat) : va_up (wPF cyI cyZ cyO40cd8 cyO802ef cyO6ad6e S) a (.inl (cyZ, S.R_Z.len a, .inl v)) b = wPF cyI cyZ cyO40cd8 cyO802ef cyO6ad6e { S with R_Z := { S.R_Z with row := va_up S.R_Z.row a v } } b := by by_cases hb : b = a <;> first | (simp only [wPF, va_up_ne _ _ hb]; done) | (simp only [wPF, va_up, if_neg hb]; done) | simp [wPF, va_re, va_up, va_rf, hb, h]
theorem wPu_R_Z_row (cyI : ClassId) (cyZ : ClassId) (cyO40cd8 : ClassId) (cyO802ef : ClassId) (cyO6ad6e : ClassId) (X : va_W) (S : wPS) {A : Nat → Prop} {a k : Nat} (hD : va_D A (X ++ va_pl S.L (wPF cyI cyZ cyO40cd8 cyO802ef cyO6ad6e S))) (hL : a ∈ S.L) (h : S.K a = 10) (hk : (X ++ va_pl S.L (wPF cyI cyZ cyO40cd8 cyO802ef cyO6ad6e S))[k]? = some (a, wPF cyI cyZ cyO40cd8 cyO802ef cyO6ad6e S a)) (v : Nat → Int32) : (X ++ va_pl S.L (wPF cyI cyZ cyO40cd8 cyO802ef cyO6ad6e S)).set k (a, .inl (cyZ, S.R_Z.len a, .inl v)) = X ++ va_pl S.L (wPF cyI cyZ cyO40cd8 cyO802ef cyO6ad6e { S with R_Z := { S.R_Z with row := va_up S.R_Z.row a v } }) := by
  rw [va_pl_set hD hL hk]
  exact congrArg (fun l => X ++ l) (va_pl_congr (wSt_R_Z_row cyI cyZ cyO40cd8 cyO802ef cyO6ad6e S h v))
theorem wNw_R_Z (cyI : ClassId) (cyZ : ClassId) (cyO40cd8 : ClassId) (cyO802ef : ClassId) (cyO6ad6e : ClassId) (S : wPS) (a : Nat) (z : Nat) (f : Nat → Int32) (b : Nat) : va_up (wPF cyI cyZ cyO40cd8 cyO802ef cyO6ad6e S) a (.inl (cyZ, z, .inl f)) b = wPF cyI cyZ cyO40cd8 cyO802ef cyO6ad6e { S with L := S.L ++ [a], K := va_up S.K a 10, R_Z := { len := va_up S.R_Z.len a z, row := va_up S.R_Z.row a f } } b := by by_cases hb : b = a <;> first | (simp only [wPF, va_up_ne _ _ hb]; done) | (simp only [wPF, va_up, if_neg hb]; done) | simp [wPF, va_re, va_up, va_rf, hb]
theorem wAt_R_Flow (cyI : ClassId) (cyZ : ClassId) (cyO40cd8 : ClassId) (cyO802ef : ClassId) (cyO6ad6e : ClassId) (S : wPS) {a : Nat} (h : S.K a = 11) : wPF cyI cyZ cyO40cd8 cyO802ef cyO6ad6e S a = .inl (cyO40cd8, S.R_Flow.len a, .inr (.inr (.inr (.inr (S.R_Flow.row a))))) := by simp [wPF, h]
theorem wGt_R_Flow (cyI : ClassId) (cyZ : ClassId) (cyO40cd8 : ClassId) (cyO802ef : ClassId) (cyO6ad6e : ClassId) (X : va_W) (S : wPS) {a : Nat} (hL : a ∈ S.L) (h : S.K a = 11) : ∃ k : Nat, (X ++ va_pl S.L (wPF cyI cyZ cyO40cd8 cyO802ef cyO6ad6e S))[k]? = some (a, wPF cyI cyZ cyO40cd8 cyO802ef cyO6ad6e S a) ∧ (X ++ va_pl S.L (wPF cyI cyZ cyO40cd8 cyO802ef cyO6ad6e S))[k]? = some (a, .inl (cyO40cd8, S.R_Flow.len a, .inr (.inr (.inr (.inr (S.R_Flow.row a)))))) := by
  obtain ⟨k, hk⟩ := va_pl_get (X := X) (f := wPF cyI cyZ cyO40cd8 cyO802ef cyO6ad6e S) hL
  exact ⟨k, hk, hk.trans (congrArg (fun e => some (a, e)) (wAt_R_Flow cyI cyZ cyO40cd8 cyO802ef cyO6ad6e S h))⟩
theorem wSt_R_Flow_row (cyI : ClassId) (cyZ : ClassId) (cyO40cd8 : ClassId) (cyO802ef : ClassId) (cyO6ad6e : ClassId) (S : wPS) {a : Nat} (h : S.K a = 11) (v : Nat → Option Nat) (b : Nat) : va_up (wPF cyI cyZ cyO40cd8 cyO802ef cyO6ad6e S) a (.inl (cyO40cd8, S.R_Flow.len a, .inr (.inr (.inr (.inr v))))) b = wPF cyI cyZ cyO40cd8 cyO802ef cyO6ad6e { S with R_Flow := { S.R_Flow with row := va_up S.R_Flow.row a v } } b := by by_cases hb : b = a <;> first | (simp only [wPF, va_up_ne _ _ hb]; done) | (simp only [wPF, va_up, if_neg hb]; done) | simp [wPF, va_re, va_up, va_rf, hb, h]
theorem wPu_R_Flow_row (cyI : ClassId) (cyZ : ClassId) (cyO40cd8 : ClassId) (cyO802ef : ClassId) (cyO6ad6e : ClassId) (X : va_W) (S : wPS) {A : Nat → Prop} {a k : Nat} (hD : va_D A (X ++ va_pl S.L (wPF cyI cyZ cyO40cd8 cyO802ef cyO6ad6e S))) (hL : a ∈ S.L) (h : S.K a = 11) (hk : (X ++ va_pl S.L (wPF cyI cyZ cyO40cd8 cyO802ef cyO6ad6e S))[k]? = some (a, wPF cyI cyZ cyO40cd8 cyO802ef cyO6ad6e S a)) (v : Nat → Option Nat) : (X ++ va_pl S.L (wPF cyI cyZ cyO40cd8 cyO802ef cyO6ad6e S)).set k (a, .inl (cyO40cd8, S.R_Flow.len a, .inr (.inr (.inr (.inr v))))) = X ++ va_pl S.L (wPF cyI cyZ cyO40cd8 cyO802ef cyO6ad6e { S with R_Flow := { S.R_Flow with row := va_up S.R_Flow.row a v } }) := by
  rw [va_pl_set hD hL hk]
  exact congrArg (fun l => X ++ l) (va_pl_congr (wSt_R_Flow_row cyI cyZ cyO40cd8 cyO802ef cyO6ad6e S h v))
theorem wNw_R_Flow (cyI : ClassId) (cyZ : ClassId) (cyO40cd8 : ClassId) (cyO802ef : ClassId) (cyO6ad6e : ClassId) (S : wPS) (a : Nat) (z : Nat) (f : Nat → Option Nat) (b : Nat) : va_up (wPF cyI cyZ cyO40cd8 cyO802ef cyO6ad6e S) a (.inl (cyO40cd8, z, .inr (.inr (.inr (.inr f))))) b = wPF cyI cyZ cyO40cd8 cyO802ef cyO6ad6e { S with L := S.L ++ [a], K := va_up S.K a 11, R_Flow := { len := va_up S.R_Flow.len a z, row := va_up S.R_Flow.row a f } } b := by by_cases hb : b = a <;> first | (simp only [wPF, va_up_ne _ _ hb]; done) | (simp only [wPF, va_up, if_neg hb]; done) | simp [wPF, va_re, va_up, va_rf, hb]
theorem wAt_R_Net (cyI : ClassId) (cyZ : ClassId) (cyO40cd8 : ClassId) (cyO802ef : ClassId) (cyO6ad6e : ClassId) (S : wPS) {a : Nat} (h : S.K a = 12) : wPF cyI cyZ cyO40cd8 cyO802ef cyO6ad6e S a = .inl (cyO802ef, S.R_Net.len a, .inr (.inr (.inr (.inr (S.R_Net.row a))))) := by simp [wPF, h]
theorem wGt_R_Net (cyI : ClassId) (cyZ : ClassId) (cyO40cd8 : ClassId) (cyO802ef : ClassId) (cyO6ad6e : ClassId) (X : va_W) (S : wPS) {a : Nat} (hL : a ∈ S.L) (h : S.K a = 12) : ∃ k : Nat, (X ++ va_pl S.L (wPF cyI cyZ cyO40cd8 cyO802ef cyO6ad6e S))[k]? = some (a, wPF cyI cyZ cyO40cd8 cyO802ef cyO6ad6e S a) ∧ (X ++ va_pl S.L (wPF cyI cyZ cyO40cd8 cyO802ef cyO6ad6e S))[k]? = some (a, .inl (cyO802ef, S.R_Net.len a, .inr (.inr (.inr (.inr (S.R_Net.row a)))))) := by
  obtain ⟨k, hk⟩ := va_pl_get (X := X) (f := wPF cyI cyZ cyO40cd8 cyO802ef cyO6ad6e S) hL
  exact ⟨k, hk, hk.trans (congrArg (fun e => some (a, e)) (wAt_R_Net cyI cyZ cyO40cd8 cyO802ef cyO6ad6e S h))⟩
theorem wSt_R_Net_row (cyI : ClassId) (cyZ : ClassId) (cyO40cd8 : ClassId) (cyO802ef : ClassId) (cyO6ad6e : ClassId) (S : wPS) {a : Nat} (h : S.K a = 12) (v : Nat → Option Nat) (b : Nat) : va_up (wPF cyI cyZ cyO40cd8 cyO802ef cyO6ad6e S) a (.inl (cyO802ef, S.R_Net.len a, .inr (.inr (.inr (.inr v))))) b = wPF cyI cyZ cyO40cd8 cyO802ef cyO6ad6e { S with R_Net := { S.R_Net with row := va_up S.R_Net.row a v } } b := by by_cases hb : b = a <;> first | (simp only [wPF, va_up_ne _ _ hb]; done) | (simp only [wPF, va_up, if_neg hb]; done) | simp [wPF, va_re, va_up, va_rf, hb, h]
theorem wPu_R_Net_row (cyI : ClassId) (cyZ : ClassId) (cyO40cd8 : ClassId) (cyO802ef : ClassId) (cyO6ad6e : ClassId) (X : va_W) (S : wPS) {A : Nat → Prop} {a k : Nat} (hD : va_D A (X ++ va_pl S.L (wPF cyI cyZ cyO40cd8 cyO802ef cyO6ad6e S))) (hL : a ∈ S.L) (h : S.K a = 12) (hk : (X ++ va_pl S.L (wPF cyI cyZ cyO40cd8 cyO802ef cyO6ad6e S))[k]? = some (a, wPF cyI cyZ cyO40cd8 cyO802ef cyO6ad6e S a)) (v : Nat → Option Nat) : (X ++ va_pl S.L (wPF cyI cyZ cyO40cd8 cyO802ef cyO6ad6e S)).set k (a, .inl (cyO802ef, S.R_Net.len a, .inr (.inr (.inr (.inr v))))) = X ++ va_pl S.L (wPF cyI cyZ cyO40cd8 cyO802ef cyO6ad6e { S with R_Net := { S.R_Net with row := va_up S.R_Net.row a v } }) := by
  rw [va_pl_set hD hL hk]
  exact congrArg (fun l => X ++ l) (va_pl_congr (wSt_R_Net_row cyI cyZ cyO40cd8 cyO802ef cyO6ad6e S h v))
theorem wNw_R_Net (cyI : ClassId) (cyZ : ClassId) (cyO40cd8 : ClassId) (cyO802ef : ClassId) (cyO6ad6e : ClassId) (S : wPS) (a : Nat) (z : Nat) (f : Nat → Option Nat) (b : Nat) : va_up (wPF cyI cyZ cyO40cd8 cyO802ef cyO6ad6e S) a (.inl (cyO802ef, z, .inr (.inr (.inr (.inr f))))) b = wPF cyI cyZ cyO40cd8 cyO802ef cyO6ad6e { S with L := S.L ++ [a], K := va_up S.K a 12, R_Net := { len := va_up S.R_Net.len a z, row := va_up S.R_Net.row a f } } b := by by_cases hb : b = a <;> first | (simp only [wPF, va_up_ne _ _ hb]; done) | (simp only [wPF, va_up, if_neg hb]; done) | simp [wPF, va_re, va_up, va_rf, hb]
theorem wAt_R_Port (cyI : ClassId) (cyZ : ClassId) (cyO40cd8 : ClassId) (cyO802ef : ClassId) (cyO6ad6e : ClassId) (S : wPS) {a : Nat} (h : S.K a = 13) : wPF cyI cyZ cyO40cd8 cyO802ef cyO6ad6e S a = .inl (cyO6ad6e, S.R_Port.len a, .inr (.inr (.inr (.inr (S.R_Port.row a))))) := by simp [wPF, h]
theorem wGt_R_Port (cyI : ClassId) (cyZ : ClassId) (cyO40cd8 : ClassId) (cyO802ef : ClassId) (cyO6ad6e : ClassId) (X : va_W) (S : wPS) {a : Nat} (hL : a ∈ S.L) (h : S.K a = 13) : ∃ k : Nat, (X ++ va_pl S.L (wPF cyI cyZ cyO40cd8 cyO802ef cyO6ad6e S))[k]? = some (a, wPF cyI cyZ cyO40cd8 cyO802ef cyO6ad6e S a) ∧ (X ++ va_pl S.L (wPF cyI cyZ cyO40cd8 cyO802ef cyO6ad6e S))[k]? = some (a, .inl (cyO6ad6e, S.R_Port.len a, .inr (.inr (.inr (.inr (S.R_Port.row a)))))) := by
  obtain ⟨k, hk⟩ := va_pl_get (X := X) (f := wPF cyI cyZ cyO40cd8 cyO802ef cyO6ad6e S) hL
  exact ⟨k, hk, hk.trans (congrArg (fun e => some (a, e)) (wAt_R_Port cyI cyZ cyO40cd8 cyO802ef cyO6ad6e S h))⟩
theorem wSt_R_Port_row (cyI : ClassId) (cyZ : ClassId) (cyO40cd8 : ClassId) (cyO802ef : ClassId) (cyO6ad6e : ClassId) (S : wPS) {a : Nat} (h : S.K a = 13) (v : Nat → Option Nat) (b : Nat) : va_up (wPF cyI cyZ cyO40cd8 cyO802ef cyO6ad6e S) a (.inl (cyO6ad6e, S.R_Port.len a, .inr (.inr (.inr (.inr v))))) b = wPF cyI cyZ cyO40cd8 cyO802ef cyO6ad6e { S with R_Port := { S.R_Port with row := va_up S.R_Port.row a v } } b := by by_cases hb : b = a <;> first | (simp only [wPF, va_up_ne _ _ hb]; done) | (simp only [wPF, va_up, if_neg hb]; done) | simp [wPF, va_re, va_up, va_rf, hb, h]
theorem wPu_R_Port_row (cyI : ClassId) (cyZ : ClassId) (cyO40cd8 : ClassId) (cyO802ef : ClassId) (cyO6ad6e : ClassId) (X : va_W) (S : wPS) {A : Nat → Prop} {a k : Nat} (hD : va_D A (X ++ va_pl S.L (wPF cyI cyZ cyO40cd8 cyO802ef cyO6ad6e S))) (hL : a ∈ S.L) (h : S.K a = 13) (hk : (X ++ va_pl S.L (wPF cyI cyZ cyO40cd8 cyO802ef cyO6ad6e S))[k]? = some (a, wPF cyI cyZ cyO40cd8 cyO802ef cyO6ad6e S a)) (v : Nat → Option Nat) : (X ++ va_pl S.L (wPF cyI cyZ cyO40cd8 cyO802ef cyO6ad6e S)).set k (a, .inl (cyO6ad6e, S.R_Port.len a, .inr (.inr (.inr (.inr v))))) = X ++ va_pl S.L (wPF cyI cyZ cyO40cd8 cyO802ef cyO6ad6e { S with R_Port := { S.R_Port with row := va_up S.R_Port.row a v } }) := by
  rw [va_pl_set hD hL hk]
  exact congrArg (fun l => X ++ l) (va_pl_congr (wSt_R_Port_row cyI cyZ cyO40cd8 cyO802ef cyO6ad6e S h v))
theorem wNw_R_Port (cyI : ClassId) (cyZ : ClassId) (cyO40cd8 : ClassId) (cyO802ef : ClassId) (cyO6ad6e : ClassId) (S : wPS) (a : Nat) (z : Nat) (f : Nat → Option Nat) (b : Nat) : va_up (wPF cyI cyZ cyO40cd8 cyO802ef cyO6ad6e S) a (.inl (cyO6ad6e, z, .inr (.inr (.inr (.inr f))))) b = wPF cyI cyZ cyO40cd8 cyO802ef cyO6ad6e { S with L := S.L ++ [a], K := va_up S.K a 13, R_Port := { len := va_up S.R_Port.len a z, row := va_up S.R_Port.row a f } } b := by by_cases hb : b = a <;> first | (simp only [wPF, va_up_ne _ _ hb]; done) | (simp only [wPF, va_up, if_neg hb]; done) | simp [wPF, va_re, va_up, va_rf, hb]
/-! ===== END printed: names ===== -/
end
