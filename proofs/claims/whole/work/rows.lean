section
-- ===== PART A: goes FIRST, ahead of the names: the tables' words, and 'selects' of the private methods out of them =====
/-- a private method of a class that the tables say can be made, by its rows of tables_1 -/
def lw_okq (q : MethodName × Nat) : Prop := (q.1.cls ≠ "java/lang/invoke/MethodHandle" ∧ q.1.cls ≠ "java/lang/invoke/VarHandle") ∧ Cond.instantiable q.1.cls q.2 ∈ tables_1 ∧ Cond.privateMethod q.1 ∈ tables_1 ∧ Cond.instanceMethod q.1 ∈ tables_1
theorem lw_p0 : lw_okq (⟨"BundledLinks$Net", "clear", "()V"⟩, 7) := ⟨⟨by decide +kernel, by decide +kernel⟩, List.mem_of_getElem? (i := 40) (by decide +kernel), List.mem_of_getElem? (i := 270) (by decide +kernel), List.mem_of_getElem? (i := 271) (by decide +kernel)⟩
theorem lw_p1 : lw_okq (⟨"BundledLinks$Net", "layItem", "(LBundledLinks$Text;I)V"⟩, 7) := ⟨⟨by decide +kernel, by decide +kernel⟩, List.mem_of_getElem? (i := 40) (by decide +kernel), List.mem_of_getElem? (i := 290) (by decide +kernel), List.mem_of_getElem? (i := 291) (by decide +kernel)⟩
theorem lw_p2 : lw_okq (⟨"BundledLinks$Net", "addLink", "(LBundledLinks$Text;I)V"⟩, 7) := ⟨⟨by decide +kernel, by decide +kernel⟩, List.mem_of_getElem? (i := 40) (by decide +kernel), List.mem_of_getElem? (i := 298) (by decide +kernel), List.mem_of_getElem? (i := 299) (by decide +kernel)⟩
theorem lw_p3 : lw_okq (⟨"BundledLinks$Text", "numbersOfItem", "(I)I"⟩, 2) := ⟨⟨by decide +kernel, by decide +kernel⟩, List.mem_of_getElem? (i := 24) (by decide +kernel), List.mem_of_getElem? (i := 319) (by decide +kernel), List.mem_of_getElem? (i := 320) (by decide +kernel)⟩
theorem lw_p4 : lw_okq (⟨"BundledLinks$Text", "isItem", "(I)Z"⟩, 2) := ⟨⟨by decide +kernel, by decide +kernel⟩, List.mem_of_getElem? (i := 24) (by decide +kernel), List.mem_of_getElem? (i := 363) (by decide +kernel), List.mem_of_getElem? (i := 364) (by decide +kernel)⟩
theorem lw_p5 : lw_okq (⟨"BundledLinks$Net", "stepOf", "(LBundledLinks$End;)V"⟩, 7) := ⟨⟨by decide +kernel, by decide +kernel⟩, List.mem_of_getElem? (i := 40) (by decide +kernel), List.mem_of_getElem? (i := 481) (by decide +kernel), List.mem_of_getElem? (i := 482) (by decide +kernel)⟩
theorem lw_p6 : lw_okq (⟨"BundledLinks$End", "decides", "()Z"⟩, 4) := ⟨⟨by decide +kernel, by decide +kernel⟩, List.mem_of_getElem? (i := 46) (by decide +kernel), List.mem_of_getElem? (i := 489) (by decide +kernel), List.mem_of_getElem? (i := 490) (by decide +kernel)⟩
theorem lw_p7 : lw_okq (⟨"BundledLinks$End", "bestOpen", "(ZLBundledLinks$Port;)LBundledLinks$Port;"⟩, 4) := ⟨⟨by decide +kernel, by decide +kernel⟩, List.mem_of_getElem? (i := 46) (by decide +kernel), List.mem_of_getElem? (i := 493) (by decide +kernel), List.mem_of_getElem? (i := 494) (by decide +kernel)⟩
theorem lw_p8 : lw_okq (⟨"BundledLinks$Port", "howNow", "(I)I"⟩, 11) := ⟨⟨by decide +kernel, by decide +kernel⟩, List.mem_of_getElem? (i := 53) (by decide +kernel), List.mem_of_getElem? (i := 513) (by decide +kernel), List.mem_of_getElem? (i := 514) (by decide +kernel)⟩
theorem lw_p9 : lw_okq (⟨"BundledLinks$Port", "known", "(I)I"⟩, 11) := ⟨⟨by decide +kernel, by decide +kernel⟩, List.mem_of_getElem? (i := 53) (by decide +kernel), List.mem_of_getElem? (i := 566) (by decide +kernel), List.mem_of_getElem? (i := 567) (by decide +kernel)⟩
theorem lw_p10 : lw_okq (⟨"BundledLinks", "placeOfFrames", "(II)I"⟩, 6) := ⟨⟨by decide +kernel, by decide +kernel⟩, List.mem_of_getElem? (i := 16) (by decide +kernel), List.mem_of_getElem? (i := 592) (by decide +kernel), List.mem_of_getElem? (i := 593) (by decide +kernel)⟩
theorem lw_p11 : lw_okq (⟨"BundledLinksModel", "clearsPlan", "()V"⟩, 18) := ⟨⟨by decide +kernel, by decide +kernel⟩, List.mem_of_getElem? (i := 617) (by decide +kernel), List.mem_of_getElem? (i := 623) (by decide +kernel), List.mem_of_getElem? (i := 624) (by decide +kernel)⟩
theorem lw_p12 : lw_okq (⟨"BundledLinksModel", "adds", "(IIII)V"⟩, 18) := ⟨⟨by decide +kernel, by decide +kernel⟩, List.mem_of_getElem? (i := 617) (by decide +kernel), List.mem_of_getElem? (i := 627) (by decide +kernel), List.mem_of_getElem? (i := 628) (by decide +kernel)⟩
theorem lw_p13 : lw_okq (⟨"BundledLinksModel", "lays", "()V"⟩, 18) := ⟨⟨by decide +kernel, by decide +kernel⟩, List.mem_of_getElem? (i := 617) (by decide +kernel), List.mem_of_getElem? (i := 631) (by decide +kernel), List.mem_of_getElem? (i := 632) (by decide +kernel)⟩
theorem lw_p14 : lw_okq (⟨"BundledLinksModel", "faultAt", "()I"⟩, 18) := ⟨⟨by decide +kernel, by decide +kernel⟩, List.mem_of_getElem? (i := 617) (by decide +kernel), List.mem_of_getElem? (i := 709) (by decide +kernel), List.mem_of_getElem? (i := 710) (by decide +kernel)⟩
theorem lw_p15 : lw_okq (⟨"BundledLinksModel", "isItem", "()Z"⟩, 18) := ⟨⟨by decide +kernel, by decide +kernel⟩, List.mem_of_getElem? (i := 617) (by decide +kernel), List.mem_of_getElem? (i := 713) (by decide +kernel), List.mem_of_getElem? (i := 714) (by decide +kernel)⟩
def lw_privs_1 : List (MethodName × Nat) := [(⟨"BundledLinks$Net", "clear", "()V"⟩, 7), (⟨"BundledLinks$Net", "layItem", "(LBundledLinks$Text;I)V"⟩, 7), (⟨"BundledLinks$Net", "addLink", "(LBundledLinks$Text;I)V"⟩, 7), (⟨"BundledLinks$Text", "numbersOfItem", "(I)I"⟩, 2), (⟨"BundledLinks$Text", "isItem", "(I)Z"⟩, 2), (⟨"BundledLinks$Net", "stepOf", "(LBundledLinks$End;)V"⟩, 7), (⟨"BundledLinks$End", "decides", "()Z"⟩, 4), (⟨"BundledLinks$End", "bestOpen", "(ZLBundledLinks$Port;)LBundledLinks$Port;"⟩, 4), (⟨"BundledLinks$Port", "howNow", "(I)I"⟩, 11), (⟨"BundledLinks$Port", "known", "(I)I"⟩, 11), (⟨"BundledLinks", "placeOfFrames", "(II)I"⟩, 6), (⟨"BundledLinksModel", "clearsPlan", "()V"⟩, 18), (⟨"BundledLinksModel", "adds", "(IIII)V"⟩, 18), (⟨"BundledLinksModel", "lays", "()V"⟩, 18), (⟨"BundledLinksModel", "faultAt", "()I"⟩, 18), (⟨"BundledLinksModel", "isItem", "()Z"⟩, 18)]
theorem lw_r1 : ∀ q ∈ lw_privs_1, lw_okq q := List.forall_mem_cons.mpr ⟨lw_p0, List.forall_mem_cons.mpr ⟨lw_p1, List.forall_mem_cons.mpr ⟨lw_p2, List.forall_mem_cons.mpr ⟨lw_p3, List.forall_mem_cons.mpr ⟨lw_p4, List.forall_mem_cons.mpr ⟨lw_p5, List.forall_mem_cons.mpr ⟨lw_p6, List.forall_mem_cons.mpr ⟨lw_p7, List.forall_mem_cons.mpr ⟨lw_p8, List.forall_mem_cons.mpr ⟨lw_p9, List.forall_mem_cons.mpr ⟨lw_p10, List.forall_mem_cons.mpr ⟨lw_p11, List.forall_mem_cons.mpr ⟨lw_p12, List.forall_mem_cons.mpr ⟨lw_p13, List.forall_mem_cons.mpr ⟨lw_p14, List.forall_mem_cons.mpr ⟨lw_p15, fun _ h => absurd h List.not_mem_nil⟩⟩⟩⟩⟩⟩⟩⟩⟩⟩⟩⟩⟩⟩⟩⟩
theorem lw_p16 : lw_okq (⟨"BundledLinksModel", "passes", "(I)Z"⟩, 18) := ⟨⟨by decide +kernel, by decide +kernel⟩, List.mem_of_getElem? (i := 617) (by decide +kernel), List.mem_of_getElem? (i := 717) (by decide +kernel), List.mem_of_getElem? (i := 718) (by decide +kernel)⟩
theorem lw_p17 : lw_okq (⟨"BundledLinksModel", "areFigures", "(I)Z"⟩, 18) := ⟨⟨by decide +kernel, by decide +kernel⟩, List.mem_of_getElem? (i := 617) (by decide +kernel), List.mem_of_getElem? (i := 721) (by decide +kernel), List.mem_of_getElem? (i := 722) (by decide +kernel)⟩
theorem lw_p18 : lw_okq (⟨"BundledLinksModel", "isLink", "(I)Z"⟩, 18) := ⟨⟨by decide +kernel, by decide +kernel⟩, List.mem_of_getElem? (i := 617) (by decide +kernel), List.mem_of_getElem? (i := 733) (by decide +kernel), List.mem_of_getElem? (i := 734) (by decide +kernel)⟩
theorem lw_p19 : lw_okq (⟨"BundledLinksModel", "keeps", "()V"⟩, 18) := ⟨⟨by decide +kernel, by decide +kernel⟩, List.mem_of_getElem? (i := 617) (by decide +kernel), List.mem_of_getElem? (i := 737) (by decide +kernel), List.mem_of_getElem? (i := 738) (by decide +kernel)⟩
theorem lw_p20 : lw_okq (⟨"BundledLinksModel", "upMany", "()I"⟩, 18) := ⟨⟨by decide +kernel, by decide +kernel⟩, List.mem_of_getElem? (i := 617) (by decide +kernel), List.mem_of_getElem? (i := 741) (by decide +kernel), List.mem_of_getElem? (i := 742) (by decide +kernel)⟩
theorem lw_p21 : lw_okq (⟨"BundledLinksModel", "becomes", "(II)I"⟩, 18) := ⟨⟨by decide +kernel, by decide +kernel⟩, List.mem_of_getElem? (i := 617) (by decide +kernel), List.mem_of_getElem? (i := 756) (by decide +kernel), List.mem_of_getElem? (i := 757) (by decide +kernel)⟩
theorem lw_p22 : lw_okq (⟨"BundledLinksModel", "sendingSet", "(I)I"⟩, 18) := ⟨⟨by decide +kernel, by decide +kernel⟩, List.mem_of_getElem? (i := 617) (by decide +kernel), List.mem_of_getElem? (i := 772) (by decide +kernel), List.mem_of_getElem? (i := 773) (by decide +kernel)⟩
theorem lw_p23 : lw_okq (⟨"BundledLinksModel", "isSending", "(II)Z"⟩, 18) := ⟨⟨by decide +kernel, by decide +kernel⟩, List.mem_of_getElem? (i := 617) (by decide +kernel), List.mem_of_getElem? (i := 776) (by decide +kernel), List.mem_of_getElem? (i := 777) (by decide +kernel)⟩
theorem lw_p24 : lw_okq (⟨"BundledLinksModel", "ticks", "()V"⟩, 18) := ⟨⟨by decide +kernel, by decide +kernel⟩, List.mem_of_getElem? (i := 617) (by decide +kernel), List.mem_of_getElem? (i := 784) (by decide +kernel), List.mem_of_getElem? (i := 785) (by decide +kernel)⟩
theorem lw_p25 : lw_okq (⟨"BundledLinksModel", "comes", "(II)V"⟩, 18) := ⟨⟨by decide +kernel, by decide +kernel⟩, List.mem_of_getElem? (i := 617) (by decide +kernel), List.mem_of_getElem? (i := 788) (by decide +kernel), List.mem_of_getElem? (i := 789) (by decide +kernel)⟩
theorem lw_p26 : lw_okq (⟨"BundledLinksModel", "knowsNothing", "(I)V"⟩, 18) := ⟨⟨by decide +kernel, by decide +kernel⟩, List.mem_of_getElem? (i := 617) (by decide +kernel), List.mem_of_getElem? (i := 792) (by decide +kernel), List.mem_of_getElem? (i := 793) (by decide +kernel)⟩
theorem lw_p27 : lw_okq (⟨"BundledLinksModel", "becomesHow", "(I)V"⟩, 18) := ⟨⟨by decide +kernel, by decide +kernel⟩, List.mem_of_getElem? (i := 617) (by decide +kernel), List.mem_of_getElem? (i := 796) (by decide +kernel), List.mem_of_getElem? (i := 797) (by decide +kernel)⟩
theorem lw_p28 : lw_okq (⟨"BundledLinksModel", "chooses", "(I)V"⟩, 18) := ⟨⟨by decide +kernel, by decide +kernel⟩, List.mem_of_getElem? (i := 617) (by decide +kernel), List.mem_of_getElem? (i := 800) (by decide +kernel), List.mem_of_getElem? (i := 801) (by decide +kernel)⟩
theorem lw_p29 : lw_okq (⟨"BundledLinksModel", "doesDecide", "(I)Z"⟩, 18) := ⟨⟨by decide +kernel, by decide +kernel⟩, List.mem_of_getElem? (i := 617) (by decide +kernel), List.mem_of_getElem? (i := 804) (by decide +kernel), List.mem_of_getElem? (i := 805) (by decide +kernel)⟩
theorem lw_p30 : lw_okq (⟨"BundledLinksModel", "isOpen", "(II)Z"⟩, 18) := ⟨⟨by decide +kernel, by decide +kernel⟩, List.mem_of_getElem? (i := 617) (by decide +kernel), List.mem_of_getElem? (i := 808) (by decide +kernel), List.mem_of_getElem? (i := 809) (by decide +kernel)⟩
theorem lw_p31 : lw_okq (⟨"BundledLinksModel", "ahead", "(IIIZ)I"⟩, 18) := ⟨⟨by decide +kernel, by decide +kernel⟩, List.mem_of_getElem? (i := 617) (by decide +kernel), List.mem_of_getElem? (i := 812) (by decide +kernel), List.mem_of_getElem? (i := 813) (by decide +kernel)⟩
def lw_privs_2 : List (MethodName × Nat) := [(⟨"BundledLinksModel", "passes", "(I)Z"⟩, 18), (⟨"BundledLinksModel", "areFigures", "(I)Z"⟩, 18), (⟨"BundledLinksModel", "isLink", "(I)Z"⟩, 18), (⟨"BundledLinksModel", "keeps", "()V"⟩, 18), (⟨"BundledLinksModel", "upMany", "()I"⟩, 18), (⟨"BundledLinksModel", "becomes", "(II)I"⟩, 18), (⟨"BundledLinksModel", "sendingSet", "(I)I"⟩, 18), (⟨"BundledLinksModel", "isSending", "(II)Z"⟩, 18), (⟨"BundledLinksModel", "ticks", "()V"⟩, 18), (⟨"BundledLinksModel", "comes", "(II)V"⟩, 18), (⟨"BundledLinksModel", "knowsNothing", "(I)V"⟩, 18), (⟨"BundledLinksModel", "becomesHow", "(I)V"⟩, 18), (⟨"BundledLinksModel", "chooses", "(I)V"⟩, 18), (⟨"BundledLinksModel", "doesDecide", "(I)Z"⟩, 18), (⟨"BundledLinksModel", "isOpen", "(II)Z"⟩, 18), (⟨"BundledLinksModel", "ahead", "(IIIZ)I"⟩, 18)]
theorem lw_r2 : ∀ q ∈ lw_privs_2, lw_okq q := List.forall_mem_cons.mpr ⟨lw_p16, List.forall_mem_cons.mpr ⟨lw_p17, List.forall_mem_cons.mpr ⟨lw_p18, List.forall_mem_cons.mpr ⟨lw_p19, List.forall_mem_cons.mpr ⟨lw_p20, List.forall_mem_cons.mpr ⟨lw_p21, List.forall_mem_cons.mpr ⟨lw_p22, List.forall_mem_cons.mpr ⟨lw_p23, List.forall_mem_cons.mpr ⟨lw_p24, List.forall_mem_cons.mpr ⟨lw_p25, List.forall_mem_cons.mpr ⟨lw_p26, List.forall_mem_cons.mpr ⟨lw_p27, List.forall_mem_cons.mpr ⟨lw_p28, List.forall_mem_cons.mpr ⟨lw_p29, List.forall_mem_cons.mpr ⟨lw_p30, List.forall_mem_cons.mpr ⟨lw_p31, fun _ h => absurd h List.not_mem_nil⟩⟩⟩⟩⟩⟩⟩⟩⟩⟩⟩⟩⟩⟩⟩⟩
theorem lw_p32 : lw_okq (⟨"BundledLinksModel", "isPair", "(III)Z"⟩, 18) := ⟨⟨by decide +kernel, by decide +kernel⟩, List.mem_of_getElem? (i := 617) (by decide +kernel), List.mem_of_getElem? (i := 816) (by decide +kernel), List.mem_of_getElem? (i := 817) (by decide +kernel)⟩
theorem lw_p33 : lw_okq (⟨"BundledLinksModel", "howOf", "(II)I"⟩, 18) := ⟨⟨by decide +kernel, by decide +kernel⟩, List.mem_of_getElem? (i := 617) (by decide +kernel), List.mem_of_getElem? (i := 820) (by decide +kernel), List.mem_of_getElem? (i := 821) (by decide +kernel)⟩
theorem lw_p34 : lw_okq (⟨"BundledLinksModel", "sends", "(II)V"⟩, 18) := ⟨⟨by decide +kernel, by decide +kernel⟩, List.mem_of_getElem? (i := 617) (by decide +kernel), List.mem_of_getElem? (i := 824) (by decide +kernel), List.mem_of_getElem? (i := 825) (by decide +kernel)⟩
theorem lw_p35 : lw_okq (⟨"BundledLinksModel", "deals", "(II)V"⟩, 18) := ⟨⟨by decide +kernel, by decide +kernel⟩, List.mem_of_getElem? (i := 617) (by decide +kernel), List.mem_of_getElem? (i := 828) (by decide +kernel), List.mem_of_getElem? (i := 829) (by decide +kernel)⟩
theorem lw_p36 : lw_okq (⟨"BundledLinksModel", "wants", "(II)I"⟩, 18) := ⟨⟨by decide +kernel, by decide +kernel⟩, List.mem_of_getElem? (i := 617) (by decide +kernel), List.mem_of_getElem? (i := 832) (by decide +kernel), List.mem_of_getElem? (i := 833) (by decide +kernel)⟩
theorem lw_p37 : lw_okq (⟨"BundledLinksModel", "tellLink", "(II)I"⟩, 18) := ⟨⟨by decide +kernel, by decide +kernel⟩, List.mem_of_getElem? (i := 617) (by decide +kernel), List.mem_of_getElem? (i := 841) (by decide +kernel), List.mem_of_getElem? (i := 842) (by decide +kernel)⟩
theorem lw_p38 : lw_okq (⟨"BundledLinksModel", "fewest", "()I"⟩, 18) := ⟨⟨by decide +kernel, by decide +kernel⟩, List.mem_of_getElem? (i := 617) (by decide +kernel), List.mem_of_getElem? (i := 868) (by decide +kernel), List.mem_of_getElem? (i := 869) (by decide +kernel)⟩
theorem lw_p39 : lw_okq (⟨"BundledLinksModel", "isOther", "()Z"⟩, 18) := ⟨⟨by decide +kernel, by decide +kernel⟩, List.mem_of_getElem? (i := 617) (by decide +kernel), List.mem_of_getElem? (i := 872) (by decide +kernel), List.mem_of_getElem? (i := 873) (by decide +kernel)⟩
def lw_privs_3 : List (MethodName × Nat) := [(⟨"BundledLinksModel", "isPair", "(III)Z"⟩, 18), (⟨"BundledLinksModel", "howOf", "(II)I"⟩, 18), (⟨"BundledLinksModel", "sends", "(II)V"⟩, 18), (⟨"BundledLinksModel", "deals", "(II)V"⟩, 18), (⟨"BundledLinksModel", "wants", "(II)I"⟩, 18), (⟨"BundledLinksModel", "tellLink", "(II)I"⟩, 18), (⟨"BundledLinksModel", "fewest", "()I"⟩, 18), (⟨"BundledLinksModel", "isOther", "()Z"⟩, 18)]
theorem lw_r3 : ∀ q ∈ lw_privs_3, lw_okq q := List.forall_mem_cons.mpr ⟨lw_p32, List.forall_mem_cons.mpr ⟨lw_p33, List.forall_mem_cons.mpr ⟨lw_p34, List.forall_mem_cons.mpr ⟨lw_p35, List.forall_mem_cons.mpr ⟨lw_p36, List.forall_mem_cons.mpr ⟨lw_p37, List.forall_mem_cons.mpr ⟨lw_p38, List.forall_mem_cons.mpr ⟨lw_p39, fun _ h => absurd h List.not_mem_nil⟩⟩⟩⟩⟩⟩⟩⟩
def lw_privs : List (MethodName × Nat) := lw_privs_1 ++ (lw_privs_2 ++ (lw_privs_3))
def lw_tbl : List Cond := k2_sels lw_privs ++ tables_1
theorem lw_privs_ok : ∀ q ∈ lw_privs, lw_okq q := by
  show ∀ q ∈ lw_privs_1 ++ (lw_privs_2 ++ (lw_privs_3)), lw_okq q
  exact List.forall_mem_append.mpr ⟨lw_r1, List.forall_mem_append.mpr ⟨lw_r2, lw_r3⟩⟩
-- ===== end of PART A; then your names; then what follows =====
end
section
/-! ===== BEGIN words of one list among another's, by their places ===== -/
theorem goodIn_r {big : List Cond} (ws : List Cond) (ps : List Nat) (hp : ws = ps.filterMap (fun i => big[i]?)) (h : ws.all goodWord = true) : GoodIn big ws := by
  intro w hw
  have h1 := List.all_eq_true.mp h w hw
  rw [hp] at hw
  obtain ⟨i, -, hi⟩ := List.mem_filterMap.mp hw
  have hm : w ∈ big := by first | exact List.mem_of_getElem? hi | exact List.getElem?_mem hi
  exact ⟨hm, good_of_word h1⟩
theorem goodIn_app {big a b : List Cond} (ha : GoodIn big a) (hb : GoodIn big b) : GoodIn big (a ++ b) := fun w h => (List.mem_append.mp h).elim (ha w) (hb w)
theorem goodIn_ca {big a b : List Cond} {c : Cond} (ha : GoodIn big (c :: a)) (hb : GoodIn big b) : GoodIn big (c :: (a ++ b)) := fun w h => (List.mem_cons.mp h).elim (fun e => ha w (List.mem_cons.mpr (Or.inl e))) (fun h => (List.mem_append.mp h).elim (fun h => ha w (List.mem_cons.mpr (Or.inr h))) (hb w))
theorem goodIn_sub {big ws : List Cond} (hm : ∀ w ∈ ws, w ∈ big) (h : ws.all goodWord = true) : GoodIn big ws := fun w hw => ⟨hm w hw, good_of_word (List.all_eq_true.mp h w hw)⟩
/-! ===== END ===== -/

/-! ===== BEGIN printed: names, fields, word lists, decode rows ===== -/
def RX0 : String := "BundledLinks$End"
def TX0 : u_T := fun k => match k with
  | 0 => ("BundledLinks$End", "number", "I", true)
  | 1 => ("BundledLinks$End", "rank", "I", false)
  | 2 => ("BundledLinks$End", "ports", "[LBundledLinks$Port;", true)
  | _ => ("BundledLinks$End", "flows", "[LBundledLinks$Flow;", true)
def tyX0 : Nat → FieldType := fun k => match k with
  | 0 => .int
  | 1 => .int
  | 2 => .array (.object "BundledLinks$Port")
  | _ => .array (.object "BundledLinks$Flow")
abbrev wsX00 : List Cond := u_ws RX0 TX0 4
theorem nmX0 : ∀ a, a < 4 → ∀ b, b < 4 → a ≠ b → (TX0 a).2.1 ≠ (TX0 b).2.1 := by decide +kernel
theorem tyX0_ok : ∀ k, k < 4 → parseFieldDescriptor (TX0 k).2.2.1 = some (tyX0 k) := by decide +kernel
abbrev cX0_init : ByteArray := prog_2_method_1_code
def yX0_init : MethodName := ⟨RX0, "<init>", "(I)V"⟩
abbrev cX0_clear : ByteArray := prog_2_method_2_code
def yX0_clear : MethodName := ⟨RX0, "clear", "()V"⟩
abbrev cX0_copyFrom : ByteArray := prog_2_method_3_code
def yX0_copyFrom : MethodName := ⟨RX0, "copyFrom", "(LBundledLinks$End;)V"⟩
abbrev cX0_looksLike : ByteArray := prog_2_method_4_code
def yX0_looksLike : MethodName := ⟨RX0, "looksLike", "(LBundledLinks$End;)Z"⟩
abbrev cX0_portAt : ByteArray := prog_2_method_5_code
def yX0_portAt : MethodName := ⟨RX0, "portAt", "(I)LBundledLinks$Port;"⟩
abbrev cX0_flowAt : ByteArray := prog_2_method_6_code
def yX0_flowAt : MethodName := ⟨RX0, "flowAt", "(I)LBundledLinks$Flow;"⟩
abbrev cX0_hearFrom : ByteArray := prog_2_method_7_code
def yX0_hearFrom : MethodName := ⟨RX0, "hearFrom", "(LBundledLinks$End;)V"⟩
abbrev cX0_choose : ByteArray := prog_2_method_8_code
def yX0_choose : MethodName := ⟨RX0, "choose", "(I)V"⟩
abbrev cX0_decides : ByteArray := prog_2_method_9_code
def yX0_decides : MethodName := ⟨RX0, "decides", "()Z"⟩
abbrev cX0_bestOpen : ByteArray := prog_2_method_10_code
def yX0_bestOpen : MethodName := ⟨RX0, "bestOpen", "(ZLBundledLinks$Port;)LBundledLinks$Port;"⟩
abbrev cX0_judgeAndSay : ByteArray := prog_2_method_11_code
def yX0_judgeAndSay : MethodName := ⟨RX0, "judgeAndSay", "(I)V"⟩
abbrev cX0_dealFlows : ByteArray := prog_2_method_12_code
def yX0_dealFlows : MethodName := ⟨RX0, "dealFlows", "(I)V"⟩
abbrev cX0_wantedBy : ByteArray := prog_2_method_13_code
def yX0_wantedBy : MethodName := ⟨RX0, "wantedBy", "(II)I"⟩
abbrev cX0_howManySending : ByteArray := prog_2_method_14_code
def yX0_howManySending : MethodName := ⟨RX0, "howManySending", "()I"⟩
abbrev cX0_howManyUp : ByteArray := prog_2_method_15_code
def yX0_howManyUp : MethodName := ⟨RX0, "howManyUp", "()I"⟩
abbrev cX0_howManyMuted : ByteArray := prog_2_method_16_code
def yX0_howManyMuted : MethodName := ⟨RX0, "howManyMuted", "()I"⟩
abbrev cX0_bits : ByteArray := prog_2_method_17_code
def yX0_bits : MethodName := ⟨RX0, "bits", "(I)I"⟩
def RX1 : String := "BundledLinks$Flow"
def TX1 : u_T := fun k => match k with
  | 0 => ("BundledLinks$Flow", "link", "I", false)
  | _ => ("BundledLinks$Flow", "held", "I", false)
def tyX1 : Nat → FieldType := fun k => match k with
  | 0 => .int
  | _ => .int
abbrev wsX10 : List Cond := u_ws RX1 TX1 2
theorem nmX1 : ∀ a, a < 2 → ∀ b, b < 2 → a ≠ b → (TX1 a).2.1 ≠ (TX1 b).2.1 := by decide +kernel
theorem tyX1_ok : ∀ k, k < 2 → parseFieldDescriptor (TX1 k).2.2.1 = some (tyX1 k) := by decide +kernel
abbrev cX1_init : ByteArray := prog_3_method_1_code
def yX1_init : MethodName := ⟨RX1, "<init>", "()V"⟩
abbrev cX1_clear : ByteArray := prog_3_method_2_code
def yX1_clear : MethodName := ⟨RX1, "clear", "()V"⟩
abbrev cX1_copyFrom : ByteArray := prog_3_method_3_code
def yX1_copyFrom : MethodName := ⟨RX1, "copyFrom", "(LBundledLinks$Flow;)V"⟩
abbrev cX1_deal : ByteArray := prog_3_method_4_code
def yX1_deal : MethodName := ⟨RX1, "deal", "(II)V"⟩
def RX2 : String := "BundledLinks$History"
def TX2 : u_T := fun k => match k with
  | 0 => ("BundledLinks$History", "kept", "[LBundledLinks$Net;", true)
  | 1 => ("BundledLinks$History", "next", "I", false)
  | _ => ("BundledLinks$History", "size", "I", false)
def tyX2 : Nat → FieldType := fun k => match k with
  | 0 => .array (.object "BundledLinks$Net")
  | 1 => .int
  | _ => .int
abbrev wsX20 : List Cond := u_ws RX2 TX2 3
theorem nmX2 : ∀ a, a < 3 → ∀ b, b < 3 → a ≠ b → (TX2 a).2.1 ≠ (TX2 b).2.1 := by decide +kernel
theorem tyX2_ok : ∀ k, k < 3 → parseFieldDescriptor (TX2 k).2.2.1 = some (tyX2 k) := by decide +kernel
abbrev cX2_init : ByteArray := prog_4_method_1_code
def yX2_init : MethodName := ⟨RX2, "<init>", "()V"⟩
abbrev cX2_clear : ByteArray := prog_4_method_2_code
def yX2_clear : MethodName := ⟨RX2, "clear", "()V"⟩
abbrev cX2_keep : ByteArray := prog_4_method_3_code
def yX2_keep : MethodName := ⟨RX2, "keep", "(LBundledLinks$Net;)V"⟩
abbrev cX2_takeLatest : ByteArray := prog_4_method_4_code
def yX2_takeLatest : MethodName := ⟨RX2, "takeLatest", "()LBundledLinks$Net;"⟩
def RX3 : String := "BundledLinks$Message"
def TX3 : u_T := fun k => match k with
  | 0 => ("BundledLinks$Message", "there", "Z", false)
  | 1 => ("BundledLinks$Message", "key", "I", false)
  | 2 => ("BundledLinks$Message", "priority", "I", false)
  | 3 => ("BundledLinks$Message", "rank", "I", false)
  | _ => ("BundledLinks$Message", "sync", "Z", false)
def tyX3 : Nat → FieldType := fun k => match k with
  | 0 => .boolean
  | 1 => .int
  | 2 => .int
  | 3 => .int
  | _ => .boolean
abbrev wsX30 : List Cond := u_ws RX3 TX3 5
theorem nmX3 : ∀ a, a < 5 → ∀ b, b < 5 → a ≠ b → (TX3 a).2.1 ≠ (TX3 b).2.1 := by decide +kernel
theorem tyX3_ok : ∀ k, k < 5 → parseFieldDescriptor (TX3 k).2.2.1 = some (tyX3 k) := by decide +kernel
abbrev cX3_init : ByteArray := prog_5_method_1_code
def yX3_init : MethodName := ⟨RX3, "<init>", "()V"⟩
abbrev cX3_clear : ByteArray := prog_5_method_2_code
def yX3_clear : MethodName := ⟨RX3, "clear", "()V"⟩
abbrev cX3_copyFrom : ByteArray := prog_5_method_3_code
def yX3_copyFrom : MethodName := ⟨RX3, "copyFrom", "(LBundledLinks$Message;)V"⟩
def RX4 : String := "BundledLinks$Net"
def TX4 : u_T := fun k => match k with
  | 0 => ("BundledLinks$Net", "zero", "LBundledLinks$End;", true)
  | 1 => ("BundledLinks$Net", "one", "LBundledLinks$End;", true)
  | 2 => ("BundledLinks$Net", "links", "I", false)
  | 3 => ("BundledLinks$Net", "most", "I", false)
  | 4 => ("BundledLinks$Net", "wait", "I", false)
  | 5 => ("BundledLinks$Net", "drain", "I", false)
  | _ => ("BundledLinks$Net", "ticks", "I", false)
def tyX4 : Nat → FieldType := fun k => match k with
  | 0 => .object "BundledLinks$End"
  | 1 => .object "BundledLinks$End"
  | 2 => .int
  | 3 => .int
  | 4 => .int
  | 5 => .int
  | _ => .int
abbrev wsX40 : List Cond := u_ws RX4 TX4 7
theorem nmX4 : ∀ a, a < 7 → ∀ b, b < 7 → a ≠ b → (TX4 a).2.1 ≠ (TX4 b).2.1 := by decide +kernel
theorem tyX4_ok : ∀ k, k < 7 → parseFieldDescriptor (TX4 k).2.2.1 = some (tyX4 k) := by decide +kernel
abbrev cX4_init : ByteArray := prog_6_method_1_code
def yX4_init : MethodName := ⟨RX4, "<init>", "()V"⟩
abbrev cX4_clear : ByteArray := prog_6_method_2_code
def yX4_clear : MethodName := ⟨RX4, "clear", "()V"⟩
abbrev cX4_copyFrom : ByteArray := prog_6_method_3_code
def yX4_copyFrom : MethodName := ⟨RX4, "copyFrom", "(LBundledLinks$Net;)V"⟩
abbrev cX4_looksLike : ByteArray := prog_6_method_4_code
def yX4_looksLike : MethodName := ⟨RX4, "looksLike", "(LBundledLinks$Net;)Z"⟩
abbrev cX4_endOf : ByteArray := prog_6_method_5_code
def yX4_endOf : MethodName := ⟨RX4, "endOf", "(I)LBundledLinks$End;"⟩
abbrev cX4_portOf : ByteArray := prog_6_method_6_code
def yX4_portOf : MethodName := ⟨RX4, "portOf", "(II)LBundledLinks$Port;"⟩
abbrev cX4_flowOf : ByteArray := prog_6_method_7_code
def yX4_flowOf : MethodName := ⟨RX4, "flowOf", "(II)LBundledLinks$Flow;"⟩
abbrev cX4_plugLink : ByteArray := prog_6_method_8_code
def yX4_plugLink : MethodName := ⟨RX4, "plugLink", "(IZ)V"⟩
abbrev cX4_setting : ByteArray := prog_6_method_9_code
def yX4_setting : MethodName := ⟨RX4, "setting", "(I)I"⟩
abbrev cX4_changeSetting : ByteArray := prog_6_method_10_code
def yX4_changeSetting : MethodName := ⟨RX4, "changeSetting", "(II)V"⟩
abbrev cX4_step : ByteArray := prog_6_method_11_code
def yX4_step : MethodName := ⟨RX4, "step", "()V"⟩
abbrev cX4_stepOf : ByteArray := prog_6_method_12_code
def yX4_stepOf : MethodName := ⟨RX4, "stepOf", "(LBundledLinks$End;)V"⟩
abbrev cX4_layOut : ByteArray := prog_6_method_13_code
def yX4_layOut : MethodName := ⟨RX4, "layOut", "(LBundledLinks$Text;)V"⟩
abbrev cX4_layItem : ByteArray := prog_6_method_14_code
def yX4_layItem : MethodName := ⟨RX4, "layItem", "(LBundledLinks$Text;I)V"⟩
abbrev cX4_addLink : ByteArray := prog_6_method_15_code
def yX4_addLink : MethodName := ⟨RX4, "addLink", "(LBundledLinks$Text;I)V"⟩
def RX5 : String := "BundledLinks$Port"
def TX5 : u_T := fun k => match k with
  | 0 => ("BundledLinks$Port", "up", "Z", false)
  | 1 => ("BundledLinks$Port", "muted", "Z", false)
  | 2 => ("BundledLinks$Port", "key", "I", false)
  | 3 => ("BundledLinks$Port", "priority", "I", false)
  | 4 => ("BundledLinks$Port", "heard", "LBundledLinks$Message;", true)
  | 5 => ("BundledLinks$Port", "said", "LBundledLinks$Message;", true)
  | 6 => ("BundledLinks$Port", "age", "I", false)
  | 7 => ("BundledLinks$Port", "how", "I", false)
  | 8 => ("BundledLinks$Port", "chosen", "Z", false)
  | 9 => ("BundledLinks$Port", "chosenFor", "I", false)
  | _ => ("BundledLinks$Port", "begun", "I", false)
def tyX5 : Nat → FieldType := fun k => match k with
  | 0 => .boolean
  | 1 => .boolean
  | 2 => .int
  | 3 => .int
  | 4 => .object "BundledLinks$Message"
  | 5 => .object "BundledLinks$Message"
  | 6 => .int
  | 7 => .int
  | 8 => .boolean
  | 9 => .int
  | _ => .int
abbrev wsX50 : List Cond := u_ws RX5 TX5 11
theorem nmX5 : ∀ a, a < 11 → ∀ b, b < 11 → a ≠ b → (TX5 a).2.1 ≠ (TX5 b).2.1 := by decide +kernel
theorem tyX5_ok : ∀ k, k < 11 → parseFieldDescriptor (TX5 k).2.2.1 = some (tyX5 k) := by decide +kernel
abbrev cX5_init : ByteArray := prog_7_method_1_code
def yX5_init : MethodName := ⟨RX5, "<init>", "()V"⟩
abbrev cX5_clear : ByteArray := prog_7_method_2_code
def yX5_clear : MethodName := ⟨RX5, "clear", "()V"⟩
abbrev cX5_begin : ByteArray := prog_7_method_3_code
def yX5_begin : MethodName := ⟨RX5, "begin", "(II)V"⟩
abbrev cX5_copyFrom : ByteArray := prog_7_method_4_code
def yX5_copyFrom : MethodName := ⟨RX5, "copyFrom", "(LBundledLinks$Port;)V"⟩
abbrev cX5_hear : ByteArray := prog_7_method_5_code
def yX5_hear : MethodName := ⟨RX5, "hear", "(LBundledLinks$Message;)V"⟩
abbrev cX5_priorityBy : ByteArray := prog_7_method_6_code
def yX5_priorityBy : MethodName := ⟨RX5, "priorityBy", "(Z)I"⟩
abbrev cX5_hasPairOf : ByteArray := prog_7_method_7_code
def yX5_hasPairOf : MethodName := ⟨RX5, "hasPairOf", "(LBundledLinks$Port;)Z"⟩
abbrev cX5_judge : ByteArray := prog_7_method_8_code
def yX5_judge : MethodName := ⟨RX5, "judge", "(I)V"⟩
abbrev cX5_howNow : ByteArray := prog_7_method_9_code
def yX5_howNow : MethodName := ⟨RX5, "howNow", "(I)I"⟩
abbrev cX5_say : ByteArray := prog_7_method_10_code
def yX5_say : MethodName := ⟨RX5, "say", "(I)V"⟩
abbrev cX5_look : ByteArray := prog_7_method_11_code
def yX5_look : MethodName := ⟨RX5, "look", "(I)I"⟩
abbrev cX5_known : ByteArray := prog_7_method_12_code
def yX5_known : MethodName := ⟨RX5, "known", "(I)I"⟩
abbrev cX5_isOf : ByteArray := prog_7_method_13_code
def yX5_isOf : MethodName := ⟨RX5, "isOf", "(I)Z"⟩
def RX6 : String := "BundledLinks$Text"
def TX6 : u_T := fun k => match k with
  | 0 => ("BundledLinks$Text", "letters", "[I", true)
  | _ => ("BundledLinks$Text", "size", "I", false)
def tyX6 : Nat → FieldType := fun k => match k with
  | 0 => .array .int
  | _ => .int
abbrev wsX60 : List Cond := u_ws RX6 TX6 2
theorem nmX6 : ∀ a, a < 2 → ∀ b, b < 2 → a ≠ b → (TX6 a).2.1 ≠ (TX6 b).2.1 := by decide +kernel
theorem tyX6_ok : ∀ k, k < 2 → parseFieldDescriptor (TX6 k).2.2.1 = some (tyX6 k) := by decide +kernel
abbrev cX6_init : ByteArray := prog_8_method_1_code
def yX6_init : MethodName := ⟨RX6, "<init>", "()V"⟩
abbrev cX6_add : ByteArray := prog_8_method_2_code
def yX6_add : MethodName := ⟨RX6, "add", "(I)Z"⟩
abbrev cX6_clear : ByteArray := prog_8_method_3_code
def yX6_clear : MethodName := ⟨RX6, "clear", "()V"⟩
abbrev cX6_letterAt : ByteArray := prog_8_method_4_code
def yX6_letterAt : MethodName := ⟨RX6, "letterAt", "(I)I"⟩
abbrev cX6_firstFault : ByteArray := prog_8_method_5_code
def yX6_firstFault : MethodName := ⟨RX6, "firstFault", "()I"⟩
abbrev cX6_tellsLink : ByteArray := prog_8_method_6_code
def yX6_tellsLink : MethodName := ⟨RX6, "tellsLink", "()Z"⟩
abbrev cX6_isItem : ByteArray := prog_8_method_7_code
def yX6_isItem : MethodName := ⟨RX6, "isItem", "(I)Z"⟩
abbrev cX6_numbersOfItem : ByteArray := prog_8_method_8_code
def yX6_numbersOfItem : MethodName := ⟨RX6, "numbersOfItem", "(I)I"⟩
abbrev cX6_lengthOfItem : ByteArray := prog_8_method_9_code
def yX6_lengthOfItem : MethodName := ⟨RX6, "lengthOfItem", "(I)I"⟩
abbrev cX6_number : ByteArray := prog_8_method_10_code
def yX6_number : MethodName := ⟨RX6, "number", "(II)I"⟩
def RX7 : String := "BundledLinks"
def TX7 : u_T := fun k => match k with
  | 0 => ("BundledLinks", "text", "LBundledLinks$Text;", true)
  | 1 => ("BundledLinks", "net", "LBundledLinks$Net;", true)
  | 2 => ("BundledLinks", "history", "LBundledLinks$History;", true)
  | 3 => ("BundledLinks", "went", "[I", true)
  | 4 => ("BundledLinks", "trial", "LBundledLinks$Net;", true)
  | _ => ("BundledLinks", "mark", "LBundledLinks$Net;", true)
def tyX7 : Nat → FieldType := fun k => match k with
  | 0 => .object "BundledLinks$Text"
  | 1 => .object "BundledLinks$Net"
  | 2 => .object "BundledLinks$History"
  | 3 => .array .int
  | 4 => .object "BundledLinks$Net"
  | _ => .object "BundledLinks$Net"
abbrev wsX70 : List Cond := u_ws RX7 TX7 6
theorem nmX7 : ∀ a, a < 6 → ∀ b, b < 6 → a ≠ b → (TX7 a).2.1 ≠ (TX7 b).2.1 := by decide +kernel
theorem tyX7_ok : ∀ k, k < 6 → parseFieldDescriptor (TX7 k).2.2.1 = some (tyX7 k) := by decide +kernel
abbrev cX7_init : ByteArray := prog_1_method_1_code
def yX7_init : MethodName := ⟨RX7, "<init>", "()V"⟩
abbrev cX7_write : ByteArray := prog_1_method_2_code
def yX7_write : MethodName := ⟨RX7, "write", "(I)I"⟩
abbrev cX7_wipe : ByteArray := prog_1_method_3_code
def yX7_wipe : MethodName := ⟨RX7, "wipe", "()I"⟩
abbrev cX7_fault : ByteArray := prog_1_method_4_code
def yX7_fault : MethodName := ⟨RX7, "fault", "()I"⟩
abbrev cX7_lay : ByteArray := prog_1_method_5_code
def yX7_lay : MethodName := ⟨RX7, "lay", "()I"⟩
abbrev cX7_plug : ByteArray := prog_1_method_6_code
def yX7_plug : MethodName := ⟨RX7, "plug", "(II)I"⟩
abbrev cX7_mute : ByteArray := prog_1_method_7_code
def yX7_mute : MethodName := ⟨RX7, "mute", "(III)I"⟩
abbrev cX7_tell : ByteArray := prog_1_method_8_code
def yX7_tell : MethodName := ⟨RX7, "tell", "(IIII)I"⟩
abbrev cX7_set : ByteArray := prog_1_method_9_code
def yX7_set : MethodName := ⟨RX7, "set", "(II)I"⟩
abbrev cX7_tick : ByteArray := prog_1_method_10_code
def yX7_tick : MethodName := ⟨RX7, "tick", "(I)I"⟩
abbrev cX7_undo : ByteArray := prog_1_method_11_code
def yX7_undo : MethodName := ⟨RX7, "undo", "()I"⟩
abbrev cX7_link : ByteArray := prog_1_method_12_code
def yX7_link : MethodName := ⟨RX7, "link", "(III)I"⟩
abbrev cX7_bundle : ByteArray := prog_1_method_13_code
def yX7_bundle : MethodName := ⟨RX7, "bundle", "(II)I"⟩
abbrev cX7_flow : ByteArray := prog_1_method_14_code
def yX7_flow : MethodName := ⟨RX7, "flow", "(III)I"⟩
abbrev cX7_frame : ByteArray := prog_1_method_15_code
def yX7_frame : MethodName := ⟨RX7, "frame", "(II)I"⟩
abbrev cX7_frames : ByteArray := prog_1_method_16_code
def yX7_frames : MethodName := ⟨RX7, "frames", "(II)I"⟩
abbrev cX7_agreed : ByteArray := prog_1_method_17_code
def yX7_agreed : MethodName := ⟨RX7, "agreed", "()I"⟩
abbrev cX7_settled : ByteArray := prog_1_method_18_code
def yX7_settled : MethodName := ⟨RX7, "settled", "()I"⟩
abbrev cX7_count : ByteArray := prog_1_method_19_code
def yX7_count : MethodName := ⟨RX7, "count", "(I)I"⟩
abbrev cX7_placeOfFrames : ByteArray := prog_1_method_20_code
def yX7_placeOfFrames : MethodName := ⟨RX7, "placeOfFrames", "(II)I"⟩
abbrev cX7_isZeroOrOne : ByteArray := prog_1_method_21_code
def yX7_isZeroOrOne : MethodName := ⟨RX7, "isZeroOrOne", "(I)Z"⟩
abbrev cX7_isFigure : ByteArray := prog_1_method_22_code
def yX7_isFigure : MethodName := ⟨RX7, "isFigure", "(I)Z"⟩
abbrev cX7_isMost : ByteArray := prog_1_method_23_code
def yX7_isMost : MethodName := ⟨RX7, "isMost", "(I)Z"⟩
def RX8 : String := "BundledLinksModel"
def TX8 : u_T := fun k => match k with
  | 0 => ("BundledLinksModel", "links", "I", false)
  | 1 => ("BundledLinksModel", "wait", "I", false)
  | 2 => ("BundledLinksModel", "drain", "I", false)
  | 3 => ("BundledLinksModel", "now", "[I", true)
  | 4 => ("BundledLinksModel", "kept", "[I", true)
  | 5 => ("BundledLinksModel", "past", "[I", true)
  | 6 => ("BundledLinksModel", "undos", "I", false)
  | 7 => ("BundledLinksModel", "frames", "[I", true)
  | 8 => ("BundledLinksModel", "text", "[I", true)
  | 9 => ("BundledLinksModel", "letters", "I", false)
  | 10 => ("BundledLinksModel", "newLinks", "I", false)
  | 11 => ("BundledLinksModel", "told", "[I", true)
  | 12 => ("BundledLinksModel", "ranks", "[I", true)
  | 13 => ("BundledLinksModel", "more", "[I", true)
  | 14 => ("BundledLinksModel", "figures", "[I", true)
  | 15 => ("BundledLinksModel", "at", "I", false)
  | 16 => ("BundledLinksModel", "chosen", "[Z", true)
  | _ => ("BundledLinksModel", "seen", "[I", true)
def tyX8 : Nat → FieldType := fun k => match k with
  | 0 => .int
  | 1 => .int
  | 2 => .int
  | 3 => .array .int
  | 4 => .array .int
  | 5 => .array .int
  | 6 => .int
  | 7 => .array .int
  | 8 => .array .int
  | 9 => .int
  | 10 => .int
  | 11 => .array .int
  | 12 => .array .int
  | 13 => .array .int
  | 14 => .array .int
  | 15 => .int
  | 16 => .array .boolean
  | _ => .array .int
abbrev wsX80 : List Cond := u_ws RX8 TX8 18
theorem nmX8 : ∀ a, a < 18 → ∀ b, b < 18 → a ≠ b → (TX8 a).2.1 ≠ (TX8 b).2.1 := by decide +kernel
theorem tyX8_ok : ∀ k, k < 18 → parseFieldDescriptor (TX8 k).2.2.1 = some (tyX8 k) := by decide +kernel
abbrev cX8_init : ByteArray := prog_10_method_1_code
def yX8_init : MethodName := ⟨RX8, "<init>", "()V"⟩
abbrev cX8_within : ByteArray := prog_10_method_3_code
def yX8_within : MethodName := ⟨RX8, "within", "(III)Z"⟩
abbrev cX8_clearsPlan : ByteArray := prog_10_method_4_code
def yX8_clearsPlan : MethodName := ⟨RX8, "clearsPlan", "()V"⟩
abbrev cX8_adds : ByteArray := prog_10_method_5_code
def yX8_adds : MethodName := ⟨RX8, "adds", "(IIII)V"⟩
abbrev cX8_passes : ByteArray := prog_10_method_6_code
def yX8_passes : MethodName := ⟨RX8, "passes", "(I)Z"⟩
abbrev cX8_areFigures : ByteArray := prog_10_method_7_code
def yX8_areFigures : MethodName := ⟨RX8, "areFigures", "(I)Z"⟩
abbrev cX8_isItem : ByteArray := prog_10_method_8_code
def yX8_isItem : MethodName := ⟨RX8, "isItem", "()Z"⟩
abbrev cX8_faultAt : ByteArray := prog_10_method_9_code
def yX8_faultAt : MethodName := ⟨RX8, "faultAt", "()I"⟩
abbrev cX8_write : ByteArray := prog_10_method_10_code
def yX8_write : MethodName := ⟨RX8, "write", "(I)I"⟩
abbrev cX8_wipe : ByteArray := prog_10_method_11_code
def yX8_wipe : MethodName := ⟨RX8, "wipe", "()I"⟩
abbrev cX8_fault : ByteArray := prog_10_method_12_code
def yX8_fault : MethodName := ⟨RX8, "fault", "()I"⟩
abbrev cX8_place : ByteArray := prog_10_method_13_code
def yX8_place : MethodName := ⟨RX8, "place", "(II)I"⟩
abbrev cX8_lays : ByteArray := prog_10_method_14_code
def yX8_lays : MethodName := ⟨RX8, "lays", "()V"⟩
abbrev cX8_lay : ByteArray := prog_10_method_15_code
def yX8_lay : MethodName := ⟨RX8, "lay", "()I"⟩
abbrev cX8_isEnd : ByteArray := prog_10_method_16_code
def yX8_isEnd : MethodName := ⟨RX8, "isEnd", "(I)Z"⟩
abbrev cX8_isLink : ByteArray := prog_10_method_17_code
def yX8_isLink : MethodName := ⟨RX8, "isLink", "(I)Z"⟩
abbrev cX8_keeps : ByteArray := prog_10_method_18_code
def yX8_keeps : MethodName := ⟨RX8, "keeps", "()V"⟩
abbrev cX8_upMany : ByteArray := prog_10_method_19_code
def yX8_upMany : MethodName := ⟨RX8, "upMany", "()I"⟩
abbrev cX8_plug : ByteArray := prog_10_method_20_code
def yX8_plug : MethodName := ⟨RX8, "plug", "(II)I"⟩
abbrev cX8_mute : ByteArray := prog_10_method_21_code
def yX8_mute : MethodName := ⟨RX8, "mute", "(III)I"⟩
abbrev cX8_becomes : ByteArray := prog_10_method_22_code
def yX8_becomes : MethodName := ⟨RX8, "becomes", "(II)I"⟩
abbrev cX8_tell : ByteArray := prog_10_method_23_code
def yX8_tell : MethodName := ⟨RX8, "tell", "(IIII)I"⟩
abbrev cX8_set : ByteArray := prog_10_method_24_code
def yX8_set : MethodName := ⟨RX8, "set", "(II)I"⟩
abbrev cX8_undo : ByteArray := prog_10_method_25_code
def yX8_undo : MethodName := ⟨RX8, "undo", "()I"⟩
abbrev cX8_knowsNothing : ByteArray := prog_10_method_26_code
def yX8_knowsNothing : MethodName := ⟨RX8, "knowsNothing", "(I)V"⟩
abbrev cX8_comes : ByteArray := prog_10_method_27_code
def yX8_comes : MethodName := ⟨RX8, "comes", "(II)V"⟩
abbrev cX8_isOpen : ByteArray := prog_10_method_28_code
def yX8_isOpen : MethodName := ⟨RX8, "isOpen", "(II)Z"⟩
abbrev cX8_doesDecide : ByteArray := prog_10_method_29_code
def yX8_doesDecide : MethodName := ⟨RX8, "doesDecide", "(I)Z"⟩
abbrev cX8_isPair : ByteArray := prog_10_method_30_code
def yX8_isPair : MethodName := ⟨RX8, "isPair", "(III)Z"⟩
abbrev cX8_ahead : ByteArray := prog_10_method_31_code
def yX8_ahead : MethodName := ⟨RX8, "ahead", "(IIIZ)I"⟩
abbrev cX8_chooses : ByteArray := prog_10_method_32_code
def yX8_chooses : MethodName := ⟨RX8, "chooses", "(I)V"⟩
abbrev cX8_howOf : ByteArray := prog_10_method_33_code
def yX8_howOf : MethodName := ⟨RX8, "howOf", "(II)I"⟩
abbrev cX8_becomesHow : ByteArray := prog_10_method_34_code
def yX8_becomesHow : MethodName := ⟨RX8, "becomesHow", "(I)V"⟩
abbrev cX8_sends : ByteArray := prog_10_method_35_code
def yX8_sends : MethodName := ⟨RX8, "sends", "(II)V"⟩
abbrev cX8_isSending : ByteArray := prog_10_method_36_code
def yX8_isSending : MethodName := ⟨RX8, "isSending", "(II)Z"⟩
abbrev cX8_wants : ByteArray := prog_10_method_37_code
def yX8_wants : MethodName := ⟨RX8, "wants", "(II)I"⟩
abbrev cX8_deals : ByteArray := prog_10_method_38_code
def yX8_deals : MethodName := ⟨RX8, "deals", "(II)V"⟩
abbrev cX8_ticks : ByteArray := prog_10_method_39_code
def yX8_ticks : MethodName := ⟨RX8, "ticks", "()V"⟩
abbrev cX8_sendingSet : ByteArray := prog_10_method_40_code
def yX8_sendingSet : MethodName := ⟨RX8, "sendingSet", "(I)I"⟩
abbrev cX8_agreed : ByteArray := prog_10_method_41_code
def yX8_agreed : MethodName := ⟨RX8, "agreed", "()I"⟩
abbrev cX8_tick : ByteArray := prog_10_method_42_code
def yX8_tick : MethodName := ⟨RX8, "tick", "(I)I"⟩
abbrev cX8_tellLink : ByteArray := prog_10_method_43_code
def yX8_tellLink : MethodName := ⟨RX8, "tellLink", "(II)I"⟩
abbrev cX8_link : ByteArray := prog_10_method_44_code
def yX8_link : MethodName := ⟨RX8, "link", "(III)I"⟩
abbrev cX8_bundle : ByteArray := prog_10_method_45_code
def yX8_bundle : MethodName := ⟨RX8, "bundle", "(II)I"⟩
abbrev cX8_isFlow : ByteArray := prog_10_method_46_code
def yX8_isFlow : MethodName := ⟨RX8, "isFlow", "(I)Z"⟩
abbrev cX8_flow : ByteArray := prog_10_method_47_code
def yX8_flow : MethodName := ⟨RX8, "flow", "(III)I"⟩
abbrev cX8_frame : ByteArray := prog_10_method_48_code
def yX8_frame : MethodName := ⟨RX8, "frame", "(II)I"⟩
abbrev cX8_frames : ByteArray := prog_10_method_49_code
def yX8_frames : MethodName := ⟨RX8, "frames", "(II)I"⟩
abbrev cX8_isOther : ByteArray := prog_10_method_50_code
def yX8_isOther : MethodName := ⟨RX8, "isOther", "()Z"⟩
abbrev cX8_fewest : ByteArray := prog_10_method_51_code
def yX8_fewest : MethodName := ⟨RX8, "fewest", "()I"⟩
abbrev cX8_settled : ByteArray := prog_10_method_52_code
def yX8_settled : MethodName := ⟨RX8, "settled", "()I"⟩
abbrev cX8_count : ByteArray := prog_10_method_53_code
def yX8_count : MethodName := ⟨RX8, "count", "(I)I"⟩
def RJ9 : String := "java/lang/Math"
def TJ9 : u_T := fun k => match k with
  | _ => ("", "", "", false)
def tyJ9 : Nat → FieldType := fun k => match k with
  | _ => .int
abbrev wsJ90 : List Cond := u_ws RJ9 TJ9 0
theorem nmJ9 : ∀ a, a < 0 → ∀ b, b < 0 → a ≠ b → (TJ9 a).2.1 ≠ (TJ9 b).2.1 := by decide +kernel
theorem tyJ9_ok : ∀ k, k < 0 → parseFieldDescriptor (TJ9 k).2.2.1 = some (tyJ9 k) := by decide +kernel
abbrev cJ9_min_7cf53 : ByteArray := prog_11_method_69_code
def yJ9_min_7cf53 : MethodName := ⟨RJ9, "min", "(II)I"⟩
def RJ0 : String := "java/lang/String"
def TJ0 : u_T := fun k => match k with
  | _ => ("", "", "", false)
def tyJ0 : Nat → FieldType := fun k => match k with
  | _ => .int
abbrev wsJ00 : List Cond := u_ws RJ0 TJ0 0
theorem nmJ0 : ∀ a, a < 0 → ∀ b, b < 0 → a ≠ b → (TJ0 a).2.1 ≠ (TJ0 b).2.1 := by decide +kernel
theorem tyJ0_ok : ∀ k, k < 0 → parseFieldDescriptor (TJ0 k).2.2.1 = some (tyJ0 k) := by decide +kernel
abbrev cJ0_length_8abf5 : ByteArray := prog_12_method_54_code
def yJ0_length_8abf5 : MethodName := ⟨RJ0, "length", "()I"⟩
abbrev cJ0_charAt_5068e : ByteArray := prog_12_method_56_code
def yJ0_charAt_5068e : MethodName := ⟨RJ0, "charAt", "(I)C"⟩
abbrev cJ0_coder_7d493 : ByteArray := prog_12_method_152_code
def yJ0_coder_7d493 : MethodName := ⟨RJ0, "coder", "()B"⟩
abbrev cJ0_isLatin1_aae02 : ByteArray := prog_12_method_154_code
def yJ0_isLatin1_aae02 : MethodName := ⟨RJ0, "isLatin1", "()Z"⟩
abbrev cJ0_checkIndex_df160 : ByteArray := prog_12_method_155_code
def yJ0_checkIndex_df160 : MethodName := ⟨RJ0, "checkIndex", "(II)V"⟩
def RJ1 : String := "java/lang/StringLatin1"
def TJ1 : u_T := fun k => match k with
  | _ => ("", "", "", false)
def tyJ1 : Nat → FieldType := fun k => match k with
  | _ => .int
abbrev wsJ10 : List Cond := u_ws RJ1 TJ1 0
theorem nmJ1 : ∀ a, a < 0 → ∀ b, b < 0 → a ≠ b → (TJ1 a).2.1 ≠ (TJ1 b).2.1 := by decide +kernel
theorem tyJ1_ok : ∀ k, k < 0 → parseFieldDescriptor (TJ1 k).2.2.1 = some (tyJ1 k) := by decide +kernel
abbrev cJ1_charAt_3b067 : ByteArray := prog_13_method_2_code
def yJ1_charAt_3b067 : MethodName := ⟨RJ1, "charAt", "([BI)C"⟩
def RJ2 : String := "java/lang/StringUTF16"
def TJ2 : u_T := fun k => match k with
  | _ => ("", "", "", false)
def tyJ2 : Nat → FieldType := fun k => match k with
  | _ => .int
abbrev wsJ20 : List Cond := u_ws RJ2 TJ2 0
theorem nmJ2 : ∀ a, a < 0 → ∀ b, b < 0 → a ≠ b → (TJ2 a).2.1 ≠ (TJ2 b).2.1 := by decide +kernel
theorem tyJ2_ok : ∀ k, k < 0 → parseFieldDescriptor (TJ2 k).2.2.1 = some (tyJ2 k) := by decide +kernel
abbrev cJ2_getChar_3b067 : ByteArray := prog_14_method_5_code
def yJ2_getChar_3b067 : MethodName := ⟨RJ2, "getChar", "([BI)C"⟩
abbrev cJ2_length_9d52b : ByteArray := prog_14_method_6_code
def yJ2_length_9d52b : MethodName := ⟨RJ2, "length", "([B)I"⟩
abbrev cJ2_charAt_3b067 : ByteArray := prog_14_method_83_code
def yJ2_charAt_3b067 : MethodName := ⟨RJ2, "charAt", "([BI)C"⟩
abbrev cJ2_checkIndex_2214a : ByteArray := prog_14_method_91_code
def yJ2_checkIndex_2214a : MethodName := ⟨RJ2, "checkIndex", "(I[B)V"⟩
def RJ3 : String := "jdk/internal/util/Preconditions"
def TJ3 : u_T := fun k => match k with
  | _ => ("", "", "", false)
def tyJ3 : Nat → FieldType := fun k => match k with
  | _ => .int
abbrev wsJ30 : List Cond := u_ws RJ3 TJ3 0
theorem nmJ3 : ∀ a, a < 0 → ∀ b, b < 0 → a ≠ b → (TJ3 a).2.1 ≠ (TJ3 b).2.1 := by decide +kernel
theorem tyJ3_ok : ∀ k, k < 0 → parseFieldDescriptor (TJ3 k).2.2.1 = some (tyJ3 k) := by decide +kernel
abbrev cJ3_checkIndex_8e157 : ByteArray := prog_15_method_11_code
def yJ3_checkIndex_8e157 : MethodName := ⟨RJ3, "checkIndex", "(IILjava/util/function/BiFunction;)I"⟩
def RL : String := "BundledLinksLaw"
abbrev cL_law : ByteArray := code
def yL_law : MethodName := ⟨RL, "law", "([I)Z"⟩
def wsX3_init : List Cond := .code yX3_init cX3_init 1 none :: ([.methodLink RX3 1 objectInit, .instanceMethod objectInit, .code objectInit ⟨#[0xb1]⟩ 1 none])
def wsX5_init : List Cond := .code yX5_init cX5_init 1 none :: ([.methodLink RX5 3 objectInit, .instanceMethod objectInit, .code objectInit ⟨#[0xb1]⟩ 1 none, .classLink RX5 9 RX3, .instantiable RX3 5, .initialized RX3, .fieldLink RX5 12 "BundledLinks$Port" "heard" "LBundledLinks$Message;", .fieldLink RX5 18 "BundledLinks$Port" "said" "LBundledLinks$Message;", .instanceMethod yX3_init, .code yX3_init cX3_init 1 none, .methodLink RX3 1 objectInit] ++ wsX30 ++ wsX50)
def wsX1_init : List Cond := .code yX1_init cX1_init 1 none :: ([.methodLink RX1 3 objectInit, .instanceMethod objectInit, .code objectInit ⟨#[0xb1]⟩ 1 none])
def wsX0_init_r1 : List Cond := [Cond.methodLink RX0 3 objectInit, Cond.instanceMethod objectInit, Cond.code objectInit ⟨#[0xb1]⟩ 1 none, Cond.fieldLink RX0 9 "BundledLinks$End" "number" "I", Cond.classLink RX0 15 RX5, Cond.fieldLink RX0 17 "BundledLinks$End" "ports" "[LBundledLinks$Port;", Cond.instantiable RX5 11, Cond.initialized RX5, Cond.classLink RX0 22 RX1, Cond.fieldLink RX0 24 "BundledLinks$End" "flows" "[LBundledLinks$Flow;", Cond.instantiable RX1 2, Cond.initialized RX1, Cond.instanceMethod yX5_init, Cond.code yX5_init cX5_init 1 none, Cond.methodLink RX5 3 objectInit, Cond.classLink RX5 9 RX3, Cond.instantiable RX3 5, Cond.initialized RX3, Cond.fieldLink RX5 12 "BundledLinks$Port" "heard" "LBundledLinks$Message;", Cond.fieldLink RX5 18 "BundledLinks$Port" "said" "LBundledLinks$Message;", Cond.instanceMethod yX3_init, Cond.code yX3_init cX3_init 1 none, Cond.methodLink RX3 1 objectInit, Cond.instanceMethod yX1_init]
def wsX0_init_r2 : List Cond := [Cond.code yX1_init cX1_init 1 none, Cond.methodLink RX1 3 objectInit]
def wsX0_init : List Cond := .code yX0_init cX0_init 3 none :: ((wsX0_init_r1 ++ wsX0_init_r2) ++ wsX00 ++ wsX50 ++ wsX10 ++ wsX30)
def wsX3_clear : List Cond := .code yX3_clear cX3_clear 1 none :: ([.fieldLink RX3 7 "BundledLinks$Message" "there" "Z", .fieldLink RX3 13 "BundledLinks$Message" "key" "I", .fieldLink RX3 17 "BundledLinks$Message" "priority" "I", .fieldLink RX3 20 "BundledLinks$Message" "rank" "I", .fieldLink RX3 23 "BundledLinks$Message" "sync" "Z"] ++ wsX30)
def wsX5_clear : List Cond := .code yX5_clear cX5_clear 1 none :: ([.fieldLink RX5 21 "BundledLinks$Port" "up" "Z", .fieldLink RX5 25 "BundledLinks$Port" "muted" "Z", .fieldLink RX5 28 "BundledLinks$Port" "key" "I", .fieldLink RX5 32 "BundledLinks$Port" "priority" "I", .fieldLink RX5 12 "BundledLinks$Port" "heard" "LBundledLinks$Message;", .fieldLink RX5 18 "BundledLinks$Port" "said" "LBundledLinks$Message;", .fieldLink RX5 38 "BundledLinks$Port" "age" "I", .fieldLink RX5 41 "BundledLinks$Port" "how" "I", .fieldLink RX5 44 "BundledLinks$Port" "chosen" "Z", .fieldLink RX5 47 "BundledLinks$Port" "chosenFor" "I", .fieldLink RX5 50 "BundledLinks$Port" "begun" "I", .methodLink RX5 35 yX3_clear, .instanceMethod yX3_clear, .selects RX3 yX3_clear yX3_clear, .initialized RX3, .code yX3_clear cX3_clear 1 none, .fieldLink RX3 7 "BundledLinks$Message" "there" "Z", .fieldLink RX3 13 "BundledLinks$Message" "key" "I", .fieldLink RX3 17 "BundledLinks$Message" "priority" "I", .fieldLink RX3 20 "BundledLinks$Message" "rank" "I", .fieldLink RX3 23 "BundledLinks$Message" "sync" "Z"] ++ wsX50 ++ wsX30)
def wsX1_clear : List Cond := .code yX1_clear cX1_clear 1 none :: ([.fieldLink RX1 9 "BundledLinks$Flow" "link" "I", .fieldLink RX1 15 "BundledLinks$Flow" "held" "I"] ++ wsX10)
def wsX0_clear_r1 : List Cond := [Cond.fieldLink RX0 29 "BundledLinks$End" "rank" "I", Cond.fieldLink RX0 17 "BundledLinks$End" "ports" "[LBundledLinks$Port;", Cond.fieldLink RX0 24 "BundledLinks$End" "flows" "[LBundledLinks$Flow;", Cond.methodLink RX0 32 yX5_clear, Cond.instanceMethod yX5_clear, Cond.selects RX5 yX5_clear yX5_clear, Cond.initialized RX5, Cond.code yX5_clear cX5_clear 1 none, Cond.fieldLink RX5 21 "BundledLinks$Port" "up" "Z", Cond.fieldLink RX5 25 "BundledLinks$Port" "muted" "Z", Cond.fieldLink RX5 28 "BundledLinks$Port" "key" "I", Cond.fieldLink RX5 32 "BundledLinks$Port" "priority" "I", Cond.fieldLink RX5 12 "BundledLinks$Port" "heard" "LBundledLinks$Message;", Cond.fieldLink RX5 18 "BundledLinks$Port" "said" "LBundledLinks$Message;", Cond.fieldLink RX5 38 "BundledLinks$Port" "age" "I", Cond.fieldLink RX5 41 "BundledLinks$Port" "how" "I", Cond.fieldLink RX5 44 "BundledLinks$Port" "chosen" "Z", Cond.fieldLink RX5 47 "BundledLinks$Port" "chosenFor" "I", Cond.fieldLink RX5 50 "BundledLinks$Port" "begun" "I", Cond.methodLink RX5 35 yX3_clear, Cond.instanceMethod yX3_clear, Cond.selects RX3 yX3_clear yX3_clear, Cond.initialized RX3, Cond.code yX3_clear cX3_clear 1 none]
def wsX0_clear_r2 : List Cond := [Cond.fieldLink RX3 7 "BundledLinks$Message" "there" "Z", Cond.fieldLink RX3 13 "BundledLinks$Message" "key" "I", Cond.fieldLink RX3 17 "BundledLinks$Message" "priority" "I", Cond.fieldLink RX3 20 "BundledLinks$Message" "rank" "I", Cond.fieldLink RX3 23 "BundledLinks$Message" "sync" "Z", Cond.methodLink RX0 35 yX1_clear, Cond.instanceMethod yX1_clear, Cond.selects RX1 yX1_clear yX1_clear, Cond.initialized RX1, Cond.code yX1_clear cX1_clear 1 none, Cond.fieldLink RX1 9 "BundledLinks$Flow" "link" "I", Cond.fieldLink RX1 15 "BundledLinks$Flow" "held" "I"]
def wsX0_clear : List Cond := .code yX0_clear cX0_clear 5 none :: ((wsX0_clear_r1 ++ wsX0_clear_r2) ++ wsX00 ++ wsX50 ++ wsX30 ++ wsX10)
def wsX3_copyFrom : List Cond := .code yX3_copyFrom cX3_copyFrom 2 none :: ([.fieldLink RX3 7 "BundledLinks$Message" "there" "Z", .fieldLink RX3 13 "BundledLinks$Message" "key" "I", .fieldLink RX3 17 "BundledLinks$Message" "priority" "I", .fieldLink RX3 20 "BundledLinks$Message" "rank" "I", .fieldLink RX3 23 "BundledLinks$Message" "sync" "Z"] ++ wsX30)
def wsX5_copyFrom : List Cond := .code yX5_copyFrom cX5_copyFrom 2 none :: ([.fieldLink RX5 21 "BundledLinks$Port" "up" "Z", .fieldLink RX5 25 "BundledLinks$Port" "muted" "Z", .fieldLink RX5 28 "BundledLinks$Port" "key" "I", .fieldLink RX5 32 "BundledLinks$Port" "priority" "I", .fieldLink RX5 12 "BundledLinks$Port" "heard" "LBundledLinks$Message;", .fieldLink RX5 18 "BundledLinks$Port" "said" "LBundledLinks$Message;", .fieldLink RX5 38 "BundledLinks$Port" "age" "I", .fieldLink RX5 41 "BundledLinks$Port" "how" "I", .fieldLink RX5 44 "BundledLinks$Port" "chosen" "Z", .fieldLink RX5 47 "BundledLinks$Port" "chosenFor" "I", .fieldLink RX5 50 "BundledLinks$Port" "begun" "I", .methodLink RX5 53 yX3_copyFrom, .instanceMethod yX3_copyFrom, .selects RX3 yX3_copyFrom yX3_copyFrom, .initialized RX3, .code yX3_copyFrom cX3_copyFrom 2 none, .fieldLink RX3 7 "BundledLinks$Message" "there" "Z", .fieldLink RX3 13 "BundledLinks$Message" "key" "I", .fieldLink RX3 17 "BundledLinks$Message" "priority" "I", .fieldLink RX3 20 "BundledLinks$Message" "rank" "I", .fieldLink RX3 23 "BundledLinks$Message" "sync" "Z"] ++ wsX50 ++ wsX30)
def wsX1_copyFrom : List Cond := .code yX1_copyFrom cX1_copyFrom 2 none :: ([.fieldLink RX1 9 "BundledLinks$Flow" "link" "I", .fieldLink RX1 15 "BundledLinks$Flow" "held" "I"] ++ wsX10)
def wsX0_copyFrom_r1 : List Cond := [Cond.fieldLink RX0 29 "BundledLinks$End" "rank" "I", Cond.fieldLink RX0 17 "BundledLinks$End" "ports" "[LBundledLinks$Port;", Cond.fieldLink RX0 24 "BundledLinks$End" "flows" "[LBundledLinks$Flow;", Cond.methodLink RX0 36 yX5_copyFrom, Cond.instanceMethod yX5_copyFrom, Cond.selects RX5 yX5_copyFrom yX5_copyFrom, Cond.initialized RX5, Cond.code yX5_copyFrom cX5_copyFrom 2 none, Cond.fieldLink RX5 21 "BundledLinks$Port" "up" "Z", Cond.fieldLink RX5 25 "BundledLinks$Port" "muted" "Z", Cond.fieldLink RX5 28 "BundledLinks$Port" "key" "I", Cond.fieldLink RX5 32 "BundledLinks$Port" "priority" "I", Cond.fieldLink RX5 12 "BundledLinks$Port" "heard" "LBundledLinks$Message;", Cond.fieldLink RX5 18 "BundledLinks$Port" "said" "LBundledLinks$Message;", Cond.fieldLink RX5 38 "BundledLinks$Port" "age" "I", Cond.fieldLink RX5 41 "BundledLinks$Port" "how" "I", Cond.fieldLink RX5 44 "BundledLinks$Port" "chosen" "Z", Cond.fieldLink RX5 47 "BundledLinks$Port" "chosenFor" "I", Cond.fieldLink RX5 50 "BundledLinks$Port" "begun" "I", Cond.methodLink RX5 53 yX3_copyFrom, Cond.instanceMethod yX3_copyFrom, Cond.selects RX3 yX3_copyFrom yX3_copyFrom, Cond.initialized RX3, Cond.code yX3_copyFrom cX3_copyFrom 2 none]
def wsX0_copyFrom_r2 : List Cond := [Cond.fieldLink RX3 7 "BundledLinks$Message" "there" "Z", Cond.fieldLink RX3 13 "BundledLinks$Message" "key" "I", Cond.fieldLink RX3 17 "BundledLinks$Message" "priority" "I", Cond.fieldLink RX3 20 "BundledLinks$Message" "rank" "I", Cond.fieldLink RX3 23 "BundledLinks$Message" "sync" "Z", Cond.methodLink RX0 40 yX1_copyFrom, Cond.instanceMethod yX1_copyFrom, Cond.selects RX1 yX1_copyFrom yX1_copyFrom, Cond.initialized RX1, Cond.code yX1_copyFrom cX1_copyFrom 2 none, Cond.fieldLink RX1 9 "BundledLinks$Flow" "link" "I", Cond.fieldLink RX1 15 "BundledLinks$Flow" "held" "I"]
def wsX0_copyFrom : List Cond := .code yX0_copyFrom cX0_copyFrom 3 none :: ((wsX0_copyFrom_r1 ++ wsX0_copyFrom_r2) ++ wsX00 ++ wsX50 ++ wsX30 ++ wsX10)
def wsX0_looksLike : List Cond := .code yX0_looksLike cX0_looksLike 3 (some .boolean) :: ([.fieldLink RX0 17 "BundledLinks$End" "ports" "[LBundledLinks$Port;", .fieldLink RX0 43 "BundledLinks$Port" "how" "I", .fieldLink RX0 24 "BundledLinks$End" "flows" "[LBundledLinks$Flow;", .fieldLink RX0 46 "BundledLinks$Flow" "link" "I"] ++ wsX00 ++ wsX50 ++ wsX10)
def wsX0_portAt : List Cond := .code yX0_portAt cX0_portAt 2 (some (.object "BundledLinks$Port")) :: ([.fieldLink RX0 17 "BundledLinks$End" "ports" "[LBundledLinks$Port;"] ++ wsX00)
def wsX0_flowAt : List Cond := .code yX0_flowAt cX0_flowAt 2 (some (.object "BundledLinks$Flow")) :: ([.fieldLink RX0 24 "BundledLinks$End" "flows" "[LBundledLinks$Flow;"] ++ wsX00)
def wsX5_hear : List Cond := .code yX5_hear cX5_hear 2 none :: ([.fieldLink RX5 21 "BundledLinks$Port" "up" "Z", .fieldLink RX5 12 "BundledLinks$Port" "heard" "LBundledLinks$Message;", .fieldLink RX5 57 "BundledLinks$Message" "there" "Z", .fieldLink RX5 38 "BundledLinks$Port" "age" "I", .methodLink RX5 53 yX3_copyFrom, .instanceMethod yX3_copyFrom, .selects RX3 yX3_copyFrom yX3_copyFrom, .initialized RX3, .code yX3_copyFrom cX3_copyFrom 2 none, .fieldLink RX3 7 "BundledLinks$Message" "there" "Z", .fieldLink RX3 13 "BundledLinks$Message" "key" "I", .fieldLink RX3 17 "BundledLinks$Message" "priority" "I", .fieldLink RX3 20 "BundledLinks$Message" "rank" "I", .fieldLink RX3 23 "BundledLinks$Message" "sync" "Z"] ++ wsX50 ++ wsX30)
def wsX0_hearFrom : List Cond := .code yX0_hearFrom cX0_hearFrom 3 none :: ([.fieldLink RX0 17 "BundledLinks$End" "ports" "[LBundledLinks$Port;", .fieldLink RX0 49 "BundledLinks$Port" "said" "LBundledLinks$Message;", .methodLink RX0 53 yX5_hear, .instanceMethod yX5_hear, .selects RX5 yX5_hear yX5_hear, .initialized RX5, .code yX5_hear cX5_hear 2 none, .fieldLink RX5 21 "BundledLinks$Port" "up" "Z", .fieldLink RX5 12 "BundledLinks$Port" "heard" "LBundledLinks$Message;", .fieldLink RX5 57 "BundledLinks$Message" "there" "Z", .fieldLink RX5 38 "BundledLinks$Port" "age" "I", .methodLink RX5 53 yX3_copyFrom, .instanceMethod yX3_copyFrom, .selects RX3 yX3_copyFrom yX3_copyFrom, .initialized RX3, .code yX3_copyFrom cX3_copyFrom 2 none, .fieldLink RX3 7 "BundledLinks$Message" "there" "Z", .fieldLink RX3 13 "BundledLinks$Message" "key" "I", .fieldLink RX3 17 "BundledLinks$Message" "priority" "I", .fieldLink RX3 20 "BundledLinks$Message" "rank" "I", .fieldLink RX3 23 "BundledLinks$Message" "sync" "Z"] ++ wsX00 ++ wsX50 ++ wsX30)
def wsX0_decides : List Cond := .code yX0_decides cX0_decides 6 (some .boolean) :: ([.fieldLink RX0 17 "BundledLinks$End" "ports" "[LBundledLinks$Port;", .fieldLink RX0 69 "BundledLinks$Port" "heard" "LBundledLinks$Message;", .fieldLink RX0 72 "BundledLinks$Message" "there" "Z", .fieldLink RX0 77 "BundledLinks$Message" "rank" "I", .fieldLink RX0 9 "BundledLinks$End" "number" "I", .fieldLink RX0 29 "BundledLinks$End" "rank" "I"] ++ wsX00 ++ wsX50 ++ wsX30)
def wsX5_hasPairOf : List Cond := .code yX5_hasPairOf cX5_hasPairOf 2 (some .boolean) :: ([.fieldLink RX5 28 "BundledLinks$Port" "key" "I", .fieldLink RX5 12 "BundledLinks$Port" "heard" "LBundledLinks$Message;", .fieldLink RX5 61 "BundledLinks$Message" "key" "I"] ++ wsX50 ++ wsX30)
def wsX5_priorityBy : List Cond := .code yX5_priorityBy cX5_priorityBy 2 (some .int) :: ([.fieldLink RX5 32 "BundledLinks$Port" "priority" "I", .fieldLink RX5 12 "BundledLinks$Port" "heard" "LBundledLinks$Message;", .fieldLink RX5 60 "BundledLinks$Message" "priority" "I"] ++ wsX50 ++ wsX30)
def wsX0_bestOpen : List Cond := .code yX0_bestOpen cX0_bestOpen 9 (some (.object "BundledLinks$Port")) :: ([.fieldLink RX0 17 "BundledLinks$End" "ports" "[LBundledLinks$Port;", .fieldLink RX0 69 "BundledLinks$Port" "heard" "LBundledLinks$Message;", .fieldLink RX0 72 "BundledLinks$Message" "there" "Z", .fieldLink RX0 57 "BundledLinks$Port" "chosen" "Z", .methodLink RX0 78 yX5_hasPairOf, .instanceMethod yX5_hasPairOf, .selects RX5 yX5_hasPairOf yX5_hasPairOf, .initialized RX5, .code yX5_hasPairOf cX5_hasPairOf 2 (some .boolean), .fieldLink RX5 28 "BundledLinks$Port" "key" "I", .fieldLink RX5 12 "BundledLinks$Port" "heard" "LBundledLinks$Message;", .fieldLink RX5 61 "BundledLinks$Message" "key" "I", .methodLink RX0 82 yX5_priorityBy, .instanceMethod yX5_priorityBy, .selects RX5 yX5_priorityBy yX5_priorityBy, .code yX5_priorityBy cX5_priorityBy 2 (some .int), .fieldLink RX5 32 "BundledLinks$Port" "priority" "I", .fieldLink RX5 60 "BundledLinks$Message" "priority" "I"] ++ wsX00 ++ wsX50 ++ wsX30)
def wsX0_choose_r1 : List Cond := [Cond.fieldLink RX0 17 "BundledLinks$End" "ports" "[LBundledLinks$Port;", Cond.fieldLink RX0 57 "BundledLinks$Port" "chosen" "Z", Cond.methodLink RX0 61 yX0_decides, Cond.instanceMethod yX0_decides, Cond.selects RX0 yX0_decides yX0_decides, Cond.initialized RX0, Cond.code yX0_decides cX0_decides 6 (some .boolean), Cond.fieldLink RX0 69 "BundledLinks$Port" "heard" "LBundledLinks$Message;", Cond.fieldLink RX0 72 "BundledLinks$Message" "there" "Z", Cond.fieldLink RX0 77 "BundledLinks$Message" "rank" "I", Cond.fieldLink RX0 9 "BundledLinks$End" "number" "I", Cond.fieldLink RX0 29 "BundledLinks$End" "rank" "I", Cond.methodLink RX0 65 yX0_bestOpen, Cond.instanceMethod yX0_bestOpen, Cond.selects RX0 yX0_bestOpen yX0_bestOpen, Cond.code yX0_bestOpen cX0_bestOpen 9 (some (.object "BundledLinks$Port")), Cond.methodLink RX0 78 yX5_hasPairOf, Cond.instanceMethod yX5_hasPairOf, Cond.selects RX5 yX5_hasPairOf yX5_hasPairOf, Cond.initialized RX5, Cond.code yX5_hasPairOf cX5_hasPairOf 2 (some .boolean), Cond.fieldLink RX5 28 "BundledLinks$Port" "key" "I", Cond.fieldLink RX5 12 "BundledLinks$Port" "heard" "LBundledLinks$Message;", Cond.fieldLink RX5 61 "BundledLinks$Message" "key" "I"]
def wsX0_choose_r2 : List Cond := [Cond.methodLink RX0 82 yX5_priorityBy, Cond.instanceMethod yX5_priorityBy, Cond.selects RX5 yX5_priorityBy yX5_priorityBy, Cond.code yX5_priorityBy cX5_priorityBy 2 (some .int), Cond.fieldLink RX5 32 "BundledLinks$Port" "priority" "I", Cond.fieldLink RX5 60 "BundledLinks$Message" "priority" "I"]
def wsX0_choose : List Cond := .code yX0_choose cX0_choose 6 none :: ((wsX0_choose_r1 ++ wsX0_choose_r2) ++ wsX00 ++ wsX50 ++ wsX30)
def wsX5_howNow : List Cond := .code yX5_howNow cX5_howNow 2 (some .int) :: ([.fieldLink RX5 21 "BundledLinks$Port" "up" "Z", .fieldLink RX5 12 "BundledLinks$Port" "heard" "LBundledLinks$Message;", .fieldLink RX5 57 "BundledLinks$Message" "there" "Z", .fieldLink RX5 44 "BundledLinks$Port" "chosen" "Z", .fieldLink RX5 47 "BundledLinks$Port" "chosenFor" "I", .fieldLink RX5 66 "BundledLinks$Message" "sync" "Z"] ++ wsX50 ++ wsX30)
def wsX5_judge : List Cond := .code yX5_judge cX5_judge 3 none :: ([.fieldLink RX5 44 "BundledLinks$Port" "chosen" "Z", .fieldLink RX5 47 "BundledLinks$Port" "chosenFor" "I", .fieldLink RX5 41 "BundledLinks$Port" "how" "I", .fieldLink RX5 50 "BundledLinks$Port" "begun" "I", .methodLink RX5 62 yX5_howNow, .instanceMethod yX5_howNow, .selects RX5 yX5_howNow yX5_howNow, .initialized RX5, .code yX5_howNow cX5_howNow 2 (some .int), .fieldLink RX5 21 "BundledLinks$Port" "up" "Z", .fieldLink RX5 12 "BundledLinks$Port" "heard" "LBundledLinks$Message;", .fieldLink RX5 57 "BundledLinks$Message" "there" "Z", .fieldLink RX5 66 "BundledLinks$Message" "sync" "Z"] ++ wsX50 ++ wsX30)
def wsX5_say : List Cond := .code yX5_say cX5_say 2 none :: ([.fieldLink RX5 18 "BundledLinks$Port" "said" "LBundledLinks$Message;", .fieldLink RX5 21 "BundledLinks$Port" "up" "Z", .fieldLink RX5 25 "BundledLinks$Port" "muted" "Z", .fieldLink RX5 57 "BundledLinks$Message" "there" "Z", .fieldLink RX5 28 "BundledLinks$Port" "key" "I", .fieldLink RX5 61 "BundledLinks$Message" "key" "I", .fieldLink RX5 32 "BundledLinks$Port" "priority" "I", .fieldLink RX5 60 "BundledLinks$Message" "priority" "I", .fieldLink RX5 69 "BundledLinks$Message" "rank" "I", .fieldLink RX5 41 "BundledLinks$Port" "how" "I", .fieldLink RX5 66 "BundledLinks$Message" "sync" "Z"] ++ wsX50 ++ wsX30)
def wsX0_judgeAndSay_r1 : List Cond := [Cond.fieldLink RX0 17 "BundledLinks$End" "ports" "[LBundledLinks$Port;", Cond.fieldLink RX0 29 "BundledLinks$End" "rank" "I", Cond.methodLink RX0 86 yX5_judge, Cond.instanceMethod yX5_judge, Cond.selects RX5 yX5_judge yX5_judge, Cond.initialized RX5, Cond.code yX5_judge cX5_judge 3 none, Cond.fieldLink RX5 44 "BundledLinks$Port" "chosen" "Z", Cond.fieldLink RX5 47 "BundledLinks$Port" "chosenFor" "I", Cond.fieldLink RX5 41 "BundledLinks$Port" "how" "I", Cond.fieldLink RX5 50 "BundledLinks$Port" "begun" "I", Cond.methodLink RX5 62 yX5_howNow, Cond.instanceMethod yX5_howNow, Cond.selects RX5 yX5_howNow yX5_howNow, Cond.code yX5_howNow cX5_howNow 2 (some .int), Cond.fieldLink RX5 21 "BundledLinks$Port" "up" "Z", Cond.fieldLink RX5 12 "BundledLinks$Port" "heard" "LBundledLinks$Message;", Cond.fieldLink RX5 57 "BundledLinks$Message" "there" "Z", Cond.fieldLink RX5 66 "BundledLinks$Message" "sync" "Z", Cond.methodLink RX0 90 yX5_say, Cond.instanceMethod yX5_say, Cond.selects RX5 yX5_say yX5_say, Cond.code yX5_say cX5_say 2 none, Cond.fieldLink RX5 18 "BundledLinks$Port" "said" "LBundledLinks$Message;"]
def wsX0_judgeAndSay_r2 : List Cond := [Cond.fieldLink RX5 25 "BundledLinks$Port" "muted" "Z", Cond.fieldLink RX5 28 "BundledLinks$Port" "key" "I", Cond.fieldLink RX5 61 "BundledLinks$Message" "key" "I", Cond.fieldLink RX5 32 "BundledLinks$Port" "priority" "I", Cond.fieldLink RX5 60 "BundledLinks$Message" "priority" "I", Cond.fieldLink RX5 69 "BundledLinks$Message" "rank" "I"]
def wsX0_judgeAndSay : List Cond := .code yX0_judgeAndSay cX0_judgeAndSay 6 none :: ((wsX0_judgeAndSay_r1 ++ wsX0_judgeAndSay_r2) ++ wsX00 ++ wsX50 ++ wsX30)
def wsX0_howManySending : List Cond := .code yX0_howManySending cX0_howManySending 6 (some .int) :: ([.fieldLink RX0 17 "BundledLinks$End" "ports" "[LBundledLinks$Port;", .fieldLink RX0 43 "BundledLinks$Port" "how" "I"] ++ wsX00 ++ wsX50)
def wsX0_wantedBy : List Cond := .code yX0_wantedBy cX0_wantedBy 5 (some .int) :: ([.fieldLink RX0 17 "BundledLinks$End" "ports" "[LBundledLinks$Port;", .fieldLink RX0 43 "BundledLinks$Port" "how" "I"] ++ wsX00 ++ wsX50)
def wsX1_deal : List Cond := .code yX1_deal cX1_deal 3 none :: ([.fieldLink RX1 15 "BundledLinks$Flow" "held" "I", .fieldLink RX1 9 "BundledLinks$Flow" "link" "I"] ++ wsX10)
def wsX0_dealFlows : List Cond := .code yX0_dealFlows cX0_dealFlows 4 none :: ([.fieldLink RX0 24 "BundledLinks$End" "flows" "[LBundledLinks$Flow;", .methodLink RX0 93 yX0_howManySending, .instanceMethod yX0_howManySending, .selects RX0 yX0_howManySending yX0_howManySending, .initialized RX0, .code yX0_howManySending cX0_howManySending 6 (some .int), .fieldLink RX0 17 "BundledLinks$End" "ports" "[LBundledLinks$Port;", .fieldLink RX0 43 "BundledLinks$Port" "how" "I", .methodLink RX0 97 yX0_wantedBy, .instanceMethod yX0_wantedBy, .selects RX0 yX0_wantedBy yX0_wantedBy, .code yX0_wantedBy cX0_wantedBy 5 (some .int), .methodLink RX0 101 yX1_deal, .instanceMethod yX1_deal, .selects RX1 yX1_deal yX1_deal, .initialized RX1, .code yX1_deal cX1_deal 3 none, .fieldLink RX1 15 "BundledLinks$Flow" "held" "I", .fieldLink RX1 9 "BundledLinks$Flow" "link" "I"] ++ wsX00 ++ wsX50 ++ wsX10)
def wsX0_howManyUp : List Cond := .code yX0_howManyUp cX0_howManyUp 6 (some .int) :: ([.fieldLink RX0 17 "BundledLinks$End" "ports" "[LBundledLinks$Port;", .fieldLink RX0 105 "BundledLinks$Port" "up" "Z"] ++ wsX00 ++ wsX50)
def wsX0_howManyMuted : List Cond := .code yX0_howManyMuted cX0_howManyMuted 6 (some .int) :: ([.fieldLink RX0 17 "BundledLinks$End" "ports" "[LBundledLinks$Port;", .fieldLink RX0 108 "BundledLinks$Port" "muted" "Z"] ++ wsX00 ++ wsX50)
def wsX5_isOf : List Cond := .code yX5_isOf cX5_isOf 2 (some .boolean) :: ([.fieldLink RX5 12 "BundledLinks$Port" "heard" "LBundledLinks$Message;", .fieldLink RX5 57 "BundledLinks$Message" "there" "Z", .fieldLink RX5 44 "BundledLinks$Port" "chosen" "Z", .fieldLink RX5 41 "BundledLinks$Port" "how" "I"] ++ wsX50 ++ wsX30)
def wsX0_bits : List Cond := .code yX0_bits cX0_bits 4 (some .int) :: ([.fieldLink RX0 17 "BundledLinks$End" "ports" "[LBundledLinks$Port;", .methodLink RX0 111 yX5_isOf, .instanceMethod yX5_isOf, .selects RX5 yX5_isOf yX5_isOf, .initialized RX5, .code yX5_isOf cX5_isOf 2 (some .boolean), .fieldLink RX5 12 "BundledLinks$Port" "heard" "LBundledLinks$Message;", .fieldLink RX5 57 "BundledLinks$Message" "there" "Z", .fieldLink RX5 44 "BundledLinks$Port" "chosen" "Z", .fieldLink RX5 41 "BundledLinks$Port" "how" "I"] ++ wsX00 ++ wsX50 ++ wsX30)
def wsX4_init_r1 : List Cond := [Cond.methodLink RX4 3 objectInit, Cond.instanceMethod objectInit, Cond.code objectInit ⟨#[0xb1]⟩ 1 none, Cond.classLink RX4 9 RX0, Cond.instantiable RX0 4, Cond.initialized RX0, Cond.fieldLink RX4 14 "BundledLinks$Net" "zero" "LBundledLinks$End;", Cond.fieldLink RX4 20 "BundledLinks$Net" "one" "LBundledLinks$End;", Cond.methodLink RX4 11 yX0_init, Cond.instanceMethod yX0_init, Cond.code yX0_init cX0_init 3 none, Cond.methodLink RX0 3 objectInit, Cond.fieldLink RX0 9 "BundledLinks$End" "number" "I", Cond.classLink RX0 15 RX5, Cond.fieldLink RX0 17 "BundledLinks$End" "ports" "[LBundledLinks$Port;", Cond.instantiable RX5 11, Cond.initialized RX5, Cond.classLink RX0 22 RX1, Cond.fieldLink RX0 24 "BundledLinks$End" "flows" "[LBundledLinks$Flow;", Cond.instantiable RX1 2, Cond.initialized RX1, Cond.instanceMethod yX5_init, Cond.code yX5_init cX5_init 1 none, Cond.methodLink RX5 3 objectInit]
def wsX4_init_r2 : List Cond := [Cond.classLink RX5 9 RX3, Cond.instantiable RX3 5, Cond.initialized RX3, Cond.fieldLink RX5 12 "BundledLinks$Port" "heard" "LBundledLinks$Message;", Cond.fieldLink RX5 18 "BundledLinks$Port" "said" "LBundledLinks$Message;", Cond.instanceMethod yX3_init, Cond.code yX3_init cX3_init 1 none, Cond.methodLink RX3 1 objectInit, Cond.instanceMethod yX1_init, Cond.code yX1_init cX1_init 1 none, Cond.methodLink RX1 3 objectInit]
def wsX4_init : List Cond := .code yX4_init cX4_init 1 none :: ((wsX4_init_r1 ++ wsX4_init_r2) ++ wsX00 ++ wsX40 ++ wsX50 ++ wsX10 ++ wsX30)
def wsX2_init_r1 : List Cond := [Cond.methodLink RX2 3 objectInit, Cond.instanceMethod objectInit, Cond.code objectInit ⟨#[0xb1]⟩ 1 none, Cond.classLink RX2 9 RX4, Cond.fieldLink RX2 11 "BundledLinks$History" "kept" "[LBundledLinks$Net;", Cond.instantiable RX4 7, Cond.initialized RX4, Cond.instanceMethod yX4_init, Cond.code yX4_init cX4_init 1 none, Cond.methodLink RX4 3 objectInit, Cond.classLink RX4 9 RX0, Cond.instantiable RX0 4, Cond.initialized RX0, Cond.fieldLink RX4 14 "BundledLinks$Net" "zero" "LBundledLinks$End;", Cond.fieldLink RX4 20 "BundledLinks$Net" "one" "LBundledLinks$End;", Cond.methodLink RX4 11 yX0_init, Cond.instanceMethod yX0_init, Cond.code yX0_init cX0_init 3 none, Cond.methodLink RX0 3 objectInit, Cond.fieldLink RX0 9 "BundledLinks$End" "number" "I", Cond.classLink RX0 15 RX5, Cond.fieldLink RX0 17 "BundledLinks$End" "ports" "[LBundledLinks$Port;", Cond.instantiable RX5 11, Cond.initialized RX5]
def wsX2_init_r2 : List Cond := [Cond.classLink RX0 22 RX1, Cond.fieldLink RX0 24 "BundledLinks$End" "flows" "[LBundledLinks$Flow;", Cond.instantiable RX1 2, Cond.initialized RX1, Cond.instanceMethod yX5_init, Cond.code yX5_init cX5_init 1 none, Cond.methodLink RX5 3 objectInit, Cond.classLink RX5 9 RX3, Cond.instantiable RX3 5, Cond.initialized RX3, Cond.fieldLink RX5 12 "BundledLinks$Port" "heard" "LBundledLinks$Message;", Cond.fieldLink RX5 18 "BundledLinks$Port" "said" "LBundledLinks$Message;", Cond.instanceMethod yX3_init, Cond.code yX3_init cX3_init 1 none, Cond.methodLink RX3 1 objectInit, Cond.instanceMethod yX1_init, Cond.code yX1_init cX1_init 1 none, Cond.methodLink RX1 3 objectInit]
def wsX2_init : List Cond := .code yX2_init cX2_init 2 none :: ((wsX2_init_r1 ++ wsX2_init_r2) ++ wsX20 ++ wsX40 ++ wsX00 ++ wsX50 ++ wsX10 ++ wsX30)
def wsX2_clear : List Cond := .code yX2_clear cX2_clear 1 none :: ([.fieldLink RX2 18 "BundledLinks$History" "next" "I", .fieldLink RX2 22 "BundledLinks$History" "size" "I"] ++ wsX20)
def wsX4_copyFrom_r1 : List Cond := [Cond.fieldLink RX4 14 "BundledLinks$Net" "zero" "LBundledLinks$End;", Cond.fieldLink RX4 20 "BundledLinks$Net" "one" "LBundledLinks$End;", Cond.fieldLink RX4 26 "BundledLinks$Net" "links" "I", Cond.fieldLink RX4 30 "BundledLinks$Net" "most" "I", Cond.fieldLink RX4 33 "BundledLinks$Net" "wait" "I", Cond.fieldLink RX4 36 "BundledLinks$Net" "drain" "I", Cond.fieldLink RX4 39 "BundledLinks$Net" "ticks" "I", Cond.methodLink RX4 42 yX0_copyFrom, Cond.instanceMethod yX0_copyFrom, Cond.selects RX0 yX0_copyFrom yX0_copyFrom, Cond.initialized RX0, Cond.code yX0_copyFrom cX0_copyFrom 3 none, Cond.fieldLink RX0 29 "BundledLinks$End" "rank" "I", Cond.fieldLink RX0 17 "BundledLinks$End" "ports" "[LBundledLinks$Port;", Cond.fieldLink RX0 24 "BundledLinks$End" "flows" "[LBundledLinks$Flow;", Cond.methodLink RX0 36 yX5_copyFrom, Cond.instanceMethod yX5_copyFrom, Cond.selects RX5 yX5_copyFrom yX5_copyFrom, Cond.initialized RX5, Cond.code yX5_copyFrom cX5_copyFrom 2 none, Cond.fieldLink RX5 21 "BundledLinks$Port" "up" "Z", Cond.fieldLink RX5 25 "BundledLinks$Port" "muted" "Z", Cond.fieldLink RX5 28 "BundledLinks$Port" "key" "I", Cond.fieldLink RX5 32 "BundledLinks$Port" "priority" "I"]
def wsX4_copyFrom_r2 : List Cond := [Cond.fieldLink RX5 12 "BundledLinks$Port" "heard" "LBundledLinks$Message;", Cond.fieldLink RX5 18 "BundledLinks$Port" "said" "LBundledLinks$Message;", Cond.fieldLink RX5 38 "BundledLinks$Port" "age" "I", Cond.fieldLink RX5 41 "BundledLinks$Port" "how" "I", Cond.fieldLink RX5 44 "BundledLinks$Port" "chosen" "Z", Cond.fieldLink RX5 47 "BundledLinks$Port" "chosenFor" "I", Cond.fieldLink RX5 50 "BundledLinks$Port" "begun" "I", Cond.methodLink RX5 53 yX3_copyFrom, Cond.instanceMethod yX3_copyFrom, Cond.selects RX3 yX3_copyFrom yX3_copyFrom, Cond.initialized RX3, Cond.code yX3_copyFrom cX3_copyFrom 2 none, Cond.fieldLink RX3 7 "BundledLinks$Message" "there" "Z", Cond.fieldLink RX3 13 "BundledLinks$Message" "key" "I", Cond.fieldLink RX3 17 "BundledLinks$Message" "priority" "I", Cond.fieldLink RX3 20 "BundledLinks$Message" "rank" "I", Cond.fieldLink RX3 23 "BundledLinks$Message" "sync" "Z", Cond.methodLink RX0 40 yX1_copyFrom, Cond.instanceMethod yX1_copyFrom, Cond.selects RX1 yX1_copyFrom yX1_copyFrom, Cond.initialized RX1, Cond.code yX1_copyFrom cX1_copyFrom 2 none, Cond.fieldLink RX1 9 "BundledLinks$Flow" "link" "I", Cond.fieldLink RX1 15 "BundledLinks$Flow" "held" "I"]
def wsX4_copyFrom : List Cond := .code yX4_copyFrom cX4_copyFrom 2 none :: ((wsX4_copyFrom_r1 ++ wsX4_copyFrom_r2) ++ wsX40 ++ wsX00 ++ wsX50 ++ wsX30 ++ wsX10)
def wsX2_keep_r1 : List Cond := [Cond.fieldLink RX2 18 "BundledLinks$History" "next" "I", Cond.fieldLink RX2 11 "BundledLinks$History" "kept" "[LBundledLinks$Net;", Cond.fieldLink RX2 22 "BundledLinks$History" "size" "I", Cond.methodLink RX2 29 Lib.Math.min.name, Cond.static Lib.Math.min.name, Cond.initialized "java/lang/Math", Cond.code Lib.Math.min.name Lib.Math.min.code 2 (some .int), Cond.methodLink RX2 25 yX4_copyFrom, Cond.instanceMethod yX4_copyFrom, Cond.selects RX4 yX4_copyFrom yX4_copyFrom, Cond.initialized RX4, Cond.code yX4_copyFrom cX4_copyFrom 2 none, Cond.fieldLink RX4 14 "BundledLinks$Net" "zero" "LBundledLinks$End;", Cond.fieldLink RX4 20 "BundledLinks$Net" "one" "LBundledLinks$End;", Cond.fieldLink RX4 26 "BundledLinks$Net" "links" "I", Cond.fieldLink RX4 30 "BundledLinks$Net" "most" "I", Cond.fieldLink RX4 33 "BundledLinks$Net" "wait" "I", Cond.fieldLink RX4 36 "BundledLinks$Net" "drain" "I", Cond.fieldLink RX4 39 "BundledLinks$Net" "ticks" "I", Cond.methodLink RX4 42 yX0_copyFrom, Cond.instanceMethod yX0_copyFrom, Cond.selects RX0 yX0_copyFrom yX0_copyFrom, Cond.initialized RX0, Cond.code yX0_copyFrom cX0_copyFrom 3 none]
def wsX2_keep_r2 : List Cond := [Cond.fieldLink RX0 29 "BundledLinks$End" "rank" "I", Cond.fieldLink RX0 17 "BundledLinks$End" "ports" "[LBundledLinks$Port;", Cond.fieldLink RX0 24 "BundledLinks$End" "flows" "[LBundledLinks$Flow;", Cond.methodLink RX0 36 yX5_copyFrom, Cond.instanceMethod yX5_copyFrom, Cond.selects RX5 yX5_copyFrom yX5_copyFrom, Cond.initialized RX5, Cond.code yX5_copyFrom cX5_copyFrom 2 none, Cond.fieldLink RX5 21 "BundledLinks$Port" "up" "Z", Cond.fieldLink RX5 25 "BundledLinks$Port" "muted" "Z", Cond.fieldLink RX5 28 "BundledLinks$Port" "key" "I", Cond.fieldLink RX5 32 "BundledLinks$Port" "priority" "I", Cond.fieldLink RX5 12 "BundledLinks$Port" "heard" "LBundledLinks$Message;", Cond.fieldLink RX5 18 "BundledLinks$Port" "said" "LBundledLinks$Message;", Cond.fieldLink RX5 38 "BundledLinks$Port" "age" "I", Cond.fieldLink RX5 41 "BundledLinks$Port" "how" "I", Cond.fieldLink RX5 44 "BundledLinks$Port" "chosen" "Z", Cond.fieldLink RX5 47 "BundledLinks$Port" "chosenFor" "I", Cond.fieldLink RX5 50 "BundledLinks$Port" "begun" "I", Cond.methodLink RX5 53 yX3_copyFrom, Cond.instanceMethod yX3_copyFrom, Cond.selects RX3 yX3_copyFrom yX3_copyFrom, Cond.initialized RX3, Cond.code yX3_copyFrom cX3_copyFrom 2 none]
def wsX2_keep_r3 : List Cond := [Cond.fieldLink RX3 7 "BundledLinks$Message" "there" "Z", Cond.fieldLink RX3 13 "BundledLinks$Message" "key" "I", Cond.fieldLink RX3 17 "BundledLinks$Message" "priority" "I", Cond.fieldLink RX3 20 "BundledLinks$Message" "rank" "I", Cond.fieldLink RX3 23 "BundledLinks$Message" "sync" "Z", Cond.methodLink RX0 40 yX1_copyFrom, Cond.instanceMethod yX1_copyFrom, Cond.selects RX1 yX1_copyFrom yX1_copyFrom, Cond.initialized RX1, Cond.code yX1_copyFrom cX1_copyFrom 2 none, Cond.fieldLink RX1 9 "BundledLinks$Flow" "link" "I", Cond.fieldLink RX1 15 "BundledLinks$Flow" "held" "I"]
def wsX2_keep : List Cond := .code yX2_keep cX2_keep 2 none :: ((wsX2_keep_r1 ++ (wsX2_keep_r2 ++ wsX2_keep_r3)) ++ wsX20 ++ wsX40 ++ wsX00 ++ wsX50 ++ wsX30 ++ wsX10)
def wsX2_takeLatest : List Cond := .code yX2_takeLatest cX2_takeLatest 2 (some (.object "BundledLinks$Net")) :: ([.fieldLink RX2 18 "BundledLinks$History" "next" "I", .fieldLink RX2 11 "BundledLinks$History" "kept" "[LBundledLinks$Net;", .fieldLink RX2 22 "BundledLinks$History" "size" "I"] ++ wsX20)
def wsX4_clear_r1 : List Cond := [Cond.fieldLink RX4 14 "BundledLinks$Net" "zero" "LBundledLinks$End;", Cond.fieldLink RX4 20 "BundledLinks$Net" "one" "LBundledLinks$End;", Cond.fieldLink RX4 26 "BundledLinks$Net" "links" "I", Cond.fieldLink RX4 30 "BundledLinks$Net" "most" "I", Cond.fieldLink RX4 33 "BundledLinks$Net" "wait" "I", Cond.fieldLink RX4 36 "BundledLinks$Net" "drain" "I", Cond.fieldLink RX4 39 "BundledLinks$Net" "ticks" "I", Cond.methodLink RX4 23 yX0_clear, Cond.instanceMethod yX0_clear, Cond.selects RX0 yX0_clear yX0_clear, Cond.initialized RX0, Cond.code yX0_clear cX0_clear 5 none, Cond.fieldLink RX0 29 "BundledLinks$End" "rank" "I", Cond.fieldLink RX0 17 "BundledLinks$End" "ports" "[LBundledLinks$Port;", Cond.fieldLink RX0 24 "BundledLinks$End" "flows" "[LBundledLinks$Flow;", Cond.methodLink RX0 32 yX5_clear, Cond.instanceMethod yX5_clear, Cond.selects RX5 yX5_clear yX5_clear, Cond.initialized RX5, Cond.code yX5_clear cX5_clear 1 none, Cond.fieldLink RX5 21 "BundledLinks$Port" "up" "Z", Cond.fieldLink RX5 25 "BundledLinks$Port" "muted" "Z", Cond.fieldLink RX5 28 "BundledLinks$Port" "key" "I", Cond.fieldLink RX5 32 "BundledLinks$Port" "priority" "I"]
def wsX4_clear_r2 : List Cond := [Cond.fieldLink RX5 12 "BundledLinks$Port" "heard" "LBundledLinks$Message;", Cond.fieldLink RX5 18 "BundledLinks$Port" "said" "LBundledLinks$Message;", Cond.fieldLink RX5 38 "BundledLinks$Port" "age" "I", Cond.fieldLink RX5 41 "BundledLinks$Port" "how" "I", Cond.fieldLink RX5 44 "BundledLinks$Port" "chosen" "Z", Cond.fieldLink RX5 47 "BundledLinks$Port" "chosenFor" "I", Cond.fieldLink RX5 50 "BundledLinks$Port" "begun" "I", Cond.methodLink RX5 35 yX3_clear, Cond.instanceMethod yX3_clear, Cond.selects RX3 yX3_clear yX3_clear, Cond.initialized RX3, Cond.code yX3_clear cX3_clear 1 none, Cond.fieldLink RX3 7 "BundledLinks$Message" "there" "Z", Cond.fieldLink RX3 13 "BundledLinks$Message" "key" "I", Cond.fieldLink RX3 17 "BundledLinks$Message" "priority" "I", Cond.fieldLink RX3 20 "BundledLinks$Message" "rank" "I", Cond.fieldLink RX3 23 "BundledLinks$Message" "sync" "Z", Cond.methodLink RX0 35 yX1_clear, Cond.instanceMethod yX1_clear, Cond.selects RX1 yX1_clear yX1_clear, Cond.initialized RX1, Cond.code yX1_clear cX1_clear 1 none, Cond.fieldLink RX1 9 "BundledLinks$Flow" "link" "I", Cond.fieldLink RX1 15 "BundledLinks$Flow" "held" "I"]
def wsX4_clear : List Cond := .code yX4_clear cX4_clear 1 none :: ((wsX4_clear_r1 ++ wsX4_clear_r2) ++ wsX40 ++ wsX00 ++ wsX50 ++ wsX30 ++ wsX10)
def wsX4_looksLike : List Cond := .code yX4_looksLike cX4_looksLike 2 (some .boolean) :: ([.fieldLink RX4 14 "BundledLinks$Net" "zero" "LBundledLinks$End;", .fieldLink RX4 20 "BundledLinks$Net" "one" "LBundledLinks$End;", .methodLink RX4 46 yX0_looksLike, .instanceMethod yX0_looksLike, .selects RX0 yX0_looksLike yX0_looksLike, .initialized RX0, .code yX0_looksLike cX0_looksLike 3 (some .boolean), .fieldLink RX0 17 "BundledLinks$End" "ports" "[LBundledLinks$Port;", .fieldLink RX0 43 "BundledLinks$Port" "how" "I", .fieldLink RX0 24 "BundledLinks$End" "flows" "[LBundledLinks$Flow;", .fieldLink RX0 46 "BundledLinks$Flow" "link" "I"] ++ wsX40 ++ wsX00 ++ wsX50 ++ wsX10)
def wsX4_endOf : List Cond := .code yX4_endOf cX4_endOf 2 (some (.object "BundledLinks$End")) :: ([.fieldLink RX4 14 "BundledLinks$Net" "zero" "LBundledLinks$End;", .fieldLink RX4 20 "BundledLinks$Net" "one" "LBundledLinks$End;"] ++ wsX40)
def wsX4_portOf : List Cond := .code yX4_portOf cX4_portOf 4 (some (.object "BundledLinks$Port")) :: ([.fieldLink RX4 26 "BundledLinks$Net" "links" "I", .methodLink RX4 50 yX4_endOf, .instanceMethod yX4_endOf, .selects RX4 yX4_endOf yX4_endOf, .initialized RX4, .code yX4_endOf cX4_endOf 2 (some (.object "BundledLinks$End")), .fieldLink RX4 14 "BundledLinks$Net" "zero" "LBundledLinks$End;", .fieldLink RX4 20 "BundledLinks$Net" "one" "LBundledLinks$End;", .methodLink RX4 54 yX0_portAt, .instanceMethod yX0_portAt, .selects RX0 yX0_portAt yX0_portAt, .initialized RX0, .code yX0_portAt cX0_portAt 2 (some (.object "BundledLinks$Port")), .fieldLink RX0 17 "BundledLinks$End" "ports" "[LBundledLinks$Port;"] ++ wsX40 ++ wsX00)
def wsX4_flowOf : List Cond := .code yX4_flowOf cX4_flowOf 4 (some (.object "BundledLinks$Flow")) :: ([.methodLink RX4 50 yX4_endOf, .instanceMethod yX4_endOf, .selects RX4 yX4_endOf yX4_endOf, .initialized RX4, .code yX4_endOf cX4_endOf 2 (some (.object "BundledLinks$End")), .fieldLink RX4 14 "BundledLinks$Net" "zero" "LBundledLinks$End;", .fieldLink RX4 20 "BundledLinks$Net" "one" "LBundledLinks$End;", .methodLink RX4 58 yX0_flowAt, .instanceMethod yX0_flowAt, .selects RX0 yX0_flowAt yX0_flowAt, .initialized RX0, .code yX0_flowAt cX0_flowAt 2 (some (.object "BundledLinks$Flow")), .fieldLink RX0 24 "BundledLinks$End" "flows" "[LBundledLinks$Flow;"] ++ wsX40 ++ wsX00)
def wsX4_plugLink : List Cond := .code yX4_plugLink cX4_plugLink 5 none :: ([.fieldLink RX4 66 "BundledLinks$Port" "up" "Z", .methodLink RX4 62 yX4_portOf, .instanceMethod yX4_portOf, .selects RX4 yX4_portOf yX4_portOf, .initialized RX4, .code yX4_portOf cX4_portOf 4 (some (.object "BundledLinks$Port")), .fieldLink RX4 26 "BundledLinks$Net" "links" "I", .methodLink RX4 50 yX4_endOf, .instanceMethod yX4_endOf, .selects RX4 yX4_endOf yX4_endOf, .code yX4_endOf cX4_endOf 2 (some (.object "BundledLinks$End")), .fieldLink RX4 14 "BundledLinks$Net" "zero" "LBundledLinks$End;", .fieldLink RX4 20 "BundledLinks$Net" "one" "LBundledLinks$End;", .methodLink RX4 54 yX0_portAt, .instanceMethod yX0_portAt, .selects RX0 yX0_portAt yX0_portAt, .initialized RX0, .code yX0_portAt cX0_portAt 2 (some (.object "BundledLinks$Port")), .fieldLink RX0 17 "BundledLinks$End" "ports" "[LBundledLinks$Port;"] ++ wsX50 ++ wsX40 ++ wsX00)
def wsX4_setting : List Cond := .code yX4_setting cX4_setting 2 (some .int) :: ([.fieldLink RX4 14 "BundledLinks$Net" "zero" "LBundledLinks$End;", .fieldLink RX4 72 "BundledLinks$End" "rank" "I", .fieldLink RX4 20 "BundledLinks$Net" "one" "LBundledLinks$End;", .fieldLink RX4 30 "BundledLinks$Net" "most" "I"] ++ wsX40 ++ wsX00)
def wsX4_changeSetting : List Cond := .code yX4_changeSetting cX4_changeSetting 3 none :: ([.fieldLink RX4 14 "BundledLinks$Net" "zero" "LBundledLinks$End;", .fieldLink RX4 72 "BundledLinks$End" "rank" "I", .fieldLink RX4 20 "BundledLinks$Net" "one" "LBundledLinks$End;", .fieldLink RX4 30 "BundledLinks$Net" "most" "I"] ++ wsX40 ++ wsX00)
def wsX4_stepOf_r1 : List Cond := [Cond.fieldLink RX4 30 "BundledLinks$Net" "most" "I", Cond.fieldLink RX4 33 "BundledLinks$Net" "wait" "I", Cond.fieldLink RX4 36 "BundledLinks$Net" "drain" "I", Cond.methodLink RX4 81 yX0_choose, Cond.instanceMethod yX0_choose, Cond.selects RX0 yX0_choose yX0_choose, Cond.initialized RX0, Cond.code yX0_choose cX0_choose 6 none, Cond.fieldLink RX0 17 "BundledLinks$End" "ports" "[LBundledLinks$Port;", Cond.fieldLink RX0 57 "BundledLinks$Port" "chosen" "Z", Cond.methodLink RX0 61 yX0_decides, Cond.instanceMethod yX0_decides, Cond.selects RX0 yX0_decides yX0_decides, Cond.code yX0_decides cX0_decides 6 (some .boolean), Cond.fieldLink RX0 69 "BundledLinks$Port" "heard" "LBundledLinks$Message;", Cond.fieldLink RX0 72 "BundledLinks$Message" "there" "Z", Cond.fieldLink RX0 77 "BundledLinks$Message" "rank" "I", Cond.fieldLink RX0 9 "BundledLinks$End" "number" "I", Cond.fieldLink RX0 29 "BundledLinks$End" "rank" "I", Cond.methodLink RX0 65 yX0_bestOpen, Cond.instanceMethod yX0_bestOpen, Cond.selects RX0 yX0_bestOpen yX0_bestOpen, Cond.code yX0_bestOpen cX0_bestOpen 9 (some (.object "BundledLinks$Port")), Cond.methodLink RX0 78 yX5_hasPairOf]
def wsX4_stepOf_r2 : List Cond := [Cond.instanceMethod yX5_hasPairOf, Cond.selects RX5 yX5_hasPairOf yX5_hasPairOf, Cond.initialized RX5, Cond.code yX5_hasPairOf cX5_hasPairOf 2 (some .boolean), Cond.fieldLink RX5 28 "BundledLinks$Port" "key" "I", Cond.fieldLink RX5 12 "BundledLinks$Port" "heard" "LBundledLinks$Message;", Cond.fieldLink RX5 61 "BundledLinks$Message" "key" "I", Cond.methodLink RX0 82 yX5_priorityBy, Cond.instanceMethod yX5_priorityBy, Cond.selects RX5 yX5_priorityBy yX5_priorityBy, Cond.code yX5_priorityBy cX5_priorityBy 2 (some .int), Cond.fieldLink RX5 32 "BundledLinks$Port" "priority" "I", Cond.fieldLink RX5 60 "BundledLinks$Message" "priority" "I", Cond.methodLink RX4 84 yX0_judgeAndSay, Cond.instanceMethod yX0_judgeAndSay, Cond.selects RX0 yX0_judgeAndSay yX0_judgeAndSay, Cond.code yX0_judgeAndSay cX0_judgeAndSay 6 none, Cond.methodLink RX0 86 yX5_judge, Cond.instanceMethod yX5_judge, Cond.selects RX5 yX5_judge yX5_judge, Cond.code yX5_judge cX5_judge 3 none, Cond.fieldLink RX5 44 "BundledLinks$Port" "chosen" "Z", Cond.fieldLink RX5 47 "BundledLinks$Port" "chosenFor" "I", Cond.fieldLink RX5 41 "BundledLinks$Port" "how" "I"]
def wsX4_stepOf_r3 : List Cond := [Cond.fieldLink RX5 50 "BundledLinks$Port" "begun" "I", Cond.methodLink RX5 62 yX5_howNow, Cond.instanceMethod yX5_howNow, Cond.selects RX5 yX5_howNow yX5_howNow, Cond.code yX5_howNow cX5_howNow 2 (some .int), Cond.fieldLink RX5 21 "BundledLinks$Port" "up" "Z", Cond.fieldLink RX5 57 "BundledLinks$Message" "there" "Z", Cond.fieldLink RX5 66 "BundledLinks$Message" "sync" "Z", Cond.methodLink RX0 90 yX5_say, Cond.instanceMethod yX5_say, Cond.selects RX5 yX5_say yX5_say, Cond.code yX5_say cX5_say 2 none, Cond.fieldLink RX5 18 "BundledLinks$Port" "said" "LBundledLinks$Message;", Cond.fieldLink RX5 25 "BundledLinks$Port" "muted" "Z", Cond.fieldLink RX5 69 "BundledLinks$Message" "rank" "I", Cond.methodLink RX4 87 yX0_dealFlows, Cond.instanceMethod yX0_dealFlows, Cond.selects RX0 yX0_dealFlows yX0_dealFlows, Cond.code yX0_dealFlows cX0_dealFlows 4 none, Cond.fieldLink RX0 24 "BundledLinks$End" "flows" "[LBundledLinks$Flow;", Cond.methodLink RX0 93 yX0_howManySending, Cond.instanceMethod yX0_howManySending, Cond.selects RX0 yX0_howManySending yX0_howManySending, Cond.code yX0_howManySending cX0_howManySending 6 (some .int)]
def wsX4_stepOf_r4 : List Cond := [Cond.fieldLink RX0 43 "BundledLinks$Port" "how" "I", Cond.methodLink RX0 97 yX0_wantedBy, Cond.instanceMethod yX0_wantedBy, Cond.selects RX0 yX0_wantedBy yX0_wantedBy, Cond.code yX0_wantedBy cX0_wantedBy 5 (some .int), Cond.methodLink RX0 101 yX1_deal, Cond.instanceMethod yX1_deal, Cond.selects RX1 yX1_deal yX1_deal, Cond.initialized RX1, Cond.code yX1_deal cX1_deal 3 none, Cond.fieldLink RX1 15 "BundledLinks$Flow" "held" "I", Cond.fieldLink RX1 9 "BundledLinks$Flow" "link" "I"]
def wsX4_stepOf : List Cond := .code yX4_stepOf cX4_stepOf 2 none :: ((wsX4_stepOf_r1 ++ (wsX4_stepOf_r2 ++ (wsX4_stepOf_r3 ++ wsX4_stepOf_r4))) ++ wsX40 ++ wsX00 ++ wsX50 ++ wsX30 ++ wsX10)
def wsX4_step_r1 : List Cond := [Cond.fieldLink RX4 14 "BundledLinks$Net" "zero" "LBundledLinks$End;", Cond.fieldLink RX4 20 "BundledLinks$Net" "one" "LBundledLinks$End;", Cond.fieldLink RX4 39 "BundledLinks$Net" "ticks" "I", Cond.methodLink RX4 75 yX0_hearFrom, Cond.instanceMethod yX0_hearFrom, Cond.selects RX0 yX0_hearFrom yX0_hearFrom, Cond.initialized RX0, Cond.code yX0_hearFrom cX0_hearFrom 3 none, Cond.fieldLink RX0 17 "BundledLinks$End" "ports" "[LBundledLinks$Port;", Cond.fieldLink RX0 49 "BundledLinks$Port" "said" "LBundledLinks$Message;", Cond.methodLink RX0 53 yX5_hear, Cond.instanceMethod yX5_hear, Cond.selects RX5 yX5_hear yX5_hear, Cond.initialized RX5, Cond.code yX5_hear cX5_hear 2 none, Cond.fieldLink RX5 21 "BundledLinks$Port" "up" "Z", Cond.fieldLink RX5 12 "BundledLinks$Port" "heard" "LBundledLinks$Message;", Cond.fieldLink RX5 57 "BundledLinks$Message" "there" "Z", Cond.fieldLink RX5 38 "BundledLinks$Port" "age" "I", Cond.methodLink RX5 53 yX3_copyFrom, Cond.instanceMethod yX3_copyFrom, Cond.selects RX3 yX3_copyFrom yX3_copyFrom, Cond.initialized RX3, Cond.code yX3_copyFrom cX3_copyFrom 2 none]
def wsX4_step_r2 : List Cond := [Cond.fieldLink RX3 7 "BundledLinks$Message" "there" "Z", Cond.fieldLink RX3 13 "BundledLinks$Message" "key" "I", Cond.fieldLink RX3 17 "BundledLinks$Message" "priority" "I", Cond.fieldLink RX3 20 "BundledLinks$Message" "rank" "I", Cond.fieldLink RX3 23 "BundledLinks$Message" "sync" "Z", Cond.methodLink RX4 78 yX4_stepOf, Cond.instanceMethod yX4_stepOf, Cond.selects RX4 yX4_stepOf yX4_stepOf, Cond.initialized RX4, Cond.code yX4_stepOf cX4_stepOf 2 none, Cond.fieldLink RX4 30 "BundledLinks$Net" "most" "I", Cond.fieldLink RX4 33 "BundledLinks$Net" "wait" "I", Cond.fieldLink RX4 36 "BundledLinks$Net" "drain" "I", Cond.methodLink RX4 81 yX0_choose, Cond.instanceMethod yX0_choose, Cond.selects RX0 yX0_choose yX0_choose, Cond.code yX0_choose cX0_choose 6 none, Cond.fieldLink RX0 57 "BundledLinks$Port" "chosen" "Z", Cond.methodLink RX0 61 yX0_decides, Cond.instanceMethod yX0_decides, Cond.selects RX0 yX0_decides yX0_decides, Cond.code yX0_decides cX0_decides 6 (some .boolean), Cond.fieldLink RX0 69 "BundledLinks$Port" "heard" "LBundledLinks$Message;", Cond.fieldLink RX0 72 "BundledLinks$Message" "there" "Z"]
def wsX4_step_r3 : List Cond := [Cond.fieldLink RX0 77 "BundledLinks$Message" "rank" "I", Cond.fieldLink RX0 9 "BundledLinks$End" "number" "I", Cond.fieldLink RX0 29 "BundledLinks$End" "rank" "I", Cond.methodLink RX0 65 yX0_bestOpen, Cond.instanceMethod yX0_bestOpen, Cond.selects RX0 yX0_bestOpen yX0_bestOpen, Cond.code yX0_bestOpen cX0_bestOpen 9 (some (.object "BundledLinks$Port")), Cond.methodLink RX0 78 yX5_hasPairOf, Cond.instanceMethod yX5_hasPairOf, Cond.selects RX5 yX5_hasPairOf yX5_hasPairOf, Cond.code yX5_hasPairOf cX5_hasPairOf 2 (some .boolean), Cond.fieldLink RX5 28 "BundledLinks$Port" "key" "I", Cond.fieldLink RX5 61 "BundledLinks$Message" "key" "I", Cond.methodLink RX0 82 yX5_priorityBy, Cond.instanceMethod yX5_priorityBy, Cond.selects RX5 yX5_priorityBy yX5_priorityBy, Cond.code yX5_priorityBy cX5_priorityBy 2 (some .int), Cond.fieldLink RX5 32 "BundledLinks$Port" "priority" "I", Cond.fieldLink RX5 60 "BundledLinks$Message" "priority" "I", Cond.methodLink RX4 84 yX0_judgeAndSay, Cond.instanceMethod yX0_judgeAndSay, Cond.selects RX0 yX0_judgeAndSay yX0_judgeAndSay, Cond.code yX0_judgeAndSay cX0_judgeAndSay 6 none, Cond.methodLink RX0 86 yX5_judge]
def wsX4_step_r4 : List Cond := [Cond.instanceMethod yX5_judge, Cond.selects RX5 yX5_judge yX5_judge, Cond.code yX5_judge cX5_judge 3 none, Cond.fieldLink RX5 44 "BundledLinks$Port" "chosen" "Z", Cond.fieldLink RX5 47 "BundledLinks$Port" "chosenFor" "I", Cond.fieldLink RX5 41 "BundledLinks$Port" "how" "I", Cond.fieldLink RX5 50 "BundledLinks$Port" "begun" "I", Cond.methodLink RX5 62 yX5_howNow, Cond.instanceMethod yX5_howNow, Cond.selects RX5 yX5_howNow yX5_howNow, Cond.code yX5_howNow cX5_howNow 2 (some .int), Cond.fieldLink RX5 66 "BundledLinks$Message" "sync" "Z", Cond.methodLink RX0 90 yX5_say, Cond.instanceMethod yX5_say, Cond.selects RX5 yX5_say yX5_say, Cond.code yX5_say cX5_say 2 none, Cond.fieldLink RX5 18 "BundledLinks$Port" "said" "LBundledLinks$Message;", Cond.fieldLink RX5 25 "BundledLinks$Port" "muted" "Z", Cond.fieldLink RX5 69 "BundledLinks$Message" "rank" "I", Cond.methodLink RX4 87 yX0_dealFlows, Cond.instanceMethod yX0_dealFlows, Cond.selects RX0 yX0_dealFlows yX0_dealFlows, Cond.code yX0_dealFlows cX0_dealFlows 4 none, Cond.fieldLink RX0 24 "BundledLinks$End" "flows" "[LBundledLinks$Flow;"]
def wsX4_step_r5 : List Cond := [Cond.methodLink RX0 93 yX0_howManySending, Cond.instanceMethod yX0_howManySending, Cond.selects RX0 yX0_howManySending yX0_howManySending, Cond.code yX0_howManySending cX0_howManySending 6 (some .int), Cond.fieldLink RX0 43 "BundledLinks$Port" "how" "I", Cond.methodLink RX0 97 yX0_wantedBy, Cond.instanceMethod yX0_wantedBy, Cond.selects RX0 yX0_wantedBy yX0_wantedBy, Cond.code yX0_wantedBy cX0_wantedBy 5 (some .int), Cond.methodLink RX0 101 yX1_deal, Cond.instanceMethod yX1_deal, Cond.selects RX1 yX1_deal yX1_deal, Cond.initialized RX1, Cond.code yX1_deal cX1_deal 3 none, Cond.fieldLink RX1 15 "BundledLinks$Flow" "held" "I", Cond.fieldLink RX1 9 "BundledLinks$Flow" "link" "I"]
def wsX4_step : List Cond := .code yX4_step cX4_step 1 none :: ((wsX4_step_r1 ++ (wsX4_step_r2 ++ (wsX4_step_r3 ++ (wsX4_step_r4 ++ wsX4_step_r5)))) ++ wsX40 ++ wsX00 ++ wsX50 ++ wsX30 ++ wsX10)
def wsX6_letterAt : List Cond := .code yX6_letterAt cX6_letterAt 2 (some .int) :: ([.fieldLink RX6 15 "BundledLinks$Text" "size" "I", .fieldLink RX6 9 "BundledLinks$Text" "letters" "[I"] ++ wsX60)
def wsX6_number : List Cond := .code yX6_number cX6_number 3 (some .int) :: ([.methodLink RX6 19 yX6_letterAt, .instanceMethod yX6_letterAt, .selects RX6 yX6_letterAt yX6_letterAt, .initialized RX6, .code yX6_letterAt cX6_letterAt 2 (some .int), .fieldLink RX6 15 "BundledLinks$Text" "size" "I", .fieldLink RX6 9 "BundledLinks$Text" "letters" "[I"] ++ wsX60)
def wsX5_begin : List Cond := .code yX5_begin cX5_begin 3 none :: ([.fieldLink RX5 21 "BundledLinks$Port" "up" "Z", .fieldLink RX5 41 "BundledLinks$Port" "how" "I", .fieldLink RX5 28 "BundledLinks$Port" "key" "I", .fieldLink RX5 32 "BundledLinks$Port" "priority" "I"] ++ wsX50)
def wsX4_addLink_r1 : List Cond := [Cond.fieldLink RX4 14 "BundledLinks$Net" "zero" "LBundledLinks$End;", Cond.fieldLink RX4 26 "BundledLinks$Net" "links" "I", Cond.fieldLink RX4 20 "BundledLinks$Net" "one" "LBundledLinks$End;", Cond.methodLink RX4 54 yX0_portAt, Cond.instanceMethod yX0_portAt, Cond.selects RX0 yX0_portAt yX0_portAt, Cond.initialized RX0, Cond.code yX0_portAt cX0_portAt 2 (some (.object "BundledLinks$Port")), Cond.fieldLink RX0 17 "BundledLinks$End" "ports" "[LBundledLinks$Port;", Cond.methodLink RX4 110 yX6_number, Cond.instanceMethod yX6_number, Cond.selects RX6 yX6_number yX6_number, Cond.initialized RX6, Cond.code yX6_number cX6_number 3 (some .int), Cond.methodLink RX6 19 yX6_letterAt, Cond.instanceMethod yX6_letterAt, Cond.selects RX6 yX6_letterAt yX6_letterAt, Cond.code yX6_letterAt cX6_letterAt 2 (some .int), Cond.fieldLink RX6 15 "BundledLinks$Text" "size" "I", Cond.fieldLink RX6 9 "BundledLinks$Text" "letters" "[I", Cond.methodLink RX4 114 yX5_begin, Cond.instanceMethod yX5_begin, Cond.selects RX5 yX5_begin yX5_begin, Cond.initialized RX5]
def wsX4_addLink_r2 : List Cond := [Cond.code yX5_begin cX5_begin 3 none, Cond.fieldLink RX5 21 "BundledLinks$Port" "up" "Z", Cond.fieldLink RX5 41 "BundledLinks$Port" "how" "I", Cond.fieldLink RX5 28 "BundledLinks$Port" "key" "I", Cond.fieldLink RX5 32 "BundledLinks$Port" "priority" "I"]
def wsX4_addLink : List Cond := .code yX4_addLink cX4_addLink 5 none :: ((wsX4_addLink_r1 ++ wsX4_addLink_r2) ++ wsX40 ++ wsX00 ++ wsX60 ++ wsX50)
def wsX4_layItem_r1 : List Cond := [Cond.fieldLink RX4 14 "BundledLinks$Net" "zero" "LBundledLinks$End;", Cond.fieldLink RX4 72 "BundledLinks$End" "rank" "I", Cond.fieldLink RX4 20 "BundledLinks$Net" "one" "LBundledLinks$End;", Cond.fieldLink RX4 30 "BundledLinks$Net" "most" "I", Cond.fieldLink RX4 33 "BundledLinks$Net" "wait" "I", Cond.fieldLink RX4 36 "BundledLinks$Net" "drain" "I", Cond.methodLink RX4 104 yX6_letterAt, Cond.instanceMethod yX6_letterAt, Cond.selects RX6 yX6_letterAt yX6_letterAt, Cond.initialized RX6, Cond.code yX6_letterAt cX6_letterAt 2 (some .int), Cond.fieldLink RX6 15 "BundledLinks$Text" "size" "I", Cond.fieldLink RX6 9 "BundledLinks$Text" "letters" "[I", Cond.methodLink RX4 107 yX4_addLink, Cond.instanceMethod yX4_addLink, Cond.selects RX4 yX4_addLink yX4_addLink, Cond.initialized RX4, Cond.code yX4_addLink cX4_addLink 5 none, Cond.fieldLink RX4 26 "BundledLinks$Net" "links" "I", Cond.methodLink RX4 54 yX0_portAt, Cond.instanceMethod yX0_portAt, Cond.selects RX0 yX0_portAt yX0_portAt, Cond.initialized RX0, Cond.code yX0_portAt cX0_portAt 2 (some (.object "BundledLinks$Port"))]
def wsX4_layItem_r2 : List Cond := [Cond.fieldLink RX0 17 "BundledLinks$End" "ports" "[LBundledLinks$Port;", Cond.methodLink RX4 110 yX6_number, Cond.instanceMethod yX6_number, Cond.selects RX6 yX6_number yX6_number, Cond.code yX6_number cX6_number 3 (some .int), Cond.methodLink RX6 19 yX6_letterAt, Cond.methodLink RX4 114 yX5_begin, Cond.instanceMethod yX5_begin, Cond.selects RX5 yX5_begin yX5_begin, Cond.initialized RX5, Cond.code yX5_begin cX5_begin 3 none, Cond.fieldLink RX5 21 "BundledLinks$Port" "up" "Z", Cond.fieldLink RX5 41 "BundledLinks$Port" "how" "I", Cond.fieldLink RX5 28 "BundledLinks$Port" "key" "I", Cond.fieldLink RX5 32 "BundledLinks$Port" "priority" "I"]
def wsX4_layItem : List Cond := .code yX4_layItem cX4_layItem 3 none :: ((wsX4_layItem_r1 ++ wsX4_layItem_r2) ++ wsX40 ++ wsX00 ++ wsX60 ++ wsX50)
def wsX6_numbersOfItem : List Cond := .code yX6_numbersOfItem cX6_numbersOfItem 2 (some .int) :: ([.methodLink RX6 19 yX6_letterAt, .instanceMethod yX6_letterAt, .selects RX6 yX6_letterAt yX6_letterAt, .initialized RX6, .code yX6_letterAt cX6_letterAt 2 (some .int), .fieldLink RX6 15 "BundledLinks$Text" "size" "I", .fieldLink RX6 9 "BundledLinks$Text" "letters" "[I"] ++ wsX60)
def wsX6_lengthOfItem : List Cond := .code yX6_lengthOfItem cX6_lengthOfItem 2 (some .int) :: ([.methodLink RX6 30 yX6_numbersOfItem, .instanceMethod yX6_numbersOfItem, .selects RX6 yX6_numbersOfItem yX6_numbersOfItem, .initialized RX6, .code yX6_numbersOfItem cX6_numbersOfItem 2 (some .int), .methodLink RX6 19 yX6_letterAt, .instanceMethod yX6_letterAt, .selects RX6 yX6_letterAt yX6_letterAt, .code yX6_letterAt cX6_letterAt 2 (some .int), .fieldLink RX6 15 "BundledLinks$Text" "size" "I", .fieldLink RX6 9 "BundledLinks$Text" "letters" "[I"] ++ wsX60)
def wsX4_layOut_r1 : List Cond := [Cond.fieldLink RX4 91 "BundledLinks$Text" "size" "I", Cond.methodLink RX4 90 yX4_clear, Cond.instanceMethod yX4_clear, Cond.selects RX4 yX4_clear yX4_clear, Cond.initialized RX4, Cond.code yX4_clear cX4_clear 1 none, Cond.fieldLink RX4 14 "BundledLinks$Net" "zero" "LBundledLinks$End;", Cond.fieldLink RX4 20 "BundledLinks$Net" "one" "LBundledLinks$End;", Cond.fieldLink RX4 26 "BundledLinks$Net" "links" "I", Cond.fieldLink RX4 30 "BundledLinks$Net" "most" "I", Cond.fieldLink RX4 33 "BundledLinks$Net" "wait" "I", Cond.fieldLink RX4 36 "BundledLinks$Net" "drain" "I", Cond.fieldLink RX4 39 "BundledLinks$Net" "ticks" "I", Cond.methodLink RX4 23 yX0_clear, Cond.instanceMethod yX0_clear, Cond.selects RX0 yX0_clear yX0_clear, Cond.initialized RX0, Cond.code yX0_clear cX0_clear 5 none, Cond.fieldLink RX0 29 "BundledLinks$End" "rank" "I", Cond.fieldLink RX0 17 "BundledLinks$End" "ports" "[LBundledLinks$Port;", Cond.fieldLink RX0 24 "BundledLinks$End" "flows" "[LBundledLinks$Flow;", Cond.methodLink RX0 32 yX5_clear, Cond.instanceMethod yX5_clear, Cond.selects RX5 yX5_clear yX5_clear]
def wsX4_layOut_r2 : List Cond := [Cond.initialized RX5, Cond.code yX5_clear cX5_clear 1 none, Cond.fieldLink RX5 21 "BundledLinks$Port" "up" "Z", Cond.fieldLink RX5 25 "BundledLinks$Port" "muted" "Z", Cond.fieldLink RX5 28 "BundledLinks$Port" "key" "I", Cond.fieldLink RX5 32 "BundledLinks$Port" "priority" "I", Cond.fieldLink RX5 12 "BundledLinks$Port" "heard" "LBundledLinks$Message;", Cond.fieldLink RX5 18 "BundledLinks$Port" "said" "LBundledLinks$Message;", Cond.fieldLink RX5 38 "BundledLinks$Port" "age" "I", Cond.fieldLink RX5 41 "BundledLinks$Port" "how" "I", Cond.fieldLink RX5 44 "BundledLinks$Port" "chosen" "Z", Cond.fieldLink RX5 47 "BundledLinks$Port" "chosenFor" "I", Cond.fieldLink RX5 50 "BundledLinks$Port" "begun" "I", Cond.methodLink RX5 35 yX3_clear, Cond.instanceMethod yX3_clear, Cond.selects RX3 yX3_clear yX3_clear, Cond.initialized RX3, Cond.code yX3_clear cX3_clear 1 none, Cond.fieldLink RX3 7 "BundledLinks$Message" "there" "Z", Cond.fieldLink RX3 13 "BundledLinks$Message" "key" "I", Cond.fieldLink RX3 17 "BundledLinks$Message" "priority" "I", Cond.fieldLink RX3 20 "BundledLinks$Message" "rank" "I", Cond.fieldLink RX3 23 "BundledLinks$Message" "sync" "Z", Cond.methodLink RX0 35 yX1_clear]
def wsX4_layOut_r3 : List Cond := [Cond.instanceMethod yX1_clear, Cond.selects RX1 yX1_clear yX1_clear, Cond.initialized RX1, Cond.code yX1_clear cX1_clear 1 none, Cond.fieldLink RX1 9 "BundledLinks$Flow" "link" "I", Cond.fieldLink RX1 15 "BundledLinks$Flow" "held" "I", Cond.methodLink RX4 96 yX4_layItem, Cond.instanceMethod yX4_layItem, Cond.selects RX4 yX4_layItem yX4_layItem, Cond.code yX4_layItem cX4_layItem 3 none, Cond.fieldLink RX4 72 "BundledLinks$End" "rank" "I", Cond.methodLink RX4 104 yX6_letterAt, Cond.instanceMethod yX6_letterAt, Cond.selects RX6 yX6_letterAt yX6_letterAt, Cond.initialized RX6, Cond.code yX6_letterAt cX6_letterAt 2 (some .int), Cond.fieldLink RX6 15 "BundledLinks$Text" "size" "I", Cond.fieldLink RX6 9 "BundledLinks$Text" "letters" "[I", Cond.methodLink RX4 107 yX4_addLink, Cond.instanceMethod yX4_addLink, Cond.selects RX4 yX4_addLink yX4_addLink, Cond.code yX4_addLink cX4_addLink 5 none, Cond.methodLink RX4 54 yX0_portAt, Cond.instanceMethod yX0_portAt]
def wsX4_layOut_r4 : List Cond := [Cond.selects RX0 yX0_portAt yX0_portAt, Cond.code yX0_portAt cX0_portAt 2 (some (.object "BundledLinks$Port")), Cond.methodLink RX4 110 yX6_number, Cond.instanceMethod yX6_number, Cond.selects RX6 yX6_number yX6_number, Cond.code yX6_number cX6_number 3 (some .int), Cond.methodLink RX6 19 yX6_letterAt, Cond.methodLink RX4 114 yX5_begin, Cond.instanceMethod yX5_begin, Cond.selects RX5 yX5_begin yX5_begin, Cond.code yX5_begin cX5_begin 3 none, Cond.methodLink RX4 100 yX6_lengthOfItem, Cond.instanceMethod yX6_lengthOfItem, Cond.selects RX6 yX6_lengthOfItem yX6_lengthOfItem, Cond.code yX6_lengthOfItem cX6_lengthOfItem 2 (some .int), Cond.methodLink RX6 30 yX6_numbersOfItem, Cond.instanceMethod yX6_numbersOfItem, Cond.selects RX6 yX6_numbersOfItem yX6_numbersOfItem, Cond.code yX6_numbersOfItem cX6_numbersOfItem 2 (some .int)]
def wsX4_layOut : List Cond := .code yX4_layOut cX4_layOut 4 none :: ((wsX4_layOut_r1 ++ (wsX4_layOut_r2 ++ (wsX4_layOut_r3 ++ wsX4_layOut_r4))) ++ wsX60 ++ wsX40 ++ wsX00 ++ wsX50 ++ wsX30 ++ wsX10)
def wsX5_known : List Cond := .code yX5_known cX5_known 2 (some .int) :: ([.fieldLink RX5 12 "BundledLinks$Port" "heard" "LBundledLinks$Message;", .fieldLink RX5 57 "BundledLinks$Message" "there" "Z"] ++ wsX50 ++ wsX30)
def wsX5_look : List Cond := .code yX5_look cX5_look 2 (some .int) :: ([.fieldLink RX5 28 "BundledLinks$Port" "key" "I", .fieldLink RX5 32 "BundledLinks$Port" "priority" "I", .fieldLink RX5 41 "BundledLinks$Port" "how" "I", .fieldLink RX5 38 "BundledLinks$Port" "age" "I", .fieldLink RX5 12 "BundledLinks$Port" "heard" "LBundledLinks$Message;", .fieldLink RX5 61 "BundledLinks$Message" "key" "I", .fieldLink RX5 60 "BundledLinks$Message" "priority" "I", .fieldLink RX5 69 "BundledLinks$Message" "rank" "I", .fieldLink RX5 66 "BundledLinks$Message" "sync" "Z", .fieldLink RX5 44 "BundledLinks$Port" "chosen" "Z", .fieldLink RX5 47 "BundledLinks$Port" "chosenFor" "I", .fieldLink RX5 50 "BundledLinks$Port" "begun" "I", .fieldLink RX5 25 "BundledLinks$Port" "muted" "Z", .methodLink RX5 72 yX5_known, .instanceMethod yX5_known, .selects RX5 yX5_known yX5_known, .initialized RX5, .code yX5_known cX5_known 2 (some .int), .fieldLink RX5 57 "BundledLinks$Message" "there" "Z"] ++ wsX50 ++ wsX30)
def wsX6_init : List Cond := .code yX6_init cX6_init 1 none :: ([.methodLink RX6 3 objectInit, .instanceMethod objectInit, .code objectInit ⟨#[0xb1]⟩ 1 none, .arrayClass .int, .fieldLink RX6 9 "BundledLinks$Text" "letters" "[I"] ++ wsX60)
def wsX6_add : List Cond := .code yX6_add cX6_add 2 (some .boolean) :: ([.fieldLink RX6 15 "BundledLinks$Text" "size" "I", .fieldLink RX6 9 "BundledLinks$Text" "letters" "[I"] ++ wsX60)
def wsX6_clear : List Cond := .code yX6_clear cX6_clear 1 none :: ([.fieldLink RX6 15 "BundledLinks$Text" "size" "I"] ++ wsX60)
def wsX7_isFigure : List Cond := .code yX7_isFigure cX7_isFigure 1 (some .boolean) :: ([])
def wsX7_isMost : List Cond := .code yX7_isMost cX7_isMost 1 (some .boolean) :: ([])
def wsX6_isItem : List Cond := .code yX6_isItem cX6_isItem 5 (some .boolean) :: ([.methodLink RX6 30 yX6_numbersOfItem, .instanceMethod yX6_numbersOfItem, .selects RX6 yX6_numbersOfItem yX6_numbersOfItem, .initialized RX6, .code yX6_numbersOfItem cX6_numbersOfItem 2 (some .int), .methodLink RX6 19 yX6_letterAt, .instanceMethod yX6_letterAt, .selects RX6 yX6_letterAt yX6_letterAt, .code yX6_letterAt cX6_letterAt 2 (some .int), .fieldLink RX6 15 "BundledLinks$Text" "size" "I", .fieldLink RX6 9 "BundledLinks$Text" "letters" "[I", .methodLink RX6 33 yX6_number, .instanceMethod yX6_number, .selects RX6 yX6_number yX6_number, .code yX6_number cX6_number 3 (some .int), .static yX7_isFigure, .initialized RX7, .code yX7_isFigure cX7_isFigure 1 (some .boolean), .static yX7_isMost, .code yX7_isMost cX7_isMost 1 (some .boolean)] ++ wsX60)
def wsX6_firstFault_r1 : List Cond := [Cond.fieldLink RX6 15 "BundledLinks$Text" "size" "I", Cond.methodLink RX6 19 yX6_letterAt, Cond.instanceMethod yX6_letterAt, Cond.selects RX6 yX6_letterAt yX6_letterAt, Cond.initialized RX6, Cond.code yX6_letterAt cX6_letterAt 2 (some .int), Cond.fieldLink RX6 9 "BundledLinks$Text" "letters" "[I", Cond.methodLink RX6 23 yX6_isItem, Cond.instanceMethod yX6_isItem, Cond.selects RX6 yX6_isItem yX6_isItem, Cond.code yX6_isItem cX6_isItem 5 (some .boolean), Cond.methodLink RX6 30 yX6_numbersOfItem, Cond.instanceMethod yX6_numbersOfItem, Cond.selects RX6 yX6_numbersOfItem yX6_numbersOfItem, Cond.code yX6_numbersOfItem cX6_numbersOfItem 2 (some .int), Cond.methodLink RX6 33 yX6_number, Cond.instanceMethod yX6_number, Cond.selects RX6 yX6_number yX6_number, Cond.code yX6_number cX6_number 3 (some .int), Cond.static yX7_isFigure, Cond.initialized RX7, Cond.code yX7_isFigure cX7_isFigure 1 (some .boolean), Cond.static yX7_isMost, Cond.code yX7_isMost cX7_isMost 1 (some .boolean)]
def wsX6_firstFault_r2 : List Cond := [Cond.methodLink RX6 27 yX6_lengthOfItem, Cond.instanceMethod yX6_lengthOfItem, Cond.selects RX6 yX6_lengthOfItem yX6_lengthOfItem, Cond.code yX6_lengthOfItem cX6_lengthOfItem 2 (some .int)]
def wsX6_firstFault : List Cond := .code yX6_firstFault cX6_firstFault 4 (some .int) :: ((wsX6_firstFault_r1 ++ wsX6_firstFault_r2) ++ wsX60)
def wsX6_tellsLink : List Cond := .code yX6_tellsLink cX6_tellsLink 2 (some .boolean) :: ([.fieldLink RX6 15 "BundledLinks$Text" "size" "I", .methodLink RX6 19 yX6_letterAt, .instanceMethod yX6_letterAt, .selects RX6 yX6_letterAt yX6_letterAt, .initialized RX6, .code yX6_letterAt cX6_letterAt 2 (some .int), .fieldLink RX6 9 "BundledLinks$Text" "letters" "[I"] ++ wsX60)
def wsJ0_coder_7d493 : List Cond := .code yJ0_coder_7d493 cJ0_coder_7d493 1 (some .byte) :: ([.fieldLink RJ0 38 "java/lang/String" "COMPACT_STRINGS" "Z", .fieldLink RJ0 15 "java/lang/String" "coder" "B"])
def wsJ0_length_8abf5 : List Cond := .code yJ0_length_8abf5 cJ0_length_8abf5 1 (some .int) :: ([.fieldLink RJ0 9 "java/lang/String" "value" "[B", .methodLink RJ0 335 yJ0_coder_7d493, .instanceMethod yJ0_coder_7d493, .selects RJ0 yJ0_coder_7d493 yJ0_coder_7d493, .initialized RJ0, .code yJ0_coder_7d493 cJ0_coder_7d493 1 (some .byte), .fieldLink RJ0 38 "java/lang/String" "COMPACT_STRINGS" "Z", .fieldLink RJ0 15 "java/lang/String" "coder" "B"])
def wsJ0_isLatin1_aae02 : List Cond := .code yJ0_isLatin1_aae02 cJ0_isLatin1_aae02 1 (some .boolean) :: ([.fieldLink RJ0 38 "java/lang/String" "COMPACT_STRINGS" "Z", .fieldLink RJ0 15 "java/lang/String" "coder" "B"])
def wsJ3_checkIndex_8e157 : List Cond := .code yJ3_checkIndex_8e157 cJ3_checkIndex_8e157 3 (some .int) :: ([])
def wsJ0_checkIndex_df160 : List Cond := .code yJ0_checkIndex_df160 cJ0_checkIndex_df160 2 none :: ([.fieldLink RJ0 1053 "jdk/internal/util/Preconditions" "SIOOBE_FORMATTER" "Ljava/util/function/BiFunction;", .methodLink RJ0 1059 yJ3_checkIndex_8e157, .static yJ3_checkIndex_8e157, .initialized RJ3, .code yJ3_checkIndex_8e157 cJ3_checkIndex_8e157 3 (some .int)])
def wsJ1_charAt_3b067 : List Cond := .code yJ1_charAt_3b067 cJ1_charAt_3b067 2 (some .char) :: ([.methodLink RJ1 9 yJ0_checkIndex_df160, .static yJ0_checkIndex_df160, .initialized RJ0, .code yJ0_checkIndex_df160 cJ0_checkIndex_df160 2 none, .fieldLink RJ0 1053 "jdk/internal/util/Preconditions" "SIOOBE_FORMATTER" "Ljava/util/function/BiFunction;", .methodLink RJ0 1059 yJ3_checkIndex_8e157, .static yJ3_checkIndex_8e157, .initialized RJ3, .code yJ3_checkIndex_8e157 cJ3_checkIndex_8e157 3 (some .int)])
def wsJ2_length_9d52b : List Cond := .code yJ2_length_9d52b cJ2_length_9d52b 1 (some .int) :: ([])
def wsJ2_checkIndex_2214a : List Cond := .code yJ2_checkIndex_2214a cJ2_checkIndex_2214a 2 none :: ([.methodLink RJ2 48 yJ2_length_9d52b, .static yJ2_length_9d52b, .initialized RJ2, .code yJ2_length_9d52b cJ2_length_9d52b 1 (some .int), .methodLink RJ2 414 yJ0_checkIndex_df160, .static yJ0_checkIndex_df160, .initialized RJ0, .code yJ0_checkIndex_df160 cJ0_checkIndex_df160 2 none, .fieldLink RJ0 1053 "jdk/internal/util/Preconditions" "SIOOBE_FORMATTER" "Ljava/util/function/BiFunction;", .methodLink RJ0 1059 yJ3_checkIndex_8e157, .static yJ3_checkIndex_8e157, .initialized RJ3, .code yJ3_checkIndex_8e157 cJ3_checkIndex_8e157 3 (some .int)])
def wsJ2_getChar_3b067 : List Cond := .code yJ2_getChar_3b067 cJ2_getChar_3b067 2 (some .char) :: ([.fieldLink RJ2 44 "java/lang/StringUTF16" "$assertionsDisabled" "Z", .fieldLink RJ2 59 "java/lang/StringUTF16" "HI_BYTE_SHIFT" "I", .fieldLink RJ2 63 "java/lang/StringUTF16" "LO_BYTE_SHIFT" "I", .methodLink RJ2 48 yJ2_length_9d52b, .static yJ2_length_9d52b, .initialized RJ2, .code yJ2_length_9d52b cJ2_length_9d52b 1 (some .int)])
def wsJ2_charAt_3b067 : List Cond := .code yJ2_charAt_3b067 cJ2_charAt_3b067 2 (some .char) :: ([.methodLink RJ2 67 yJ2_checkIndex_2214a, .static yJ2_checkIndex_2214a, .initialized RJ2, .code yJ2_checkIndex_2214a cJ2_checkIndex_2214a 2 none, .methodLink RJ2 48 yJ2_length_9d52b, .static yJ2_length_9d52b, .code yJ2_length_9d52b cJ2_length_9d52b 1 (some .int), .methodLink RJ2 414 yJ0_checkIndex_df160, .static yJ0_checkIndex_df160, .initialized RJ0, .code yJ0_checkIndex_df160 cJ0_checkIndex_df160 2 none, .fieldLink RJ0 1053 "jdk/internal/util/Preconditions" "SIOOBE_FORMATTER" "Ljava/util/function/BiFunction;", .methodLink RJ0 1059 yJ3_checkIndex_8e157, .static yJ3_checkIndex_8e157, .initialized RJ3, .code yJ3_checkIndex_8e157 cJ3_checkIndex_8e157 3 (some .int), .methodLink RJ2 71 yJ2_getChar_3b067, .static yJ2_getChar_3b067, .code yJ2_getChar_3b067 cJ2_getChar_3b067 2 (some .char), .fieldLink RJ2 44 "java/lang/StringUTF16" "$assertionsDisabled" "Z", .fieldLink RJ2 59 "java/lang/StringUTF16" "HI_BYTE_SHIFT" "I", .fieldLink RJ2 63 "java/lang/StringUTF16" "LO_BYTE_SHIFT" "I"])
def wsJ0_charAt_5068e_r1 : List Cond := [Cond.fieldLink RJ0 9 "java/lang/String" "value" "[B", Cond.methodLink RJ0 492 yJ0_isLatin1_aae02, Cond.instanceMethod yJ0_isLatin1_aae02, Cond.selects RJ0 yJ0_isLatin1_aae02 yJ0_isLatin1_aae02, Cond.initialized RJ0, Cond.code yJ0_isLatin1_aae02 cJ0_isLatin1_aae02 1 (some .boolean), Cond.fieldLink RJ0 38 "java/lang/String" "COMPACT_STRINGS" "Z", Cond.fieldLink RJ0 15 "java/lang/String" "coder" "B", Cond.methodLink RJ0 495 yJ1_charAt_3b067, Cond.static yJ1_charAt_3b067, Cond.initialized RJ1, Cond.code yJ1_charAt_3b067 cJ1_charAt_3b067 2 (some .char), Cond.methodLink RJ1 9 yJ0_checkIndex_df160, Cond.static yJ0_checkIndex_df160, Cond.code yJ0_checkIndex_df160 cJ0_checkIndex_df160 2 none, Cond.fieldLink RJ0 1053 "jdk/internal/util/Preconditions" "SIOOBE_FORMATTER" "Ljava/util/function/BiFunction;", Cond.methodLink RJ0 1059 yJ3_checkIndex_8e157, Cond.static yJ3_checkIndex_8e157, Cond.initialized RJ3, Cond.code yJ3_checkIndex_8e157 cJ3_checkIndex_8e157 3 (some .int), Cond.methodLink RJ0 498 yJ2_charAt_3b067, Cond.static yJ2_charAt_3b067, Cond.initialized RJ2, Cond.code yJ2_charAt_3b067 cJ2_charAt_3b067 2 (some .char)]
def wsJ0_charAt_5068e_r2 : List Cond := [Cond.methodLink RJ2 67 yJ2_checkIndex_2214a, Cond.static yJ2_checkIndex_2214a, Cond.code yJ2_checkIndex_2214a cJ2_checkIndex_2214a 2 none, Cond.methodLink RJ2 48 yJ2_length_9d52b, Cond.static yJ2_length_9d52b, Cond.code yJ2_length_9d52b cJ2_length_9d52b 1 (some .int), Cond.methodLink RJ2 414 yJ0_checkIndex_df160, Cond.methodLink RJ2 71 yJ2_getChar_3b067, Cond.static yJ2_getChar_3b067, Cond.code yJ2_getChar_3b067 cJ2_getChar_3b067 2 (some .char), Cond.fieldLink RJ2 44 "java/lang/StringUTF16" "$assertionsDisabled" "Z", Cond.fieldLink RJ2 59 "java/lang/StringUTF16" "HI_BYTE_SHIFT" "I", Cond.fieldLink RJ2 63 "java/lang/StringUTF16" "LO_BYTE_SHIFT" "I"]
def wsJ0_charAt_5068e : List Cond := .code yJ0_charAt_5068e cJ0_charAt_5068e 2 (some .char) :: ((wsJ0_charAt_5068e_r1 ++ wsJ0_charAt_5068e_r2))
def wsX7_init_r1 : List Cond := [Cond.methodLink RX7 1 objectInit, Cond.instanceMethod objectInit, Cond.code objectInit ⟨#[0xb1]⟩ 1 none, Cond.classLink RX7 7 RX6, Cond.instantiable RX6 2, Cond.initialized RX6, Cond.fieldLink RX7 10 "BundledLinks" "text" "LBundledLinks$Text;", Cond.classLink RX7 16 RX4, Cond.instantiable RX4 7, Cond.initialized RX4, Cond.fieldLink RX7 19 "BundledLinks" "net" "LBundledLinks$Net;", Cond.classLink RX7 23 RX2, Cond.instantiable RX2 3, Cond.initialized RX2, Cond.fieldLink RX7 26 "BundledLinks" "history" "LBundledLinks$History;", Cond.arrayClass .int, Cond.fieldLink RX7 30 "BundledLinks" "went" "[I", Cond.fieldLink RX7 34 "BundledLinks" "trial" "LBundledLinks$Net;", Cond.fieldLink RX7 37 "BundledLinks" "mark" "LBundledLinks$Net;", Cond.instanceMethod yX6_init, Cond.code yX6_init cX6_init 1 none, Cond.methodLink RX6 3 objectInit, Cond.fieldLink RX6 9 "BundledLinks$Text" "letters" "[I", Cond.instanceMethod yX4_init]
def wsX7_init_r2 : List Cond := [Cond.code yX4_init cX4_init 1 none, Cond.methodLink RX4 3 objectInit, Cond.classLink RX4 9 RX0, Cond.instantiable RX0 4, Cond.initialized RX0, Cond.fieldLink RX4 14 "BundledLinks$Net" "zero" "LBundledLinks$End;", Cond.fieldLink RX4 20 "BundledLinks$Net" "one" "LBundledLinks$End;", Cond.methodLink RX4 11 yX0_init, Cond.instanceMethod yX0_init, Cond.code yX0_init cX0_init 3 none, Cond.methodLink RX0 3 objectInit, Cond.fieldLink RX0 9 "BundledLinks$End" "number" "I", Cond.classLink RX0 15 RX5, Cond.fieldLink RX0 17 "BundledLinks$End" "ports" "[LBundledLinks$Port;", Cond.instantiable RX5 11, Cond.initialized RX5, Cond.classLink RX0 22 RX1, Cond.fieldLink RX0 24 "BundledLinks$End" "flows" "[LBundledLinks$Flow;", Cond.instantiable RX1 2, Cond.initialized RX1, Cond.instanceMethod yX5_init, Cond.code yX5_init cX5_init 1 none, Cond.methodLink RX5 3 objectInit, Cond.classLink RX5 9 RX3]
def wsX7_init_r3 : List Cond := [Cond.instantiable RX3 5, Cond.initialized RX3, Cond.fieldLink RX5 12 "BundledLinks$Port" "heard" "LBundledLinks$Message;", Cond.fieldLink RX5 18 "BundledLinks$Port" "said" "LBundledLinks$Message;", Cond.instanceMethod yX3_init, Cond.code yX3_init cX3_init 1 none, Cond.methodLink RX3 1 objectInit, Cond.instanceMethod yX1_init, Cond.code yX1_init cX1_init 1 none, Cond.methodLink RX1 3 objectInit, Cond.methodLink RX7 25 yX2_init, Cond.instanceMethod yX2_init, Cond.code yX2_init cX2_init 2 none, Cond.methodLink RX2 3 objectInit, Cond.classLink RX2 9 RX4, Cond.fieldLink RX2 11 "BundledLinks$History" "kept" "[LBundledLinks$Net;", Cond.methodLink RX7 42 yJ0_length_8abf5, Cond.instanceMethod yJ0_length_8abf5, Cond.selects RJ0 yJ0_length_8abf5 yJ0_length_8abf5, Cond.initialized RJ0, Cond.code yJ0_length_8abf5 cJ0_length_8abf5 1 (some .int), Cond.fieldLink RJ0 9 "java/lang/String" "value" "[B", Cond.methodLink RJ0 335 yJ0_coder_7d493, Cond.instanceMethod yJ0_coder_7d493]
def wsX7_init_r4 : List Cond := [Cond.selects RJ0 yJ0_coder_7d493 yJ0_coder_7d493, Cond.code yJ0_coder_7d493 cJ0_coder_7d493 1 (some .byte), Cond.fieldLink RJ0 38 "java/lang/String" "COMPACT_STRINGS" "Z", Cond.fieldLink RJ0 15 "java/lang/String" "coder" "B", Cond.methodLink RX7 48 yJ0_charAt_5068e, Cond.instanceMethod yJ0_charAt_5068e, Cond.selects RJ0 yJ0_charAt_5068e yJ0_charAt_5068e, Cond.code yJ0_charAt_5068e cJ0_charAt_5068e 2 (some .char), Cond.methodLink RJ0 492 yJ0_isLatin1_aae02, Cond.instanceMethod yJ0_isLatin1_aae02, Cond.selects RJ0 yJ0_isLatin1_aae02 yJ0_isLatin1_aae02, Cond.code yJ0_isLatin1_aae02 cJ0_isLatin1_aae02 1 (some .boolean), Cond.methodLink RJ0 495 yJ1_charAt_3b067, Cond.static yJ1_charAt_3b067, Cond.initialized RJ1, Cond.code yJ1_charAt_3b067 cJ1_charAt_3b067 2 (some .char), Cond.methodLink RJ1 9 yJ0_checkIndex_df160, Cond.static yJ0_checkIndex_df160, Cond.code yJ0_checkIndex_df160 cJ0_checkIndex_df160 2 none, Cond.fieldLink RJ0 1053 "jdk/internal/util/Preconditions" "SIOOBE_FORMATTER" "Ljava/util/function/BiFunction;", Cond.methodLink RJ0 1059 yJ3_checkIndex_8e157, Cond.static yJ3_checkIndex_8e157, Cond.initialized RJ3, Cond.code yJ3_checkIndex_8e157 cJ3_checkIndex_8e157 3 (some .int)]
def wsX7_init_r5 : List Cond := [Cond.methodLink RJ0 498 yJ2_charAt_3b067, Cond.static yJ2_charAt_3b067, Cond.initialized RJ2, Cond.code yJ2_charAt_3b067 cJ2_charAt_3b067 2 (some .char), Cond.methodLink RJ2 67 yJ2_checkIndex_2214a, Cond.static yJ2_checkIndex_2214a, Cond.code yJ2_checkIndex_2214a cJ2_checkIndex_2214a 2 none, Cond.methodLink RJ2 48 yJ2_length_9d52b, Cond.static yJ2_length_9d52b, Cond.code yJ2_length_9d52b cJ2_length_9d52b 1 (some .int), Cond.methodLink RJ2 414 yJ0_checkIndex_df160, Cond.methodLink RJ2 71 yJ2_getChar_3b067, Cond.static yJ2_getChar_3b067, Cond.code yJ2_getChar_3b067 cJ2_getChar_3b067 2 (some .char), Cond.fieldLink RJ2 44 "java/lang/StringUTF16" "$assertionsDisabled" "Z", Cond.fieldLink RJ2 59 "java/lang/StringUTF16" "HI_BYTE_SHIFT" "I", Cond.fieldLink RJ2 63 "java/lang/StringUTF16" "LO_BYTE_SHIFT" "I", Cond.methodLink RX7 52 yX6_add, Cond.instanceMethod yX6_add, Cond.selects RX6 yX6_add yX6_add, Cond.code yX6_add cX6_add 2 (some .boolean), Cond.fieldLink RX6 15 "BundledLinks$Text" "size" "I", Cond.methodLink RX7 56 yX4_layOut, Cond.instanceMethod yX4_layOut]
def wsX7_init_r6 : List Cond := [Cond.selects RX4 yX4_layOut yX4_layOut, Cond.code yX4_layOut cX4_layOut 4 none, Cond.fieldLink RX4 91 "BundledLinks$Text" "size" "I", Cond.methodLink RX4 90 yX4_clear, Cond.instanceMethod yX4_clear, Cond.selects RX4 yX4_clear yX4_clear, Cond.code yX4_clear cX4_clear 1 none, Cond.fieldLink RX4 26 "BundledLinks$Net" "links" "I", Cond.fieldLink RX4 30 "BundledLinks$Net" "most" "I", Cond.fieldLink RX4 33 "BundledLinks$Net" "wait" "I", Cond.fieldLink RX4 36 "BundledLinks$Net" "drain" "I", Cond.fieldLink RX4 39 "BundledLinks$Net" "ticks" "I", Cond.methodLink RX4 23 yX0_clear, Cond.instanceMethod yX0_clear, Cond.selects RX0 yX0_clear yX0_clear, Cond.code yX0_clear cX0_clear 5 none, Cond.fieldLink RX0 29 "BundledLinks$End" "rank" "I", Cond.methodLink RX0 32 yX5_clear, Cond.instanceMethod yX5_clear, Cond.selects RX5 yX5_clear yX5_clear, Cond.code yX5_clear cX5_clear 1 none, Cond.fieldLink RX5 21 "BundledLinks$Port" "up" "Z", Cond.fieldLink RX5 25 "BundledLinks$Port" "muted" "Z", Cond.fieldLink RX5 28 "BundledLinks$Port" "key" "I"]
def wsX7_init_r7 : List Cond := [Cond.fieldLink RX5 32 "BundledLinks$Port" "priority" "I", Cond.fieldLink RX5 38 "BundledLinks$Port" "age" "I", Cond.fieldLink RX5 41 "BundledLinks$Port" "how" "I", Cond.fieldLink RX5 44 "BundledLinks$Port" "chosen" "Z", Cond.fieldLink RX5 47 "BundledLinks$Port" "chosenFor" "I", Cond.fieldLink RX5 50 "BundledLinks$Port" "begun" "I", Cond.methodLink RX5 35 yX3_clear, Cond.instanceMethod yX3_clear, Cond.selects RX3 yX3_clear yX3_clear, Cond.code yX3_clear cX3_clear 1 none, Cond.fieldLink RX3 7 "BundledLinks$Message" "there" "Z", Cond.fieldLink RX3 13 "BundledLinks$Message" "key" "I", Cond.fieldLink RX3 17 "BundledLinks$Message" "priority" "I", Cond.fieldLink RX3 20 "BundledLinks$Message" "rank" "I", Cond.fieldLink RX3 23 "BundledLinks$Message" "sync" "Z", Cond.methodLink RX0 35 yX1_clear, Cond.instanceMethod yX1_clear, Cond.selects RX1 yX1_clear yX1_clear, Cond.code yX1_clear cX1_clear 1 none, Cond.fieldLink RX1 9 "BundledLinks$Flow" "link" "I", Cond.fieldLink RX1 15 "BundledLinks$Flow" "held" "I", Cond.methodLink RX4 96 yX4_layItem, Cond.instanceMethod yX4_layItem, Cond.selects RX4 yX4_layItem yX4_layItem]
def wsX7_init_r8 : List Cond := [Cond.code yX4_layItem cX4_layItem 3 none, Cond.fieldLink RX4 72 "BundledLinks$End" "rank" "I", Cond.methodLink RX4 104 yX6_letterAt, Cond.instanceMethod yX6_letterAt, Cond.selects RX6 yX6_letterAt yX6_letterAt, Cond.code yX6_letterAt cX6_letterAt 2 (some .int), Cond.methodLink RX4 107 yX4_addLink, Cond.instanceMethod yX4_addLink, Cond.selects RX4 yX4_addLink yX4_addLink, Cond.code yX4_addLink cX4_addLink 5 none, Cond.methodLink RX4 54 yX0_portAt, Cond.instanceMethod yX0_portAt, Cond.selects RX0 yX0_portAt yX0_portAt, Cond.code yX0_portAt cX0_portAt 2 (some (.object "BundledLinks$Port")), Cond.methodLink RX4 110 yX6_number, Cond.instanceMethod yX6_number, Cond.selects RX6 yX6_number yX6_number, Cond.code yX6_number cX6_number 3 (some .int), Cond.methodLink RX6 19 yX6_letterAt, Cond.methodLink RX4 114 yX5_begin, Cond.instanceMethod yX5_begin, Cond.selects RX5 yX5_begin yX5_begin, Cond.code yX5_begin cX5_begin 3 none, Cond.methodLink RX4 100 yX6_lengthOfItem]
def wsX7_init_r9 : List Cond := [Cond.instanceMethod yX6_lengthOfItem, Cond.selects RX6 yX6_lengthOfItem yX6_lengthOfItem, Cond.code yX6_lengthOfItem cX6_lengthOfItem 2 (some .int), Cond.methodLink RX6 30 yX6_numbersOfItem, Cond.instanceMethod yX6_numbersOfItem, Cond.selects RX6 yX6_numbersOfItem yX6_numbersOfItem, Cond.code yX6_numbersOfItem cX6_numbersOfItem 2 (some .int), Cond.methodLink RX7 60 yX6_clear, Cond.instanceMethod yX6_clear, Cond.selects RX6 yX6_clear yX6_clear, Cond.code yX6_clear cX6_clear 1 none]
def wsX7_init : List Cond := .code yX7_init cX7_init 2 none :: ((wsX7_init_r1 ++ (wsX7_init_r2 ++ (wsX7_init_r3 ++ (wsX7_init_r4 ++ (wsX7_init_r5 ++ (wsX7_init_r6 ++ (wsX7_init_r7 ++ (wsX7_init_r8 ++ wsX7_init_r9)))))))) ++ wsX60 ++ wsX70 ++ wsX40 ++ wsX20 ++ wsX00 ++ wsX50 ++ wsX10 ++ wsX30)
def wsX7_write : List Cond := .code yX7_write cX7_write 2 (some .int) :: ([.fieldLink RX7 10 "BundledLinks" "text" "LBundledLinks$Text;", .fieldLink RX7 63 "BundledLinks$Text" "size" "I", .methodLink RX7 52 yX6_add, .instanceMethod yX6_add, .selects RX6 yX6_add yX6_add, .initialized RX6, .code yX6_add cX6_add 2 (some .boolean), .fieldLink RX6 15 "BundledLinks$Text" "size" "I", .fieldLink RX6 9 "BundledLinks$Text" "letters" "[I"] ++ wsX70 ++ wsX60)
def wsX7_wipe : List Cond := .code yX7_wipe cX7_wipe 2 (some .int) :: ([.fieldLink RX7 10 "BundledLinks" "text" "LBundledLinks$Text;", .fieldLink RX7 63 "BundledLinks$Text" "size" "I", .methodLink RX7 60 yX6_clear, .instanceMethod yX6_clear, .selects RX6 yX6_clear yX6_clear, .initialized RX6, .code yX6_clear cX6_clear 1 none, .fieldLink RX6 15 "BundledLinks$Text" "size" "I"] ++ wsX70 ++ wsX60)
def wsX7_fault_r1 : List Cond := [Cond.fieldLink RX7 10 "BundledLinks" "text" "LBundledLinks$Text;", Cond.methodLink RX7 67 yX6_firstFault, Cond.instanceMethod yX6_firstFault, Cond.selects RX6 yX6_firstFault yX6_firstFault, Cond.initialized RX6, Cond.code yX6_firstFault cX6_firstFault 4 (some .int), Cond.fieldLink RX6 15 "BundledLinks$Text" "size" "I", Cond.methodLink RX6 19 yX6_letterAt, Cond.instanceMethod yX6_letterAt, Cond.selects RX6 yX6_letterAt yX6_letterAt, Cond.code yX6_letterAt cX6_letterAt 2 (some .int), Cond.fieldLink RX6 9 "BundledLinks$Text" "letters" "[I", Cond.methodLink RX6 23 yX6_isItem, Cond.instanceMethod yX6_isItem, Cond.selects RX6 yX6_isItem yX6_isItem, Cond.code yX6_isItem cX6_isItem 5 (some .boolean), Cond.methodLink RX6 30 yX6_numbersOfItem, Cond.instanceMethod yX6_numbersOfItem, Cond.selects RX6 yX6_numbersOfItem yX6_numbersOfItem, Cond.code yX6_numbersOfItem cX6_numbersOfItem 2 (some .int), Cond.methodLink RX6 33 yX6_number, Cond.instanceMethod yX6_number, Cond.selects RX6 yX6_number yX6_number, Cond.code yX6_number cX6_number 3 (some .int)]
def wsX7_fault_r2 : List Cond := [Cond.static yX7_isFigure, Cond.initialized RX7, Cond.code yX7_isFigure cX7_isFigure 1 (some .boolean), Cond.static yX7_isMost, Cond.code yX7_isMost cX7_isMost 1 (some .boolean), Cond.methodLink RX6 27 yX6_lengthOfItem, Cond.instanceMethod yX6_lengthOfItem, Cond.selects RX6 yX6_lengthOfItem yX6_lengthOfItem, Cond.code yX6_lengthOfItem cX6_lengthOfItem 2 (some .int)]
def wsX7_fault : List Cond := .code yX7_fault cX7_fault 1 (some .int) :: ((wsX7_fault_r1 ++ wsX7_fault_r2) ++ wsX70 ++ wsX60)
def wsX7_lay_r1 : List Cond := [Cond.fieldLink RX7 10 "BundledLinks" "text" "LBundledLinks$Text;", Cond.fieldLink RX7 19 "BundledLinks" "net" "LBundledLinks$Net;", Cond.fieldLink RX7 26 "BundledLinks" "history" "LBundledLinks$History;", Cond.fieldLink RX7 30 "BundledLinks" "went" "[I", Cond.fieldLink RX7 75 "BundledLinks$Net" "links" "I", Cond.methodLink RX7 67 yX6_firstFault, Cond.instanceMethod yX6_firstFault, Cond.selects RX6 yX6_firstFault yX6_firstFault, Cond.initialized RX6, Cond.code yX6_firstFault cX6_firstFault 4 (some .int), Cond.fieldLink RX6 15 "BundledLinks$Text" "size" "I", Cond.methodLink RX6 19 yX6_letterAt, Cond.instanceMethod yX6_letterAt, Cond.selects RX6 yX6_letterAt yX6_letterAt, Cond.code yX6_letterAt cX6_letterAt 2 (some .int), Cond.fieldLink RX6 9 "BundledLinks$Text" "letters" "[I", Cond.methodLink RX6 23 yX6_isItem, Cond.instanceMethod yX6_isItem, Cond.selects RX6 yX6_isItem yX6_isItem, Cond.code yX6_isItem cX6_isItem 5 (some .boolean), Cond.methodLink RX6 30 yX6_numbersOfItem, Cond.instanceMethod yX6_numbersOfItem, Cond.selects RX6 yX6_numbersOfItem yX6_numbersOfItem, Cond.code yX6_numbersOfItem cX6_numbersOfItem 2 (some .int)]
def wsX7_lay_r2 : List Cond := [Cond.methodLink RX6 33 yX6_number, Cond.instanceMethod yX6_number, Cond.selects RX6 yX6_number yX6_number, Cond.code yX6_number cX6_number 3 (some .int), Cond.static yX7_isFigure, Cond.initialized RX7, Cond.code yX7_isFigure cX7_isFigure 1 (some .boolean), Cond.static yX7_isMost, Cond.code yX7_isMost cX7_isMost 1 (some .boolean), Cond.methodLink RX6 27 yX6_lengthOfItem, Cond.instanceMethod yX6_lengthOfItem, Cond.selects RX6 yX6_lengthOfItem yX6_lengthOfItem, Cond.code yX6_lengthOfItem cX6_lengthOfItem 2 (some .int), Cond.methodLink RX7 70 yX6_tellsLink, Cond.instanceMethod yX6_tellsLink, Cond.selects RX6 yX6_tellsLink yX6_tellsLink, Cond.code yX6_tellsLink cX6_tellsLink 2 (some .boolean), Cond.methodLink RX7 56 yX4_layOut, Cond.instanceMethod yX4_layOut, Cond.selects RX4 yX4_layOut yX4_layOut, Cond.initialized RX4, Cond.code yX4_layOut cX4_layOut 4 none, Cond.fieldLink RX4 91 "BundledLinks$Text" "size" "I", Cond.methodLink RX4 90 yX4_clear]
def wsX7_lay_r3 : List Cond := [Cond.instanceMethod yX4_clear, Cond.selects RX4 yX4_clear yX4_clear, Cond.code yX4_clear cX4_clear 1 none, Cond.fieldLink RX4 14 "BundledLinks$Net" "zero" "LBundledLinks$End;", Cond.fieldLink RX4 20 "BundledLinks$Net" "one" "LBundledLinks$End;", Cond.fieldLink RX4 26 "BundledLinks$Net" "links" "I", Cond.fieldLink RX4 30 "BundledLinks$Net" "most" "I", Cond.fieldLink RX4 33 "BundledLinks$Net" "wait" "I", Cond.fieldLink RX4 36 "BundledLinks$Net" "drain" "I", Cond.fieldLink RX4 39 "BundledLinks$Net" "ticks" "I", Cond.methodLink RX4 23 yX0_clear, Cond.instanceMethod yX0_clear, Cond.selects RX0 yX0_clear yX0_clear, Cond.initialized RX0, Cond.code yX0_clear cX0_clear 5 none, Cond.fieldLink RX0 29 "BundledLinks$End" "rank" "I", Cond.fieldLink RX0 17 "BundledLinks$End" "ports" "[LBundledLinks$Port;", Cond.fieldLink RX0 24 "BundledLinks$End" "flows" "[LBundledLinks$Flow;", Cond.methodLink RX0 32 yX5_clear, Cond.instanceMethod yX5_clear, Cond.selects RX5 yX5_clear yX5_clear, Cond.initialized RX5, Cond.code yX5_clear cX5_clear 1 none, Cond.fieldLink RX5 21 "BundledLinks$Port" "up" "Z"]
def wsX7_lay_r4 : List Cond := [Cond.fieldLink RX5 25 "BundledLinks$Port" "muted" "Z", Cond.fieldLink RX5 28 "BundledLinks$Port" "key" "I", Cond.fieldLink RX5 32 "BundledLinks$Port" "priority" "I", Cond.fieldLink RX5 12 "BundledLinks$Port" "heard" "LBundledLinks$Message;", Cond.fieldLink RX5 18 "BundledLinks$Port" "said" "LBundledLinks$Message;", Cond.fieldLink RX5 38 "BundledLinks$Port" "age" "I", Cond.fieldLink RX5 41 "BundledLinks$Port" "how" "I", Cond.fieldLink RX5 44 "BundledLinks$Port" "chosen" "Z", Cond.fieldLink RX5 47 "BundledLinks$Port" "chosenFor" "I", Cond.fieldLink RX5 50 "BundledLinks$Port" "begun" "I", Cond.methodLink RX5 35 yX3_clear, Cond.instanceMethod yX3_clear, Cond.selects RX3 yX3_clear yX3_clear, Cond.initialized RX3, Cond.code yX3_clear cX3_clear 1 none, Cond.fieldLink RX3 7 "BundledLinks$Message" "there" "Z", Cond.fieldLink RX3 13 "BundledLinks$Message" "key" "I", Cond.fieldLink RX3 17 "BundledLinks$Message" "priority" "I", Cond.fieldLink RX3 20 "BundledLinks$Message" "rank" "I", Cond.fieldLink RX3 23 "BundledLinks$Message" "sync" "Z", Cond.methodLink RX0 35 yX1_clear, Cond.instanceMethod yX1_clear, Cond.selects RX1 yX1_clear yX1_clear, Cond.initialized RX1]
def wsX7_lay_r5 : List Cond := [Cond.code yX1_clear cX1_clear 1 none, Cond.fieldLink RX1 9 "BundledLinks$Flow" "link" "I", Cond.fieldLink RX1 15 "BundledLinks$Flow" "held" "I", Cond.methodLink RX4 96 yX4_layItem, Cond.instanceMethod yX4_layItem, Cond.selects RX4 yX4_layItem yX4_layItem, Cond.code yX4_layItem cX4_layItem 3 none, Cond.fieldLink RX4 72 "BundledLinks$End" "rank" "I", Cond.methodLink RX4 104 yX6_letterAt, Cond.methodLink RX4 107 yX4_addLink, Cond.instanceMethod yX4_addLink, Cond.selects RX4 yX4_addLink yX4_addLink, Cond.code yX4_addLink cX4_addLink 5 none, Cond.methodLink RX4 54 yX0_portAt, Cond.instanceMethod yX0_portAt, Cond.selects RX0 yX0_portAt yX0_portAt, Cond.code yX0_portAt cX0_portAt 2 (some (.object "BundledLinks$Port")), Cond.methodLink RX4 110 yX6_number, Cond.methodLink RX4 114 yX5_begin, Cond.instanceMethod yX5_begin, Cond.selects RX5 yX5_begin yX5_begin, Cond.code yX5_begin cX5_begin 3 none, Cond.methodLink RX4 100 yX6_lengthOfItem, Cond.methodLink RX7 74 yX2_clear]
def wsX7_lay_r6 : List Cond := [Cond.instanceMethod yX2_clear, Cond.selects RX2 yX2_clear yX2_clear, Cond.initialized RX2, Cond.code yX2_clear cX2_clear 1 none, Cond.fieldLink RX2 18 "BundledLinks$History" "next" "I", Cond.fieldLink RX2 22 "BundledLinks$History" "size" "I"]
def wsX7_lay : List Cond := .code yX7_lay cX7_lay 2 (some .int) :: ((wsX7_lay_r1 ++ (wsX7_lay_r2 ++ (wsX7_lay_r3 ++ (wsX7_lay_r4 ++ (wsX7_lay_r5 ++ wsX7_lay_r6))))) ++ wsX70 ++ wsX40 ++ wsX60 ++ wsX00 ++ wsX50 ++ wsX30 ++ wsX10 ++ wsX20)
def wsX7_isZeroOrOne : List Cond := .code yX7_isZeroOrOne cX7_isZeroOrOne 1 (some .boolean) :: ([])
def wsX7_plug_r1 : List Cond := [Cond.fieldLink RX7 19 "BundledLinks" "net" "LBundledLinks$Net;", Cond.fieldLink RX7 85 "BundledLinks$Port" "up" "Z", Cond.fieldLink RX7 26 "BundledLinks" "history" "LBundledLinks$History;", Cond.fieldLink RX7 99 "BundledLinks$Net" "zero" "LBundledLinks$End;", Cond.methodLink RX7 78 yX4_portOf, Cond.instanceMethod yX4_portOf, Cond.selects RX4 yX4_portOf yX4_portOf, Cond.initialized RX4, Cond.code yX4_portOf cX4_portOf 4 (some (.object "BundledLinks$Port")), Cond.fieldLink RX4 26 "BundledLinks$Net" "links" "I", Cond.methodLink RX4 50 yX4_endOf, Cond.instanceMethod yX4_endOf, Cond.selects RX4 yX4_endOf yX4_endOf, Cond.code yX4_endOf cX4_endOf 2 (some (.object "BundledLinks$End")), Cond.fieldLink RX4 14 "BundledLinks$Net" "zero" "LBundledLinks$End;", Cond.fieldLink RX4 20 "BundledLinks$Net" "one" "LBundledLinks$End;", Cond.methodLink RX4 54 yX0_portAt, Cond.instanceMethod yX0_portAt, Cond.selects RX0 yX0_portAt yX0_portAt, Cond.initialized RX0, Cond.code yX0_portAt cX0_portAt 2 (some (.object "BundledLinks$Port")), Cond.fieldLink RX0 17 "BundledLinks$End" "ports" "[LBundledLinks$Port;", Cond.methodLink RX7 82 yX7_isZeroOrOne, Cond.static yX7_isZeroOrOne]
def wsX7_plug_r2 : List Cond := [Cond.initialized RX7, Cond.code yX7_isZeroOrOne cX7_isZeroOrOne 1 (some .boolean), Cond.methodLink RX7 91 yX2_keep, Cond.instanceMethod yX2_keep, Cond.selects RX2 yX2_keep yX2_keep, Cond.initialized RX2, Cond.code yX2_keep cX2_keep 2 none, Cond.fieldLink RX2 18 "BundledLinks$History" "next" "I", Cond.fieldLink RX2 11 "BundledLinks$History" "kept" "[LBundledLinks$Net;", Cond.fieldLink RX2 22 "BundledLinks$History" "size" "I", Cond.methodLink RX2 29 Lib.Math.min.name, Cond.static Lib.Math.min.name, Cond.initialized "java/lang/Math", Cond.code Lib.Math.min.name Lib.Math.min.code 2 (some .int), Cond.methodLink RX2 25 yX4_copyFrom, Cond.instanceMethod yX4_copyFrom, Cond.selects RX4 yX4_copyFrom yX4_copyFrom, Cond.code yX4_copyFrom cX4_copyFrom 2 none, Cond.fieldLink RX4 30 "BundledLinks$Net" "most" "I", Cond.fieldLink RX4 33 "BundledLinks$Net" "wait" "I", Cond.fieldLink RX4 36 "BundledLinks$Net" "drain" "I", Cond.fieldLink RX4 39 "BundledLinks$Net" "ticks" "I", Cond.methodLink RX4 42 yX0_copyFrom, Cond.instanceMethod yX0_copyFrom]
def wsX7_plug_r3 : List Cond := [Cond.selects RX0 yX0_copyFrom yX0_copyFrom, Cond.code yX0_copyFrom cX0_copyFrom 3 none, Cond.fieldLink RX0 29 "BundledLinks$End" "rank" "I", Cond.fieldLink RX0 24 "BundledLinks$End" "flows" "[LBundledLinks$Flow;", Cond.methodLink RX0 36 yX5_copyFrom, Cond.instanceMethod yX5_copyFrom, Cond.selects RX5 yX5_copyFrom yX5_copyFrom, Cond.initialized RX5, Cond.code yX5_copyFrom cX5_copyFrom 2 none, Cond.fieldLink RX5 21 "BundledLinks$Port" "up" "Z", Cond.fieldLink RX5 25 "BundledLinks$Port" "muted" "Z", Cond.fieldLink RX5 28 "BundledLinks$Port" "key" "I", Cond.fieldLink RX5 32 "BundledLinks$Port" "priority" "I", Cond.fieldLink RX5 12 "BundledLinks$Port" "heard" "LBundledLinks$Message;", Cond.fieldLink RX5 18 "BundledLinks$Port" "said" "LBundledLinks$Message;", Cond.fieldLink RX5 38 "BundledLinks$Port" "age" "I", Cond.fieldLink RX5 41 "BundledLinks$Port" "how" "I", Cond.fieldLink RX5 44 "BundledLinks$Port" "chosen" "Z", Cond.fieldLink RX5 47 "BundledLinks$Port" "chosenFor" "I", Cond.fieldLink RX5 50 "BundledLinks$Port" "begun" "I", Cond.methodLink RX5 53 yX3_copyFrom, Cond.instanceMethod yX3_copyFrom, Cond.selects RX3 yX3_copyFrom yX3_copyFrom, Cond.initialized RX3]
def wsX7_plug_r4 : List Cond := [Cond.code yX3_copyFrom cX3_copyFrom 2 none, Cond.fieldLink RX3 7 "BundledLinks$Message" "there" "Z", Cond.fieldLink RX3 13 "BundledLinks$Message" "key" "I", Cond.fieldLink RX3 17 "BundledLinks$Message" "priority" "I", Cond.fieldLink RX3 20 "BundledLinks$Message" "rank" "I", Cond.fieldLink RX3 23 "BundledLinks$Message" "sync" "Z", Cond.methodLink RX0 40 yX1_copyFrom, Cond.instanceMethod yX1_copyFrom, Cond.selects RX1 yX1_copyFrom yX1_copyFrom, Cond.initialized RX1, Cond.code yX1_copyFrom cX1_copyFrom 2 none, Cond.fieldLink RX1 9 "BundledLinks$Flow" "link" "I", Cond.fieldLink RX1 15 "BundledLinks$Flow" "held" "I", Cond.methodLink RX7 95 yX4_plugLink, Cond.instanceMethod yX4_plugLink, Cond.selects RX4 yX4_plugLink yX4_plugLink, Cond.code yX4_plugLink cX4_plugLink 5 none, Cond.fieldLink RX4 66 "BundledLinks$Port" "up" "Z", Cond.methodLink RX4 62 yX4_portOf, Cond.methodLink RX7 103 yX0_howManyUp, Cond.instanceMethod yX0_howManyUp, Cond.selects RX0 yX0_howManyUp yX0_howManyUp, Cond.code yX0_howManyUp cX0_howManyUp 6 (some .int), Cond.fieldLink RX0 105 "BundledLinks$Port" "up" "Z"]
def wsX7_plug : List Cond := .code yX7_plug cX7_plug 5 (some .int) :: ((wsX7_plug_r1 ++ (wsX7_plug_r2 ++ (wsX7_plug_r3 ++ wsX7_plug_r4))) ++ wsX70 ++ wsX50 ++ wsX40 ++ wsX00 ++ wsX20 ++ wsX30 ++ wsX10)
def wsX7_mute_r1 : List Cond := [Cond.fieldLink RX7 19 "BundledLinks" "net" "LBundledLinks$Net;", Cond.fieldLink RX7 112 "BundledLinks$Port" "muted" "Z", Cond.fieldLink RX7 26 "BundledLinks" "history" "LBundledLinks$History;", Cond.methodLink RX7 108 yX4_endOf, Cond.instanceMethod yX4_endOf, Cond.selects RX4 yX4_endOf yX4_endOf, Cond.initialized RX4, Cond.code yX4_endOf cX4_endOf 2 (some (.object "BundledLinks$End")), Cond.fieldLink RX4 14 "BundledLinks$Net" "zero" "LBundledLinks$End;", Cond.fieldLink RX4 20 "BundledLinks$Net" "one" "LBundledLinks$End;", Cond.methodLink RX7 78 yX4_portOf, Cond.instanceMethod yX4_portOf, Cond.selects RX4 yX4_portOf yX4_portOf, Cond.code yX4_portOf cX4_portOf 4 (some (.object "BundledLinks$Port")), Cond.fieldLink RX4 26 "BundledLinks$Net" "links" "I", Cond.methodLink RX4 50 yX4_endOf, Cond.methodLink RX4 54 yX0_portAt, Cond.instanceMethod yX0_portAt, Cond.selects RX0 yX0_portAt yX0_portAt, Cond.initialized RX0, Cond.code yX0_portAt cX0_portAt 2 (some (.object "BundledLinks$Port")), Cond.fieldLink RX0 17 "BundledLinks$End" "ports" "[LBundledLinks$Port;", Cond.methodLink RX7 82 yX7_isZeroOrOne, Cond.static yX7_isZeroOrOne]
def wsX7_mute_r2 : List Cond := [Cond.initialized RX7, Cond.code yX7_isZeroOrOne cX7_isZeroOrOne 1 (some .boolean), Cond.methodLink RX7 91 yX2_keep, Cond.instanceMethod yX2_keep, Cond.selects RX2 yX2_keep yX2_keep, Cond.initialized RX2, Cond.code yX2_keep cX2_keep 2 none, Cond.fieldLink RX2 18 "BundledLinks$History" "next" "I", Cond.fieldLink RX2 11 "BundledLinks$History" "kept" "[LBundledLinks$Net;", Cond.fieldLink RX2 22 "BundledLinks$History" "size" "I", Cond.methodLink RX2 29 Lib.Math.min.name, Cond.static Lib.Math.min.name, Cond.initialized "java/lang/Math", Cond.code Lib.Math.min.name Lib.Math.min.code 2 (some .int), Cond.methodLink RX2 25 yX4_copyFrom, Cond.instanceMethod yX4_copyFrom, Cond.selects RX4 yX4_copyFrom yX4_copyFrom, Cond.code yX4_copyFrom cX4_copyFrom 2 none, Cond.fieldLink RX4 30 "BundledLinks$Net" "most" "I", Cond.fieldLink RX4 33 "BundledLinks$Net" "wait" "I", Cond.fieldLink RX4 36 "BundledLinks$Net" "drain" "I", Cond.fieldLink RX4 39 "BundledLinks$Net" "ticks" "I", Cond.methodLink RX4 42 yX0_copyFrom, Cond.instanceMethod yX0_copyFrom]
def wsX7_mute_r3 : List Cond := [Cond.selects RX0 yX0_copyFrom yX0_copyFrom, Cond.code yX0_copyFrom cX0_copyFrom 3 none, Cond.fieldLink RX0 29 "BundledLinks$End" "rank" "I", Cond.fieldLink RX0 24 "BundledLinks$End" "flows" "[LBundledLinks$Flow;", Cond.methodLink RX0 36 yX5_copyFrom, Cond.instanceMethod yX5_copyFrom, Cond.selects RX5 yX5_copyFrom yX5_copyFrom, Cond.initialized RX5, Cond.code yX5_copyFrom cX5_copyFrom 2 none, Cond.fieldLink RX5 21 "BundledLinks$Port" "up" "Z", Cond.fieldLink RX5 25 "BundledLinks$Port" "muted" "Z", Cond.fieldLink RX5 28 "BundledLinks$Port" "key" "I", Cond.fieldLink RX5 32 "BundledLinks$Port" "priority" "I", Cond.fieldLink RX5 12 "BundledLinks$Port" "heard" "LBundledLinks$Message;", Cond.fieldLink RX5 18 "BundledLinks$Port" "said" "LBundledLinks$Message;", Cond.fieldLink RX5 38 "BundledLinks$Port" "age" "I", Cond.fieldLink RX5 41 "BundledLinks$Port" "how" "I", Cond.fieldLink RX5 44 "BundledLinks$Port" "chosen" "Z", Cond.fieldLink RX5 47 "BundledLinks$Port" "chosenFor" "I", Cond.fieldLink RX5 50 "BundledLinks$Port" "begun" "I", Cond.methodLink RX5 53 yX3_copyFrom, Cond.instanceMethod yX3_copyFrom, Cond.selects RX3 yX3_copyFrom yX3_copyFrom, Cond.initialized RX3]
def wsX7_mute_r4 : List Cond := [Cond.code yX3_copyFrom cX3_copyFrom 2 none, Cond.fieldLink RX3 7 "BundledLinks$Message" "there" "Z", Cond.fieldLink RX3 13 "BundledLinks$Message" "key" "I", Cond.fieldLink RX3 17 "BundledLinks$Message" "priority" "I", Cond.fieldLink RX3 20 "BundledLinks$Message" "rank" "I", Cond.fieldLink RX3 23 "BundledLinks$Message" "sync" "Z", Cond.methodLink RX0 40 yX1_copyFrom, Cond.instanceMethod yX1_copyFrom, Cond.selects RX1 yX1_copyFrom yX1_copyFrom, Cond.initialized RX1, Cond.code yX1_copyFrom cX1_copyFrom 2 none, Cond.fieldLink RX1 9 "BundledLinks$Flow" "link" "I", Cond.fieldLink RX1 15 "BundledLinks$Flow" "held" "I", Cond.methodLink RX7 115 yX0_howManyMuted, Cond.instanceMethod yX0_howManyMuted, Cond.selects RX0 yX0_howManyMuted yX0_howManyMuted, Cond.code yX0_howManyMuted cX0_howManyMuted 6 (some .int), Cond.fieldLink RX0 108 "BundledLinks$Port" "muted" "Z"]
def wsX7_mute : List Cond := .code yX7_mute cX7_mute 7 (some .int) :: ((wsX7_mute_r1 ++ (wsX7_mute_r2 ++ (wsX7_mute_r3 ++ wsX7_mute_r4))) ++ wsX70 ++ wsX50 ++ wsX40 ++ wsX00 ++ wsX20 ++ wsX30 ++ wsX10)
def wsX7_tell_r1 : List Cond := [Cond.fieldLink RX7 19 "BundledLinks" "net" "LBundledLinks$Net;", Cond.fieldLink RX7 121 "BundledLinks$Port" "key" "I", Cond.fieldLink RX7 124 "BundledLinks$Port" "priority" "I", Cond.fieldLink RX7 26 "BundledLinks" "history" "LBundledLinks$History;", Cond.methodLink RX7 78 yX4_portOf, Cond.instanceMethod yX4_portOf, Cond.selects RX4 yX4_portOf yX4_portOf, Cond.initialized RX4, Cond.code yX4_portOf cX4_portOf 4 (some (.object "BundledLinks$Port")), Cond.fieldLink RX4 26 "BundledLinks$Net" "links" "I", Cond.methodLink RX4 50 yX4_endOf, Cond.instanceMethod yX4_endOf, Cond.selects RX4 yX4_endOf yX4_endOf, Cond.code yX4_endOf cX4_endOf 2 (some (.object "BundledLinks$End")), Cond.fieldLink RX4 14 "BundledLinks$Net" "zero" "LBundledLinks$End;", Cond.fieldLink RX4 20 "BundledLinks$Net" "one" "LBundledLinks$End;", Cond.methodLink RX4 54 yX0_portAt, Cond.instanceMethod yX0_portAt, Cond.selects RX0 yX0_portAt yX0_portAt, Cond.initialized RX0, Cond.code yX0_portAt cX0_portAt 2 (some (.object "BundledLinks$Port")), Cond.fieldLink RX0 17 "BundledLinks$End" "ports" "[LBundledLinks$Port;", Cond.methodLink RX7 82 yX7_isZeroOrOne, Cond.static yX7_isZeroOrOne]
def wsX7_tell_r2 : List Cond := [Cond.initialized RX7, Cond.code yX7_isZeroOrOne cX7_isZeroOrOne 1 (some .boolean), Cond.methodLink RX7 118 yX7_isFigure, Cond.static yX7_isFigure, Cond.code yX7_isFigure cX7_isFigure 1 (some .boolean), Cond.methodLink RX7 91 yX2_keep, Cond.instanceMethod yX2_keep, Cond.selects RX2 yX2_keep yX2_keep, Cond.initialized RX2, Cond.code yX2_keep cX2_keep 2 none, Cond.fieldLink RX2 18 "BundledLinks$History" "next" "I", Cond.fieldLink RX2 11 "BundledLinks$History" "kept" "[LBundledLinks$Net;", Cond.fieldLink RX2 22 "BundledLinks$History" "size" "I", Cond.methodLink RX2 29 Lib.Math.min.name, Cond.static Lib.Math.min.name, Cond.initialized "java/lang/Math", Cond.code Lib.Math.min.name Lib.Math.min.code 2 (some .int), Cond.methodLink RX2 25 yX4_copyFrom, Cond.instanceMethod yX4_copyFrom, Cond.selects RX4 yX4_copyFrom yX4_copyFrom, Cond.code yX4_copyFrom cX4_copyFrom 2 none, Cond.fieldLink RX4 30 "BundledLinks$Net" "most" "I", Cond.fieldLink RX4 33 "BundledLinks$Net" "wait" "I", Cond.fieldLink RX4 36 "BundledLinks$Net" "drain" "I"]
def wsX7_tell_r3 : List Cond := [Cond.fieldLink RX4 39 "BundledLinks$Net" "ticks" "I", Cond.methodLink RX4 42 yX0_copyFrom, Cond.instanceMethod yX0_copyFrom, Cond.selects RX0 yX0_copyFrom yX0_copyFrom, Cond.code yX0_copyFrom cX0_copyFrom 3 none, Cond.fieldLink RX0 29 "BundledLinks$End" "rank" "I", Cond.fieldLink RX0 24 "BundledLinks$End" "flows" "[LBundledLinks$Flow;", Cond.methodLink RX0 36 yX5_copyFrom, Cond.instanceMethod yX5_copyFrom, Cond.selects RX5 yX5_copyFrom yX5_copyFrom, Cond.initialized RX5, Cond.code yX5_copyFrom cX5_copyFrom 2 none, Cond.fieldLink RX5 21 "BundledLinks$Port" "up" "Z", Cond.fieldLink RX5 25 "BundledLinks$Port" "muted" "Z", Cond.fieldLink RX5 28 "BundledLinks$Port" "key" "I", Cond.fieldLink RX5 32 "BundledLinks$Port" "priority" "I", Cond.fieldLink RX5 12 "BundledLinks$Port" "heard" "LBundledLinks$Message;", Cond.fieldLink RX5 18 "BundledLinks$Port" "said" "LBundledLinks$Message;", Cond.fieldLink RX5 38 "BundledLinks$Port" "age" "I", Cond.fieldLink RX5 41 "BundledLinks$Port" "how" "I", Cond.fieldLink RX5 44 "BundledLinks$Port" "chosen" "Z", Cond.fieldLink RX5 47 "BundledLinks$Port" "chosenFor" "I", Cond.fieldLink RX5 50 "BundledLinks$Port" "begun" "I", Cond.methodLink RX5 53 yX3_copyFrom]
def wsX7_tell_r4 : List Cond := [Cond.instanceMethod yX3_copyFrom, Cond.selects RX3 yX3_copyFrom yX3_copyFrom, Cond.initialized RX3, Cond.code yX3_copyFrom cX3_copyFrom 2 none, Cond.fieldLink RX3 7 "BundledLinks$Message" "there" "Z", Cond.fieldLink RX3 13 "BundledLinks$Message" "key" "I", Cond.fieldLink RX3 17 "BundledLinks$Message" "priority" "I", Cond.fieldLink RX3 20 "BundledLinks$Message" "rank" "I", Cond.fieldLink RX3 23 "BundledLinks$Message" "sync" "Z", Cond.methodLink RX0 40 yX1_copyFrom, Cond.instanceMethod yX1_copyFrom, Cond.selects RX1 yX1_copyFrom yX1_copyFrom, Cond.initialized RX1, Cond.code yX1_copyFrom cX1_copyFrom 2 none, Cond.fieldLink RX1 9 "BundledLinks$Flow" "link" "I", Cond.fieldLink RX1 15 "BundledLinks$Flow" "held" "I"]
def wsX7_tell : List Cond := .code yX7_tell cX7_tell 7 (some .int) :: ((wsX7_tell_r1 ++ (wsX7_tell_r2 ++ (wsX7_tell_r3 ++ wsX7_tell_r4))) ++ wsX70 ++ wsX50 ++ wsX40 ++ wsX00 ++ wsX20 ++ wsX30 ++ wsX10)
def wsX7_set_r1 : List Cond := [Cond.fieldLink RX7 19 "BundledLinks" "net" "LBundledLinks$Net;", Cond.fieldLink RX7 26 "BundledLinks" "history" "LBundledLinks$History;", Cond.methodLink RX7 127 yX7_isMost, Cond.static yX7_isMost, Cond.initialized RX7, Cond.code yX7_isMost cX7_isMost 1 (some .boolean), Cond.methodLink RX7 118 yX7_isFigure, Cond.static yX7_isFigure, Cond.code yX7_isFigure cX7_isFigure 1 (some .boolean), Cond.methodLink RX7 130 yX4_setting, Cond.instanceMethod yX4_setting, Cond.selects RX4 yX4_setting yX4_setting, Cond.initialized RX4, Cond.code yX4_setting cX4_setting 2 (some .int), Cond.fieldLink RX4 14 "BundledLinks$Net" "zero" "LBundledLinks$End;", Cond.fieldLink RX4 72 "BundledLinks$End" "rank" "I", Cond.fieldLink RX4 20 "BundledLinks$Net" "one" "LBundledLinks$End;", Cond.fieldLink RX4 30 "BundledLinks$Net" "most" "I", Cond.methodLink RX7 91 yX2_keep, Cond.instanceMethod yX2_keep, Cond.selects RX2 yX2_keep yX2_keep, Cond.initialized RX2, Cond.code yX2_keep cX2_keep 2 none, Cond.fieldLink RX2 18 "BundledLinks$History" "next" "I"]
def wsX7_set_r2 : List Cond := [Cond.fieldLink RX2 11 "BundledLinks$History" "kept" "[LBundledLinks$Net;", Cond.fieldLink RX2 22 "BundledLinks$History" "size" "I", Cond.methodLink RX2 29 Lib.Math.min.name, Cond.static Lib.Math.min.name, Cond.initialized "java/lang/Math", Cond.code Lib.Math.min.name Lib.Math.min.code 2 (some .int), Cond.methodLink RX2 25 yX4_copyFrom, Cond.instanceMethod yX4_copyFrom, Cond.selects RX4 yX4_copyFrom yX4_copyFrom, Cond.code yX4_copyFrom cX4_copyFrom 2 none, Cond.fieldLink RX4 26 "BundledLinks$Net" "links" "I", Cond.fieldLink RX4 33 "BundledLinks$Net" "wait" "I", Cond.fieldLink RX4 36 "BundledLinks$Net" "drain" "I", Cond.fieldLink RX4 39 "BundledLinks$Net" "ticks" "I", Cond.methodLink RX4 42 yX0_copyFrom, Cond.instanceMethod yX0_copyFrom, Cond.selects RX0 yX0_copyFrom yX0_copyFrom, Cond.initialized RX0, Cond.code yX0_copyFrom cX0_copyFrom 3 none, Cond.fieldLink RX0 29 "BundledLinks$End" "rank" "I", Cond.fieldLink RX0 17 "BundledLinks$End" "ports" "[LBundledLinks$Port;", Cond.fieldLink RX0 24 "BundledLinks$End" "flows" "[LBundledLinks$Flow;", Cond.methodLink RX0 36 yX5_copyFrom, Cond.instanceMethod yX5_copyFrom]
def wsX7_set_r3 : List Cond := [Cond.selects RX5 yX5_copyFrom yX5_copyFrom, Cond.initialized RX5, Cond.code yX5_copyFrom cX5_copyFrom 2 none, Cond.fieldLink RX5 21 "BundledLinks$Port" "up" "Z", Cond.fieldLink RX5 25 "BundledLinks$Port" "muted" "Z", Cond.fieldLink RX5 28 "BundledLinks$Port" "key" "I", Cond.fieldLink RX5 32 "BundledLinks$Port" "priority" "I", Cond.fieldLink RX5 12 "BundledLinks$Port" "heard" "LBundledLinks$Message;", Cond.fieldLink RX5 18 "BundledLinks$Port" "said" "LBundledLinks$Message;", Cond.fieldLink RX5 38 "BundledLinks$Port" "age" "I", Cond.fieldLink RX5 41 "BundledLinks$Port" "how" "I", Cond.fieldLink RX5 44 "BundledLinks$Port" "chosen" "Z", Cond.fieldLink RX5 47 "BundledLinks$Port" "chosenFor" "I", Cond.fieldLink RX5 50 "BundledLinks$Port" "begun" "I", Cond.methodLink RX5 53 yX3_copyFrom, Cond.instanceMethod yX3_copyFrom, Cond.selects RX3 yX3_copyFrom yX3_copyFrom, Cond.initialized RX3, Cond.code yX3_copyFrom cX3_copyFrom 2 none, Cond.fieldLink RX3 7 "BundledLinks$Message" "there" "Z", Cond.fieldLink RX3 13 "BundledLinks$Message" "key" "I", Cond.fieldLink RX3 17 "BundledLinks$Message" "priority" "I", Cond.fieldLink RX3 20 "BundledLinks$Message" "rank" "I", Cond.fieldLink RX3 23 "BundledLinks$Message" "sync" "Z"]
def wsX7_set_r4 : List Cond := [Cond.methodLink RX0 40 yX1_copyFrom, Cond.instanceMethod yX1_copyFrom, Cond.selects RX1 yX1_copyFrom yX1_copyFrom, Cond.initialized RX1, Cond.code yX1_copyFrom cX1_copyFrom 2 none, Cond.fieldLink RX1 9 "BundledLinks$Flow" "link" "I", Cond.fieldLink RX1 15 "BundledLinks$Flow" "held" "I", Cond.methodLink RX7 134 yX4_changeSetting, Cond.instanceMethod yX4_changeSetting, Cond.selects RX4 yX4_changeSetting yX4_changeSetting, Cond.code yX4_changeSetting cX4_changeSetting 3 none]
def wsX7_set : List Cond := .code yX7_set cX7_set 4 (some .int) :: ((wsX7_set_r1 ++ (wsX7_set_r2 ++ (wsX7_set_r3 ++ wsX7_set_r4))) ++ wsX70 ++ wsX40 ++ wsX00 ++ wsX20 ++ wsX50 ++ wsX30 ++ wsX10)
def wsX7_agreed : List Cond := .code yX7_agreed cX7_agreed 2 (some .int) :: ([.fieldLink RX7 19 "BundledLinks" "net" "LBundledLinks$Net;", .fieldLink RX7 99 "BundledLinks$Net" "zero" "LBundledLinks$End;", .fieldLink RX7 186 "BundledLinks$Net" "one" "LBundledLinks$End;", .methodLink RX7 158 yX0_bits, .instanceMethod yX0_bits, .selects RX0 yX0_bits yX0_bits, .initialized RX0, .code yX0_bits cX0_bits 4 (some .int), .fieldLink RX0 17 "BundledLinks$End" "ports" "[LBundledLinks$Port;", .methodLink RX0 111 yX5_isOf, .instanceMethod yX5_isOf, .selects RX5 yX5_isOf yX5_isOf, .initialized RX5, .code yX5_isOf cX5_isOf 2 (some .boolean), .fieldLink RX5 12 "BundledLinks$Port" "heard" "LBundledLinks$Message;", .fieldLink RX5 57 "BundledLinks$Message" "there" "Z", .fieldLink RX5 44 "BundledLinks$Port" "chosen" "Z", .fieldLink RX5 41 "BundledLinks$Port" "how" "I"] ++ wsX70 ++ wsX40 ++ wsX00 ++ wsX50 ++ wsX30)
def wsX7_tick_r1 : List Cond := [Cond.fieldLink RX7 19 "BundledLinks" "net" "LBundledLinks$Net;", Cond.fieldLink RX7 138 "BundledLinks$Net" "ticks" "I", Cond.fieldLink RX7 26 "BundledLinks" "history" "LBundledLinks$History;", Cond.methodLink RX7 91 yX2_keep, Cond.instanceMethod yX2_keep, Cond.selects RX2 yX2_keep yX2_keep, Cond.initialized RX2, Cond.code yX2_keep cX2_keep 2 none, Cond.fieldLink RX2 18 "BundledLinks$History" "next" "I", Cond.fieldLink RX2 11 "BundledLinks$History" "kept" "[LBundledLinks$Net;", Cond.fieldLink RX2 22 "BundledLinks$History" "size" "I", Cond.methodLink RX2 29 Lib.Math.min.name, Cond.static Lib.Math.min.name, Cond.initialized "java/lang/Math", Cond.code Lib.Math.min.name Lib.Math.min.code 2 (some .int), Cond.methodLink RX2 25 yX4_copyFrom, Cond.instanceMethod yX4_copyFrom, Cond.selects RX4 yX4_copyFrom yX4_copyFrom, Cond.initialized RX4, Cond.code yX4_copyFrom cX4_copyFrom 2 none, Cond.fieldLink RX4 14 "BundledLinks$Net" "zero" "LBundledLinks$End;", Cond.fieldLink RX4 20 "BundledLinks$Net" "one" "LBundledLinks$End;", Cond.fieldLink RX4 26 "BundledLinks$Net" "links" "I", Cond.fieldLink RX4 30 "BundledLinks$Net" "most" "I"]
def wsX7_tick_r2 : List Cond := [Cond.fieldLink RX4 33 "BundledLinks$Net" "wait" "I", Cond.fieldLink RX4 36 "BundledLinks$Net" "drain" "I", Cond.fieldLink RX4 39 "BundledLinks$Net" "ticks" "I", Cond.methodLink RX4 42 yX0_copyFrom, Cond.instanceMethod yX0_copyFrom, Cond.selects RX0 yX0_copyFrom yX0_copyFrom, Cond.initialized RX0, Cond.code yX0_copyFrom cX0_copyFrom 3 none, Cond.fieldLink RX0 29 "BundledLinks$End" "rank" "I", Cond.fieldLink RX0 17 "BundledLinks$End" "ports" "[LBundledLinks$Port;", Cond.fieldLink RX0 24 "BundledLinks$End" "flows" "[LBundledLinks$Flow;", Cond.methodLink RX0 36 yX5_copyFrom, Cond.instanceMethod yX5_copyFrom, Cond.selects RX5 yX5_copyFrom yX5_copyFrom, Cond.initialized RX5, Cond.code yX5_copyFrom cX5_copyFrom 2 none, Cond.fieldLink RX5 21 "BundledLinks$Port" "up" "Z", Cond.fieldLink RX5 25 "BundledLinks$Port" "muted" "Z", Cond.fieldLink RX5 28 "BundledLinks$Port" "key" "I", Cond.fieldLink RX5 32 "BundledLinks$Port" "priority" "I", Cond.fieldLink RX5 12 "BundledLinks$Port" "heard" "LBundledLinks$Message;", Cond.fieldLink RX5 18 "BundledLinks$Port" "said" "LBundledLinks$Message;", Cond.fieldLink RX5 38 "BundledLinks$Port" "age" "I", Cond.fieldLink RX5 41 "BundledLinks$Port" "how" "I"]
def wsX7_tick_r3 : List Cond := [Cond.fieldLink RX5 44 "BundledLinks$Port" "chosen" "Z", Cond.fieldLink RX5 47 "BundledLinks$Port" "chosenFor" "I", Cond.fieldLink RX5 50 "BundledLinks$Port" "begun" "I", Cond.methodLink RX5 53 yX3_copyFrom, Cond.instanceMethod yX3_copyFrom, Cond.selects RX3 yX3_copyFrom yX3_copyFrom, Cond.initialized RX3, Cond.code yX3_copyFrom cX3_copyFrom 2 none, Cond.fieldLink RX3 7 "BundledLinks$Message" "there" "Z", Cond.fieldLink RX3 13 "BundledLinks$Message" "key" "I", Cond.fieldLink RX3 17 "BundledLinks$Message" "priority" "I", Cond.fieldLink RX3 20 "BundledLinks$Message" "rank" "I", Cond.fieldLink RX3 23 "BundledLinks$Message" "sync" "Z", Cond.methodLink RX0 40 yX1_copyFrom, Cond.instanceMethod yX1_copyFrom, Cond.selects RX1 yX1_copyFrom yX1_copyFrom, Cond.initialized RX1, Cond.code yX1_copyFrom cX1_copyFrom 2 none, Cond.fieldLink RX1 9 "BundledLinks$Flow" "link" "I", Cond.fieldLink RX1 15 "BundledLinks$Flow" "held" "I", Cond.methodLink RX7 141 yX4_step, Cond.instanceMethod yX4_step, Cond.selects RX4 yX4_step yX4_step, Cond.code yX4_step cX4_step 1 none]
def wsX7_tick_r4 : List Cond := [Cond.methodLink RX4 75 yX0_hearFrom, Cond.instanceMethod yX0_hearFrom, Cond.selects RX0 yX0_hearFrom yX0_hearFrom, Cond.code yX0_hearFrom cX0_hearFrom 3 none, Cond.fieldLink RX0 49 "BundledLinks$Port" "said" "LBundledLinks$Message;", Cond.methodLink RX0 53 yX5_hear, Cond.instanceMethod yX5_hear, Cond.selects RX5 yX5_hear yX5_hear, Cond.code yX5_hear cX5_hear 2 none, Cond.fieldLink RX5 57 "BundledLinks$Message" "there" "Z", Cond.methodLink RX4 78 yX4_stepOf, Cond.instanceMethod yX4_stepOf, Cond.selects RX4 yX4_stepOf yX4_stepOf, Cond.code yX4_stepOf cX4_stepOf 2 none, Cond.methodLink RX4 81 yX0_choose, Cond.instanceMethod yX0_choose, Cond.selects RX0 yX0_choose yX0_choose, Cond.code yX0_choose cX0_choose 6 none, Cond.fieldLink RX0 57 "BundledLinks$Port" "chosen" "Z", Cond.methodLink RX0 61 yX0_decides, Cond.instanceMethod yX0_decides, Cond.selects RX0 yX0_decides yX0_decides, Cond.code yX0_decides cX0_decides 6 (some .boolean), Cond.fieldLink RX0 69 "BundledLinks$Port" "heard" "LBundledLinks$Message;"]
def wsX7_tick_r5 : List Cond := [Cond.fieldLink RX0 72 "BundledLinks$Message" "there" "Z", Cond.fieldLink RX0 77 "BundledLinks$Message" "rank" "I", Cond.fieldLink RX0 9 "BundledLinks$End" "number" "I", Cond.methodLink RX0 65 yX0_bestOpen, Cond.instanceMethod yX0_bestOpen, Cond.selects RX0 yX0_bestOpen yX0_bestOpen, Cond.code yX0_bestOpen cX0_bestOpen 9 (some (.object "BundledLinks$Port")), Cond.methodLink RX0 78 yX5_hasPairOf, Cond.instanceMethod yX5_hasPairOf, Cond.selects RX5 yX5_hasPairOf yX5_hasPairOf, Cond.code yX5_hasPairOf cX5_hasPairOf 2 (some .boolean), Cond.fieldLink RX5 61 "BundledLinks$Message" "key" "I", Cond.methodLink RX0 82 yX5_priorityBy, Cond.instanceMethod yX5_priorityBy, Cond.selects RX5 yX5_priorityBy yX5_priorityBy, Cond.code yX5_priorityBy cX5_priorityBy 2 (some .int), Cond.fieldLink RX5 60 "BundledLinks$Message" "priority" "I", Cond.methodLink RX4 84 yX0_judgeAndSay, Cond.instanceMethod yX0_judgeAndSay, Cond.selects RX0 yX0_judgeAndSay yX0_judgeAndSay, Cond.code yX0_judgeAndSay cX0_judgeAndSay 6 none, Cond.methodLink RX0 86 yX5_judge, Cond.instanceMethod yX5_judge, Cond.selects RX5 yX5_judge yX5_judge]
def wsX7_tick_r6 : List Cond := [Cond.code yX5_judge cX5_judge 3 none, Cond.methodLink RX5 62 yX5_howNow, Cond.instanceMethod yX5_howNow, Cond.selects RX5 yX5_howNow yX5_howNow, Cond.code yX5_howNow cX5_howNow 2 (some .int), Cond.fieldLink RX5 66 "BundledLinks$Message" "sync" "Z", Cond.methodLink RX0 90 yX5_say, Cond.instanceMethod yX5_say, Cond.selects RX5 yX5_say yX5_say, Cond.code yX5_say cX5_say 2 none, Cond.fieldLink RX5 69 "BundledLinks$Message" "rank" "I", Cond.methodLink RX4 87 yX0_dealFlows, Cond.instanceMethod yX0_dealFlows, Cond.selects RX0 yX0_dealFlows yX0_dealFlows, Cond.code yX0_dealFlows cX0_dealFlows 4 none, Cond.methodLink RX0 93 yX0_howManySending, Cond.instanceMethod yX0_howManySending, Cond.selects RX0 yX0_howManySending yX0_howManySending, Cond.code yX0_howManySending cX0_howManySending 6 (some .int), Cond.fieldLink RX0 43 "BundledLinks$Port" "how" "I", Cond.methodLink RX0 97 yX0_wantedBy, Cond.instanceMethod yX0_wantedBy, Cond.selects RX0 yX0_wantedBy yX0_wantedBy, Cond.code yX0_wantedBy cX0_wantedBy 5 (some .int)]
def wsX7_tick_r7 : List Cond := [Cond.methodLink RX0 101 yX1_deal, Cond.instanceMethod yX1_deal, Cond.selects RX1 yX1_deal yX1_deal, Cond.code yX1_deal cX1_deal 3 none, Cond.methodLink RX7 144 yX7_agreed, Cond.instanceMethod yX7_agreed, Cond.selects RX7 yX7_agreed yX7_agreed, Cond.initialized RX7, Cond.code yX7_agreed cX7_agreed 2 (some .int), Cond.fieldLink RX7 99 "BundledLinks$Net" "zero" "LBundledLinks$End;", Cond.fieldLink RX7 186 "BundledLinks$Net" "one" "LBundledLinks$End;", Cond.methodLink RX7 158 yX0_bits, Cond.instanceMethod yX0_bits, Cond.selects RX0 yX0_bits yX0_bits, Cond.code yX0_bits cX0_bits 4 (some .int), Cond.methodLink RX0 111 yX5_isOf, Cond.instanceMethod yX5_isOf, Cond.selects RX5 yX5_isOf yX5_isOf, Cond.code yX5_isOf cX5_isOf 2 (some .boolean)]
def wsX7_tick : List Cond := .code yX7_tick cX7_tick 3 (some .int) :: ((wsX7_tick_r1 ++ (wsX7_tick_r2 ++ (wsX7_tick_r3 ++ (wsX7_tick_r4 ++ (wsX7_tick_r5 ++ (wsX7_tick_r6 ++ wsX7_tick_r7)))))) ++ wsX70 ++ wsX40 ++ wsX20 ++ wsX00 ++ wsX50 ++ wsX30 ++ wsX10)
def wsX7_undo_r1 : List Cond := [Cond.fieldLink RX7 26 "BundledLinks" "history" "LBundledLinks$History;", Cond.fieldLink RX7 19 "BundledLinks" "net" "LBundledLinks$Net;", Cond.fieldLink RX7 154 "BundledLinks$History" "size" "I", Cond.methodLink RX7 147 yX2_takeLatest, Cond.instanceMethod yX2_takeLatest, Cond.selects RX2 yX2_takeLatest yX2_takeLatest, Cond.initialized RX2, Cond.code yX2_takeLatest cX2_takeLatest 2 (some (.object "BundledLinks$Net")), Cond.fieldLink RX2 18 "BundledLinks$History" "next" "I", Cond.fieldLink RX2 11 "BundledLinks$History" "kept" "[LBundledLinks$Net;", Cond.fieldLink RX2 22 "BundledLinks$History" "size" "I", Cond.methodLink RX7 151 yX4_copyFrom, Cond.instanceMethod yX4_copyFrom, Cond.selects RX4 yX4_copyFrom yX4_copyFrom, Cond.initialized RX4, Cond.code yX4_copyFrom cX4_copyFrom 2 none, Cond.fieldLink RX4 14 "BundledLinks$Net" "zero" "LBundledLinks$End;", Cond.fieldLink RX4 20 "BundledLinks$Net" "one" "LBundledLinks$End;", Cond.fieldLink RX4 26 "BundledLinks$Net" "links" "I", Cond.fieldLink RX4 30 "BundledLinks$Net" "most" "I", Cond.fieldLink RX4 33 "BundledLinks$Net" "wait" "I", Cond.fieldLink RX4 36 "BundledLinks$Net" "drain" "I", Cond.fieldLink RX4 39 "BundledLinks$Net" "ticks" "I", Cond.methodLink RX4 42 yX0_copyFrom]
def wsX7_undo_r2 : List Cond := [Cond.instanceMethod yX0_copyFrom, Cond.selects RX0 yX0_copyFrom yX0_copyFrom, Cond.initialized RX0, Cond.code yX0_copyFrom cX0_copyFrom 3 none, Cond.fieldLink RX0 29 "BundledLinks$End" "rank" "I", Cond.fieldLink RX0 17 "BundledLinks$End" "ports" "[LBundledLinks$Port;", Cond.fieldLink RX0 24 "BundledLinks$End" "flows" "[LBundledLinks$Flow;", Cond.methodLink RX0 36 yX5_copyFrom, Cond.instanceMethod yX5_copyFrom, Cond.selects RX5 yX5_copyFrom yX5_copyFrom, Cond.initialized RX5, Cond.code yX5_copyFrom cX5_copyFrom 2 none, Cond.fieldLink RX5 21 "BundledLinks$Port" "up" "Z", Cond.fieldLink RX5 25 "BundledLinks$Port" "muted" "Z", Cond.fieldLink RX5 28 "BundledLinks$Port" "key" "I", Cond.fieldLink RX5 32 "BundledLinks$Port" "priority" "I", Cond.fieldLink RX5 12 "BundledLinks$Port" "heard" "LBundledLinks$Message;", Cond.fieldLink RX5 18 "BundledLinks$Port" "said" "LBundledLinks$Message;", Cond.fieldLink RX5 38 "BundledLinks$Port" "age" "I", Cond.fieldLink RX5 41 "BundledLinks$Port" "how" "I", Cond.fieldLink RX5 44 "BundledLinks$Port" "chosen" "Z", Cond.fieldLink RX5 47 "BundledLinks$Port" "chosenFor" "I", Cond.fieldLink RX5 50 "BundledLinks$Port" "begun" "I", Cond.methodLink RX5 53 yX3_copyFrom]
def wsX7_undo_r3 : List Cond := [Cond.instanceMethod yX3_copyFrom, Cond.selects RX3 yX3_copyFrom yX3_copyFrom, Cond.initialized RX3, Cond.code yX3_copyFrom cX3_copyFrom 2 none, Cond.fieldLink RX3 7 "BundledLinks$Message" "there" "Z", Cond.fieldLink RX3 13 "BundledLinks$Message" "key" "I", Cond.fieldLink RX3 17 "BundledLinks$Message" "priority" "I", Cond.fieldLink RX3 20 "BundledLinks$Message" "rank" "I", Cond.fieldLink RX3 23 "BundledLinks$Message" "sync" "Z", Cond.methodLink RX0 40 yX1_copyFrom, Cond.instanceMethod yX1_copyFrom, Cond.selects RX1 yX1_copyFrom yX1_copyFrom, Cond.initialized RX1, Cond.code yX1_copyFrom cX1_copyFrom 2 none, Cond.fieldLink RX1 9 "BundledLinks$Flow" "link" "I", Cond.fieldLink RX1 15 "BundledLinks$Flow" "held" "I"]
def wsX7_undo : List Cond := .code yX7_undo cX7_undo 2 (some .int) :: ((wsX7_undo_r1 ++ (wsX7_undo_r2 ++ wsX7_undo_r3)) ++ wsX70 ++ wsX20 ++ wsX40 ++ wsX00 ++ wsX50 ++ wsX30 ++ wsX10)
def wsX7_link_r1 : List Cond := [Cond.fieldLink RX7 19 "BundledLinks" "net" "LBundledLinks$Net;", Cond.methodLink RX7 78 yX4_portOf, Cond.instanceMethod yX4_portOf, Cond.selects RX4 yX4_portOf yX4_portOf, Cond.initialized RX4, Cond.code yX4_portOf cX4_portOf 4 (some (.object "BundledLinks$Port")), Cond.fieldLink RX4 26 "BundledLinks$Net" "links" "I", Cond.methodLink RX4 50 yX4_endOf, Cond.instanceMethod yX4_endOf, Cond.selects RX4 yX4_endOf yX4_endOf, Cond.code yX4_endOf cX4_endOf 2 (some (.object "BundledLinks$End")), Cond.fieldLink RX4 14 "BundledLinks$Net" "zero" "LBundledLinks$End;", Cond.fieldLink RX4 20 "BundledLinks$Net" "one" "LBundledLinks$End;", Cond.methodLink RX4 54 yX0_portAt, Cond.instanceMethod yX0_portAt, Cond.selects RX0 yX0_portAt yX0_portAt, Cond.initialized RX0, Cond.code yX0_portAt cX0_portAt 2 (some (.object "BundledLinks$Port")), Cond.fieldLink RX0 17 "BundledLinks$End" "ports" "[LBundledLinks$Port;", Cond.methodLink RX7 155 yX5_look, Cond.instanceMethod yX5_look, Cond.selects RX5 yX5_look yX5_look, Cond.initialized RX5, Cond.code yX5_look cX5_look 2 (some .int)]
def wsX7_link_r2 : List Cond := [Cond.fieldLink RX5 28 "BundledLinks$Port" "key" "I", Cond.fieldLink RX5 32 "BundledLinks$Port" "priority" "I", Cond.fieldLink RX5 41 "BundledLinks$Port" "how" "I", Cond.fieldLink RX5 38 "BundledLinks$Port" "age" "I", Cond.fieldLink RX5 12 "BundledLinks$Port" "heard" "LBundledLinks$Message;", Cond.fieldLink RX5 61 "BundledLinks$Message" "key" "I", Cond.fieldLink RX5 60 "BundledLinks$Message" "priority" "I", Cond.fieldLink RX5 69 "BundledLinks$Message" "rank" "I", Cond.fieldLink RX5 66 "BundledLinks$Message" "sync" "Z", Cond.fieldLink RX5 44 "BundledLinks$Port" "chosen" "Z", Cond.fieldLink RX5 47 "BundledLinks$Port" "chosenFor" "I", Cond.fieldLink RX5 50 "BundledLinks$Port" "begun" "I", Cond.fieldLink RX5 25 "BundledLinks$Port" "muted" "Z", Cond.methodLink RX5 72 yX5_known, Cond.instanceMethod yX5_known, Cond.selects RX5 yX5_known yX5_known, Cond.code yX5_known cX5_known 2 (some .int), Cond.fieldLink RX5 57 "BundledLinks$Message" "there" "Z"]
def wsX7_link : List Cond := .code yX7_link cX7_link 5 (some .int) :: ((wsX7_link_r1 ++ wsX7_link_r2) ++ wsX70 ++ wsX40 ++ wsX00 ++ wsX50 ++ wsX30)
def wsX7_bundle : List Cond := .code yX7_bundle cX7_bundle 4 (some .int) :: ([.fieldLink RX7 19 "BundledLinks" "net" "LBundledLinks$Net;", .methodLink RX7 108 yX4_endOf, .instanceMethod yX4_endOf, .selects RX4 yX4_endOf yX4_endOf, .initialized RX4, .code yX4_endOf cX4_endOf 2 (some (.object "BundledLinks$End")), .fieldLink RX4 14 "BundledLinks$Net" "zero" "LBundledLinks$End;", .fieldLink RX4 20 "BundledLinks$Net" "one" "LBundledLinks$End;", .methodLink RX7 158 yX0_bits, .instanceMethod yX0_bits, .selects RX0 yX0_bits yX0_bits, .initialized RX0, .code yX0_bits cX0_bits 4 (some .int), .fieldLink RX0 17 "BundledLinks$End" "ports" "[LBundledLinks$Port;", .methodLink RX0 111 yX5_isOf, .instanceMethod yX5_isOf, .selects RX5 yX5_isOf yX5_isOf, .initialized RX5, .code yX5_isOf cX5_isOf 2 (some .boolean), .fieldLink RX5 12 "BundledLinks$Port" "heard" "LBundledLinks$Message;", .fieldLink RX5 57 "BundledLinks$Message" "there" "Z", .fieldLink RX5 44 "BundledLinks$Port" "chosen" "Z", .fieldLink RX5 41 "BundledLinks$Port" "how" "I"] ++ wsX70 ++ wsX40 ++ wsX00 ++ wsX50 ++ wsX30)
def wsX7_flow_r1 : List Cond := [Cond.fieldLink RX7 19 "BundledLinks" "net" "LBundledLinks$Net;", Cond.fieldLink RX7 165 "BundledLinks$Flow" "link" "I", Cond.fieldLink RX7 170 "BundledLinks$Flow" "held" "I", Cond.methodLink RX7 108 yX4_endOf, Cond.instanceMethod yX4_endOf, Cond.selects RX4 yX4_endOf yX4_endOf, Cond.initialized RX4, Cond.code yX4_endOf cX4_endOf 2 (some (.object "BundledLinks$End")), Cond.fieldLink RX4 14 "BundledLinks$Net" "zero" "LBundledLinks$End;", Cond.fieldLink RX4 20 "BundledLinks$Net" "one" "LBundledLinks$End;", Cond.methodLink RX7 161 yX4_flowOf, Cond.instanceMethod yX4_flowOf, Cond.selects RX4 yX4_flowOf yX4_flowOf, Cond.code yX4_flowOf cX4_flowOf 4 (some (.object "BundledLinks$Flow")), Cond.methodLink RX4 50 yX4_endOf, Cond.methodLink RX4 58 yX0_flowAt, Cond.instanceMethod yX0_flowAt, Cond.selects RX0 yX0_flowAt yX0_flowAt, Cond.initialized RX0, Cond.code yX0_flowAt cX0_flowAt 2 (some (.object "BundledLinks$Flow")), Cond.fieldLink RX0 24 "BundledLinks$End" "flows" "[LBundledLinks$Flow;", Cond.methodLink RX7 173 yX0_howManySending, Cond.instanceMethod yX0_howManySending, Cond.selects RX0 yX0_howManySending yX0_howManySending]
def wsX7_flow_r2 : List Cond := [Cond.code yX0_howManySending cX0_howManySending 6 (some .int), Cond.fieldLink RX0 17 "BundledLinks$End" "ports" "[LBundledLinks$Port;", Cond.fieldLink RX0 43 "BundledLinks$Port" "how" "I", Cond.methodLink RX7 176 yX0_wantedBy, Cond.instanceMethod yX0_wantedBy, Cond.selects RX0 yX0_wantedBy yX0_wantedBy, Cond.code yX0_wantedBy cX0_wantedBy 5 (some .int)]
def wsX7_flow : List Cond := .code yX7_flow cX7_flow 6 (some .int) :: ((wsX7_flow_r1 ++ wsX7_flow_r2) ++ wsX70 ++ wsX10 ++ wsX40 ++ wsX00 ++ wsX50)
def wsX7_placeOfFrames : List Cond := .code yX7_placeOfFrames cX7_placeOfFrames 4 (some .int) :: ([.fieldLink RX7 19 "BundledLinks" "net" "LBundledLinks$Net;", .fieldLink RX7 75 "BundledLinks$Net" "links" "I", .fieldLink RX7 30 "BundledLinks" "went" "[I"] ++ wsX70 ++ wsX40)
def wsX7_frame_r1 : List Cond := [Cond.fieldLink RX7 19 "BundledLinks" "net" "LBundledLinks$Net;", Cond.fieldLink RX7 170 "BundledLinks$Flow" "held" "I", Cond.fieldLink RX7 165 "BundledLinks$Flow" "link" "I", Cond.fieldLink RX7 183 "BundledLinks$Port" "how" "I", Cond.fieldLink RX7 30 "BundledLinks" "went" "[I", Cond.methodLink RX7 161 yX4_flowOf, Cond.instanceMethod yX4_flowOf, Cond.selects RX4 yX4_flowOf yX4_flowOf, Cond.initialized RX4, Cond.code yX4_flowOf cX4_flowOf 4 (some (.object "BundledLinks$Flow")), Cond.methodLink RX4 50 yX4_endOf, Cond.instanceMethod yX4_endOf, Cond.selects RX4 yX4_endOf yX4_endOf, Cond.code yX4_endOf cX4_endOf 2 (some (.object "BundledLinks$End")), Cond.fieldLink RX4 14 "BundledLinks$Net" "zero" "LBundledLinks$End;", Cond.fieldLink RX4 20 "BundledLinks$Net" "one" "LBundledLinks$End;", Cond.methodLink RX4 58 yX0_flowAt, Cond.instanceMethod yX0_flowAt, Cond.selects RX0 yX0_flowAt yX0_flowAt, Cond.initialized RX0, Cond.code yX0_flowAt cX0_flowAt 2 (some (.object "BundledLinks$Flow")), Cond.fieldLink RX0 24 "BundledLinks$End" "flows" "[LBundledLinks$Flow;", Cond.methodLink RX7 78 yX4_portOf, Cond.instanceMethod yX4_portOf]
def wsX7_frame_r2 : List Cond := [Cond.selects RX4 yX4_portOf yX4_portOf, Cond.code yX4_portOf cX4_portOf 4 (some (.object "BundledLinks$Port")), Cond.fieldLink RX4 26 "BundledLinks$Net" "links" "I", Cond.methodLink RX4 54 yX0_portAt, Cond.instanceMethod yX0_portAt, Cond.selects RX0 yX0_portAt yX0_portAt, Cond.code yX0_portAt cX0_portAt 2 (some (.object "BundledLinks$Port")), Cond.fieldLink RX0 17 "BundledLinks$End" "ports" "[LBundledLinks$Port;", Cond.methodLink RX7 180 yX7_placeOfFrames, Cond.instanceMethod yX7_placeOfFrames, Cond.selects RX7 yX7_placeOfFrames yX7_placeOfFrames, Cond.initialized RX7, Cond.code yX7_placeOfFrames cX7_placeOfFrames 4 (some .int), Cond.fieldLink RX7 75 "BundledLinks$Net" "links" "I"]
def wsX7_frame : List Cond := .code yX7_frame cX7_frame 6 (some .int) :: ((wsX7_frame_r1 ++ wsX7_frame_r2) ++ wsX70 ++ wsX10 ++ wsX50 ++ wsX40 ++ wsX00)
def wsX7_frames : List Cond := .code yX7_frames cX7_frames 4 (some .int) :: ([.fieldLink RX7 30 "BundledLinks" "went" "[I", .methodLink RX7 180 yX7_placeOfFrames, .instanceMethod yX7_placeOfFrames, .selects RX7 yX7_placeOfFrames yX7_placeOfFrames, .initialized RX7, .code yX7_placeOfFrames cX7_placeOfFrames 4 (some .int), .fieldLink RX7 19 "BundledLinks" "net" "LBundledLinks$Net;", .fieldLink RX7 75 "BundledLinks$Net" "links" "I"] ++ wsX70 ++ wsX40)
def wsX7_settled_r1 : List Cond := [Cond.fieldLink RX7 34 "BundledLinks" "trial" "LBundledLinks$Net;", Cond.fieldLink RX7 19 "BundledLinks" "net" "LBundledLinks$Net;", Cond.fieldLink RX7 37 "BundledLinks" "mark" "LBundledLinks$Net;", Cond.methodLink RX7 151 yX4_copyFrom, Cond.instanceMethod yX4_copyFrom, Cond.selects RX4 yX4_copyFrom yX4_copyFrom, Cond.initialized RX4, Cond.code yX4_copyFrom cX4_copyFrom 2 none, Cond.fieldLink RX4 14 "BundledLinks$Net" "zero" "LBundledLinks$End;", Cond.fieldLink RX4 20 "BundledLinks$Net" "one" "LBundledLinks$End;", Cond.fieldLink RX4 26 "BundledLinks$Net" "links" "I", Cond.fieldLink RX4 30 "BundledLinks$Net" "most" "I", Cond.fieldLink RX4 33 "BundledLinks$Net" "wait" "I", Cond.fieldLink RX4 36 "BundledLinks$Net" "drain" "I", Cond.fieldLink RX4 39 "BundledLinks$Net" "ticks" "I", Cond.methodLink RX4 42 yX0_copyFrom, Cond.instanceMethod yX0_copyFrom, Cond.selects RX0 yX0_copyFrom yX0_copyFrom, Cond.initialized RX0, Cond.code yX0_copyFrom cX0_copyFrom 3 none, Cond.fieldLink RX0 29 "BundledLinks$End" "rank" "I", Cond.fieldLink RX0 17 "BundledLinks$End" "ports" "[LBundledLinks$Port;", Cond.fieldLink RX0 24 "BundledLinks$End" "flows" "[LBundledLinks$Flow;", Cond.methodLink RX0 36 yX5_copyFrom]
def wsX7_settled_r2 : List Cond := [Cond.instanceMethod yX5_copyFrom, Cond.selects RX5 yX5_copyFrom yX5_copyFrom, Cond.initialized RX5, Cond.code yX5_copyFrom cX5_copyFrom 2 none, Cond.fieldLink RX5 21 "BundledLinks$Port" "up" "Z", Cond.fieldLink RX5 25 "BundledLinks$Port" "muted" "Z", Cond.fieldLink RX5 28 "BundledLinks$Port" "key" "I", Cond.fieldLink RX5 32 "BundledLinks$Port" "priority" "I", Cond.fieldLink RX5 12 "BundledLinks$Port" "heard" "LBundledLinks$Message;", Cond.fieldLink RX5 18 "BundledLinks$Port" "said" "LBundledLinks$Message;", Cond.fieldLink RX5 38 "BundledLinks$Port" "age" "I", Cond.fieldLink RX5 41 "BundledLinks$Port" "how" "I", Cond.fieldLink RX5 44 "BundledLinks$Port" "chosen" "Z", Cond.fieldLink RX5 47 "BundledLinks$Port" "chosenFor" "I", Cond.fieldLink RX5 50 "BundledLinks$Port" "begun" "I", Cond.methodLink RX5 53 yX3_copyFrom, Cond.instanceMethod yX3_copyFrom, Cond.selects RX3 yX3_copyFrom yX3_copyFrom, Cond.initialized RX3, Cond.code yX3_copyFrom cX3_copyFrom 2 none, Cond.fieldLink RX3 7 "BundledLinks$Message" "there" "Z", Cond.fieldLink RX3 13 "BundledLinks$Message" "key" "I", Cond.fieldLink RX3 17 "BundledLinks$Message" "priority" "I", Cond.fieldLink RX3 20 "BundledLinks$Message" "rank" "I"]
def wsX7_settled_r3 : List Cond := [Cond.fieldLink RX3 23 "BundledLinks$Message" "sync" "Z", Cond.methodLink RX0 40 yX1_copyFrom, Cond.instanceMethod yX1_copyFrom, Cond.selects RX1 yX1_copyFrom yX1_copyFrom, Cond.initialized RX1, Cond.code yX1_copyFrom cX1_copyFrom 2 none, Cond.fieldLink RX1 9 "BundledLinks$Flow" "link" "I", Cond.fieldLink RX1 15 "BundledLinks$Flow" "held" "I", Cond.methodLink RX7 141 yX4_step, Cond.instanceMethod yX4_step, Cond.selects RX4 yX4_step yX4_step, Cond.code yX4_step cX4_step 1 none, Cond.methodLink RX4 75 yX0_hearFrom, Cond.instanceMethod yX0_hearFrom, Cond.selects RX0 yX0_hearFrom yX0_hearFrom, Cond.code yX0_hearFrom cX0_hearFrom 3 none, Cond.fieldLink RX0 49 "BundledLinks$Port" "said" "LBundledLinks$Message;", Cond.methodLink RX0 53 yX5_hear, Cond.instanceMethod yX5_hear, Cond.selects RX5 yX5_hear yX5_hear, Cond.code yX5_hear cX5_hear 2 none, Cond.fieldLink RX5 57 "BundledLinks$Message" "there" "Z", Cond.methodLink RX4 78 yX4_stepOf, Cond.instanceMethod yX4_stepOf]
def wsX7_settled_r4 : List Cond := [Cond.selects RX4 yX4_stepOf yX4_stepOf, Cond.code yX4_stepOf cX4_stepOf 2 none, Cond.methodLink RX4 81 yX0_choose, Cond.instanceMethod yX0_choose, Cond.selects RX0 yX0_choose yX0_choose, Cond.code yX0_choose cX0_choose 6 none, Cond.fieldLink RX0 57 "BundledLinks$Port" "chosen" "Z", Cond.methodLink RX0 61 yX0_decides, Cond.instanceMethod yX0_decides, Cond.selects RX0 yX0_decides yX0_decides, Cond.code yX0_decides cX0_decides 6 (some .boolean), Cond.fieldLink RX0 69 "BundledLinks$Port" "heard" "LBundledLinks$Message;", Cond.fieldLink RX0 72 "BundledLinks$Message" "there" "Z", Cond.fieldLink RX0 77 "BundledLinks$Message" "rank" "I", Cond.fieldLink RX0 9 "BundledLinks$End" "number" "I", Cond.methodLink RX0 65 yX0_bestOpen, Cond.instanceMethod yX0_bestOpen, Cond.selects RX0 yX0_bestOpen yX0_bestOpen, Cond.code yX0_bestOpen cX0_bestOpen 9 (some (.object "BundledLinks$Port")), Cond.methodLink RX0 78 yX5_hasPairOf, Cond.instanceMethod yX5_hasPairOf, Cond.selects RX5 yX5_hasPairOf yX5_hasPairOf, Cond.code yX5_hasPairOf cX5_hasPairOf 2 (some .boolean), Cond.fieldLink RX5 61 "BundledLinks$Message" "key" "I"]
def wsX7_settled_r5 : List Cond := [Cond.methodLink RX0 82 yX5_priorityBy, Cond.instanceMethod yX5_priorityBy, Cond.selects RX5 yX5_priorityBy yX5_priorityBy, Cond.code yX5_priorityBy cX5_priorityBy 2 (some .int), Cond.fieldLink RX5 60 "BundledLinks$Message" "priority" "I", Cond.methodLink RX4 84 yX0_judgeAndSay, Cond.instanceMethod yX0_judgeAndSay, Cond.selects RX0 yX0_judgeAndSay yX0_judgeAndSay, Cond.code yX0_judgeAndSay cX0_judgeAndSay 6 none, Cond.methodLink RX0 86 yX5_judge, Cond.instanceMethod yX5_judge, Cond.selects RX5 yX5_judge yX5_judge, Cond.code yX5_judge cX5_judge 3 none, Cond.methodLink RX5 62 yX5_howNow, Cond.instanceMethod yX5_howNow, Cond.selects RX5 yX5_howNow yX5_howNow, Cond.code yX5_howNow cX5_howNow 2 (some .int), Cond.fieldLink RX5 66 "BundledLinks$Message" "sync" "Z", Cond.methodLink RX0 90 yX5_say, Cond.instanceMethod yX5_say, Cond.selects RX5 yX5_say yX5_say, Cond.code yX5_say cX5_say 2 none, Cond.fieldLink RX5 69 "BundledLinks$Message" "rank" "I", Cond.methodLink RX4 87 yX0_dealFlows]
def wsX7_settled_r6 : List Cond := [Cond.instanceMethod yX0_dealFlows, Cond.selects RX0 yX0_dealFlows yX0_dealFlows, Cond.code yX0_dealFlows cX0_dealFlows 4 none, Cond.methodLink RX0 93 yX0_howManySending, Cond.instanceMethod yX0_howManySending, Cond.selects RX0 yX0_howManySending yX0_howManySending, Cond.code yX0_howManySending cX0_howManySending 6 (some .int), Cond.fieldLink RX0 43 "BundledLinks$Port" "how" "I", Cond.methodLink RX0 97 yX0_wantedBy, Cond.instanceMethod yX0_wantedBy, Cond.selects RX0 yX0_wantedBy yX0_wantedBy, Cond.code yX0_wantedBy cX0_wantedBy 5 (some .int), Cond.methodLink RX0 101 yX1_deal, Cond.instanceMethod yX1_deal, Cond.selects RX1 yX1_deal yX1_deal, Cond.code yX1_deal cX1_deal 3 none, Cond.methodLink RX7 189 yX4_looksLike, Cond.instanceMethod yX4_looksLike, Cond.selects RX4 yX4_looksLike yX4_looksLike, Cond.code yX4_looksLike cX4_looksLike 2 (some .boolean), Cond.methodLink RX4 46 yX0_looksLike, Cond.instanceMethod yX0_looksLike, Cond.selects RX0 yX0_looksLike yX0_looksLike, Cond.code yX0_looksLike cX0_looksLike 3 (some .boolean)]
def wsX7_settled_r7 : List Cond := [Cond.fieldLink RX0 46 "BundledLinks$Flow" "link" "I"]
def wsX7_settled : List Cond := .code yX7_settled cX7_settled 3 (some .int) :: ((wsX7_settled_r1 ++ (wsX7_settled_r2 ++ (wsX7_settled_r3 ++ (wsX7_settled_r4 ++ (wsX7_settled_r5 ++ (wsX7_settled_r6 ++ wsX7_settled_r7)))))) ++ wsX70 ++ wsX40 ++ wsX00 ++ wsX50 ++ wsX30 ++ wsX10)
def wsX7_count_r1 : List Cond := [Cond.fieldLink RX7 19 "BundledLinks" "net" "LBundledLinks$Net;", Cond.fieldLink RX7 75 "BundledLinks$Net" "links" "I", Cond.fieldLink RX7 99 "BundledLinks$Net" "zero" "LBundledLinks$End;", Cond.fieldLink RX7 193 "BundledLinks$Net" "wait" "I", Cond.fieldLink RX7 196 "BundledLinks$Net" "drain" "I", Cond.fieldLink RX7 138 "BundledLinks$Net" "ticks" "I", Cond.fieldLink RX7 26 "BundledLinks" "history" "LBundledLinks$History;", Cond.fieldLink RX7 154 "BundledLinks$History" "size" "I", Cond.fieldLink RX7 10 "BundledLinks" "text" "LBundledLinks$Text;", Cond.fieldLink RX7 63 "BundledLinks$Text" "size" "I", Cond.methodLink RX7 103 yX0_howManyUp, Cond.instanceMethod yX0_howManyUp, Cond.selects RX0 yX0_howManyUp yX0_howManyUp, Cond.initialized RX0, Cond.code yX0_howManyUp cX0_howManyUp 6 (some .int), Cond.fieldLink RX0 17 "BundledLinks$End" "ports" "[LBundledLinks$Port;", Cond.fieldLink RX0 105 "BundledLinks$Port" "up" "Z", Cond.methodLink RX7 130 yX4_setting, Cond.instanceMethod yX4_setting, Cond.selects RX4 yX4_setting yX4_setting, Cond.initialized RX4, Cond.code yX4_setting cX4_setting 2 (some .int), Cond.fieldLink RX4 14 "BundledLinks$Net" "zero" "LBundledLinks$End;", Cond.fieldLink RX4 72 "BundledLinks$End" "rank" "I"]
def wsX7_count_r2 : List Cond := [Cond.fieldLink RX4 20 "BundledLinks$Net" "one" "LBundledLinks$End;", Cond.fieldLink RX4 30 "BundledLinks$Net" "most" "I"]
def wsX7_count : List Cond := .code yX7_count cX7_count 2 (some .int) :: ((wsX7_count_r1 ++ wsX7_count_r2) ++ wsX70 ++ wsX40 ++ wsX20 ++ wsX60 ++ wsX00 ++ wsX50)
def wsX8_clearsPlan : List Cond := .code yX8_clearsPlan cX8_clearsPlan 1 none :: ([.fieldLink RX8 54 "BundledLinksModel" "newLinks" "I", .fieldLink RX8 28 "BundledLinksModel" "ranks" "[I", .fieldLink RX8 31 "BundledLinksModel" "more" "[I"] ++ wsX80)
def wsX8_adds : List Cond := .code yX8_adds cX8_adds 5 none :: ([.fieldLink RX8 25 "BundledLinksModel" "told" "[I", .fieldLink RX8 54 "BundledLinksModel" "newLinks" "I"] ++ wsX80)
def wsX8_place : List Cond := .code yX8_place cX8_place 2 (some .int) :: ([])
def wsX8_lays : List Cond := .code yX8_lays cX8_lays 4 none :: ([.fieldLink RX8 54 "BundledLinksModel" "newLinks" "I", .fieldLink RX8 83 "BundledLinksModel" "links" "I", .fieldLink RX8 31 "BundledLinksModel" "more" "[I", .fieldLink RX8 86 "BundledLinksModel" "wait" "I", .fieldLink RX8 89 "BundledLinksModel" "drain" "I", .fieldLink RX8 7 "BundledLinksModel" "now" "[I", .fieldLink RX8 28 "BundledLinksModel" "ranks" "[I", .fieldLink RX8 25 "BundledLinksModel" "told" "[I", .fieldLink RX8 19 "BundledLinksModel" "frames" "[I", .fieldLink RX8 96 "BundledLinksModel" "undos" "I", .methodLink RX8 92 yX8_place, .static yX8_place, .initialized RX8, .code yX8_place cX8_place 2 (some .int)] ++ wsX80)
def wsX8_init_r1 : List Cond := [Cond.methodLink RX8 1 objectInit, Cond.instanceMethod objectInit, Cond.code objectInit ⟨#[0xb1]⟩ 1 none, Cond.arrayClass .int, Cond.fieldLink RX8 7 "BundledLinksModel" "now" "[I", Cond.fieldLink RX8 13 "BundledLinksModel" "kept" "[I", Cond.fieldLink RX8 16 "BundledLinksModel" "past" "[I", Cond.fieldLink RX8 19 "BundledLinksModel" "frames" "[I", Cond.fieldLink RX8 22 "BundledLinksModel" "text" "[I", Cond.fieldLink RX8 25 "BundledLinksModel" "told" "[I", Cond.fieldLink RX8 28 "BundledLinksModel" "ranks" "[I", Cond.fieldLink RX8 31 "BundledLinksModel" "more" "[I", Cond.fieldLink RX8 34 "BundledLinksModel" "figures" "[I", Cond.arrayClass .boolean, Cond.fieldLink RX8 37 "BundledLinksModel" "chosen" "[Z", Cond.fieldLink RX8 41 "BundledLinksModel" "seen" "[I", Cond.methodLink RX8 44 yX8_clearsPlan, Cond.instanceMethod yX8_clearsPlan, Cond.selects RX8 yX8_clearsPlan yX8_clearsPlan, Cond.initialized RX8, Cond.code yX8_clearsPlan cX8_clearsPlan 1 none, Cond.fieldLink RX8 54 "BundledLinksModel" "newLinks" "I", Cond.methodLink RX8 47 yX8_adds, Cond.instanceMethod yX8_adds]
def wsX8_init_r2 : List Cond := [Cond.selects RX8 yX8_adds yX8_adds, Cond.code yX8_adds cX8_adds 5 none, Cond.methodLink RX8 51 yX8_lays, Cond.instanceMethod yX8_lays, Cond.selects RX8 yX8_lays yX8_lays, Cond.code yX8_lays cX8_lays 4 none, Cond.fieldLink RX8 83 "BundledLinksModel" "links" "I", Cond.fieldLink RX8 86 "BundledLinksModel" "wait" "I", Cond.fieldLink RX8 89 "BundledLinksModel" "drain" "I", Cond.fieldLink RX8 96 "BundledLinksModel" "undos" "I", Cond.methodLink RX8 92 yX8_place, Cond.static yX8_place, Cond.code yX8_place cX8_place 2 (some .int)]
def wsX8_init : List Cond := .code yX8_init cX8_init 1 none :: ((wsX8_init_r1 ++ wsX8_init_r2) ++ wsX80)
def wsX8_within : List Cond := .code yX8_within cX8_within 3 (some .boolean) :: ([])
def wsX8_passes : List Cond := .code yX8_passes cX8_passes 3 (some .boolean) :: ([.fieldLink RX8 58 "BundledLinksModel" "at" "I", .fieldLink RX8 61 "BundledLinksModel" "letters" "I", .fieldLink RX8 22 "BundledLinksModel" "text" "[I"] ++ wsX80)
def wsX8_areFigures : List Cond := .code yX8_areFigures cX8_areFigures 4 (some .boolean) :: ([.fieldLink RX8 58 "BundledLinksModel" "at" "I", .fieldLink RX8 61 "BundledLinksModel" "letters" "I", .fieldLink RX8 22 "BundledLinksModel" "text" "[I", .fieldLink RX8 34 "BundledLinksModel" "figures" "[I", .methodLink RX8 64 yX8_passes, .instanceMethod yX8_passes, .selects RX8 yX8_passes yX8_passes, .initialized RX8, .code yX8_passes cX8_passes 3 (some .boolean), .methodLink RX8 68 yX8_within, .static yX8_within, .code yX8_within cX8_within 3 (some .boolean)] ++ wsX80)
def wsX8_isItem : List Cond := .code yX8_isItem cX8_isItem 2 (some .boolean) :: ([.fieldLink RX8 54 "BundledLinksModel" "newLinks" "I", .fieldLink RX8 34 "BundledLinksModel" "figures" "[I", .fieldLink RX8 28 "BundledLinksModel" "ranks" "[I", .fieldLink RX8 31 "BundledLinksModel" "more" "[I", .methodLink RX8 64 yX8_passes, .instanceMethod yX8_passes, .selects RX8 yX8_passes yX8_passes, .initialized RX8, .code yX8_passes cX8_passes 3 (some .boolean), .fieldLink RX8 58 "BundledLinksModel" "at" "I", .fieldLink RX8 61 "BundledLinksModel" "letters" "I", .fieldLink RX8 22 "BundledLinksModel" "text" "[I", .methodLink RX8 72 yX8_areFigures, .instanceMethod yX8_areFigures, .selects RX8 yX8_areFigures yX8_areFigures, .code yX8_areFigures cX8_areFigures 4 (some .boolean), .methodLink RX8 68 yX8_within, .static yX8_within, .code yX8_within cX8_within 3 (some .boolean), .methodLink RX8 47 yX8_adds, .instanceMethod yX8_adds, .selects RX8 yX8_adds yX8_adds, .code yX8_adds cX8_adds 5 none, .fieldLink RX8 25 "BundledLinksModel" "told" "[I"] ++ wsX80)
def wsX8_faultAt_r1 : List Cond := [Cond.fieldLink RX8 58 "BundledLinksModel" "at" "I", Cond.fieldLink RX8 61 "BundledLinksModel" "letters" "I", Cond.methodLink RX8 44 yX8_clearsPlan, Cond.instanceMethod yX8_clearsPlan, Cond.selects RX8 yX8_clearsPlan yX8_clearsPlan, Cond.initialized RX8, Cond.code yX8_clearsPlan cX8_clearsPlan 1 none, Cond.fieldLink RX8 54 "BundledLinksModel" "newLinks" "I", Cond.fieldLink RX8 28 "BundledLinksModel" "ranks" "[I", Cond.fieldLink RX8 31 "BundledLinksModel" "more" "[I", Cond.methodLink RX8 75 yX8_isItem, Cond.instanceMethod yX8_isItem, Cond.selects RX8 yX8_isItem yX8_isItem, Cond.code yX8_isItem cX8_isItem 2 (some .boolean), Cond.fieldLink RX8 34 "BundledLinksModel" "figures" "[I", Cond.methodLink RX8 64 yX8_passes, Cond.instanceMethod yX8_passes, Cond.selects RX8 yX8_passes yX8_passes, Cond.code yX8_passes cX8_passes 3 (some .boolean), Cond.fieldLink RX8 22 "BundledLinksModel" "text" "[I", Cond.methodLink RX8 72 yX8_areFigures, Cond.instanceMethod yX8_areFigures, Cond.selects RX8 yX8_areFigures yX8_areFigures, Cond.code yX8_areFigures cX8_areFigures 4 (some .boolean)]
def wsX8_faultAt_r2 : List Cond := [Cond.methodLink RX8 68 yX8_within, Cond.static yX8_within, Cond.code yX8_within cX8_within 3 (some .boolean), Cond.methodLink RX8 47 yX8_adds, Cond.instanceMethod yX8_adds, Cond.selects RX8 yX8_adds yX8_adds, Cond.code yX8_adds cX8_adds 5 none, Cond.fieldLink RX8 25 "BundledLinksModel" "told" "[I"]
def wsX8_faultAt : List Cond := .code yX8_faultAt cX8_faultAt 2 (some .int) :: ((wsX8_faultAt_r1 ++ wsX8_faultAt_r2) ++ wsX80)
def wsX8_write : List Cond := .code yX8_write cX8_write 2 (some .int) :: ([.fieldLink RX8 61 "BundledLinksModel" "letters" "I", .fieldLink RX8 22 "BundledLinksModel" "text" "[I", .methodLink RX8 68 yX8_within, .static yX8_within, .initialized RX8, .code yX8_within cX8_within 3 (some .boolean)] ++ wsX80)
def wsX8_wipe : List Cond := .code yX8_wipe cX8_wipe 2 (some .int) :: ([.fieldLink RX8 61 "BundledLinksModel" "letters" "I"] ++ wsX80)
def wsX8_fault_r1 : List Cond := [Cond.methodLink RX8 79 yX8_faultAt, Cond.instanceMethod yX8_faultAt, Cond.selects RX8 yX8_faultAt yX8_faultAt, Cond.initialized RX8, Cond.code yX8_faultAt cX8_faultAt 2 (some .int), Cond.fieldLink RX8 58 "BundledLinksModel" "at" "I", Cond.fieldLink RX8 61 "BundledLinksModel" "letters" "I", Cond.methodLink RX8 44 yX8_clearsPlan, Cond.instanceMethod yX8_clearsPlan, Cond.selects RX8 yX8_clearsPlan yX8_clearsPlan, Cond.code yX8_clearsPlan cX8_clearsPlan 1 none, Cond.fieldLink RX8 54 "BundledLinksModel" "newLinks" "I", Cond.fieldLink RX8 28 "BundledLinksModel" "ranks" "[I", Cond.fieldLink RX8 31 "BundledLinksModel" "more" "[I", Cond.methodLink RX8 75 yX8_isItem, Cond.instanceMethod yX8_isItem, Cond.selects RX8 yX8_isItem yX8_isItem, Cond.code yX8_isItem cX8_isItem 2 (some .boolean), Cond.fieldLink RX8 34 "BundledLinksModel" "figures" "[I", Cond.methodLink RX8 64 yX8_passes, Cond.instanceMethod yX8_passes, Cond.selects RX8 yX8_passes yX8_passes, Cond.code yX8_passes cX8_passes 3 (some .boolean), Cond.fieldLink RX8 22 "BundledLinksModel" "text" "[I"]
def wsX8_fault_r2 : List Cond := [Cond.methodLink RX8 72 yX8_areFigures, Cond.instanceMethod yX8_areFigures, Cond.selects RX8 yX8_areFigures yX8_areFigures, Cond.code yX8_areFigures cX8_areFigures 4 (some .boolean), Cond.methodLink RX8 68 yX8_within, Cond.static yX8_within, Cond.code yX8_within cX8_within 3 (some .boolean), Cond.methodLink RX8 47 yX8_adds, Cond.instanceMethod yX8_adds, Cond.selects RX8 yX8_adds yX8_adds, Cond.code yX8_adds cX8_adds 5 none, Cond.fieldLink RX8 25 "BundledLinksModel" "told" "[I"]
def wsX8_fault : List Cond := .code yX8_fault cX8_fault 1 (some .int) :: ((wsX8_fault_r1 ++ wsX8_fault_r2) ++ wsX80)
def wsX8_lay_r1 : List Cond := [Cond.fieldLink RX8 54 "BundledLinksModel" "newLinks" "I", Cond.fieldLink RX8 83 "BundledLinksModel" "links" "I", Cond.methodLink RX8 79 yX8_faultAt, Cond.instanceMethod yX8_faultAt, Cond.selects RX8 yX8_faultAt yX8_faultAt, Cond.initialized RX8, Cond.code yX8_faultAt cX8_faultAt 2 (some .int), Cond.fieldLink RX8 58 "BundledLinksModel" "at" "I", Cond.fieldLink RX8 61 "BundledLinksModel" "letters" "I", Cond.methodLink RX8 44 yX8_clearsPlan, Cond.instanceMethod yX8_clearsPlan, Cond.selects RX8 yX8_clearsPlan yX8_clearsPlan, Cond.code yX8_clearsPlan cX8_clearsPlan 1 none, Cond.fieldLink RX8 28 "BundledLinksModel" "ranks" "[I", Cond.fieldLink RX8 31 "BundledLinksModel" "more" "[I", Cond.methodLink RX8 75 yX8_isItem, Cond.instanceMethod yX8_isItem, Cond.selects RX8 yX8_isItem yX8_isItem, Cond.code yX8_isItem cX8_isItem 2 (some .boolean), Cond.fieldLink RX8 34 "BundledLinksModel" "figures" "[I", Cond.methodLink RX8 64 yX8_passes, Cond.instanceMethod yX8_passes, Cond.selects RX8 yX8_passes yX8_passes, Cond.code yX8_passes cX8_passes 3 (some .boolean)]
def wsX8_lay_r2 : List Cond := [Cond.fieldLink RX8 22 "BundledLinksModel" "text" "[I", Cond.methodLink RX8 72 yX8_areFigures, Cond.instanceMethod yX8_areFigures, Cond.selects RX8 yX8_areFigures yX8_areFigures, Cond.code yX8_areFigures cX8_areFigures 4 (some .boolean), Cond.methodLink RX8 68 yX8_within, Cond.static yX8_within, Cond.code yX8_within cX8_within 3 (some .boolean), Cond.methodLink RX8 47 yX8_adds, Cond.instanceMethod yX8_adds, Cond.selects RX8 yX8_adds yX8_adds, Cond.code yX8_adds cX8_adds 5 none, Cond.fieldLink RX8 25 "BundledLinksModel" "told" "[I", Cond.methodLink RX8 51 yX8_lays, Cond.instanceMethod yX8_lays, Cond.selects RX8 yX8_lays yX8_lays, Cond.code yX8_lays cX8_lays 4 none, Cond.fieldLink RX8 86 "BundledLinksModel" "wait" "I", Cond.fieldLink RX8 89 "BundledLinksModel" "drain" "I", Cond.fieldLink RX8 7 "BundledLinksModel" "now" "[I", Cond.fieldLink RX8 19 "BundledLinksModel" "frames" "[I", Cond.fieldLink RX8 96 "BundledLinksModel" "undos" "I", Cond.methodLink RX8 92 yX8_place, Cond.static yX8_place]
def wsX8_lay_r3 : List Cond := [Cond.code yX8_place cX8_place 2 (some .int)]
def wsX8_lay : List Cond := .code yX8_lay cX8_lay 1 (some .int) :: ((wsX8_lay_r1 ++ (wsX8_lay_r2 ++ wsX8_lay_r3)) ++ wsX80)
def wsX8_isEnd : List Cond := .code yX8_isEnd cX8_isEnd 1 (some .boolean) :: ([])
def wsX8_isLink : List Cond := .code yX8_isLink cX8_isLink 2 (some .boolean) :: ([.fieldLink RX8 83 "BundledLinksModel" "links" "I", .methodLink RX8 68 yX8_within, .static yX8_within, .initialized RX8, .code yX8_within cX8_within 3 (some .boolean)] ++ wsX80)
def wsX8_keeps : List Cond := .code yX8_keeps cX8_keeps 2 none :: ([.fieldLink RX8 96 "BundledLinksModel" "undos" "I", .fieldLink RX8 16 "BundledLinksModel" "past" "[I", .fieldLink RX8 7 "BundledLinksModel" "now" "[I"] ++ wsX80)
def wsX8_upMany : List Cond := .code yX8_upMany cX8_upMany 3 (some .int) :: ([.fieldLink RX8 83 "BundledLinksModel" "links" "I", .fieldLink RX8 7 "BundledLinksModel" "now" "[I"] ++ wsX80)
def wsX8_plug : List Cond := .code yX8_plug cX8_plug 3 (some .int) :: ([.fieldLink RX8 7 "BundledLinksModel" "now" "[I", .methodLink RX8 99 yX8_isLink, .instanceMethod yX8_isLink, .selects RX8 yX8_isLink yX8_isLink, .initialized RX8, .code yX8_isLink cX8_isLink 2 (some .boolean), .fieldLink RX8 83 "BundledLinksModel" "links" "I", .methodLink RX8 68 yX8_within, .static yX8_within, .code yX8_within cX8_within 3 (some .boolean), .methodLink RX8 102 yX8_keeps, .instanceMethod yX8_keeps, .selects RX8 yX8_keeps yX8_keeps, .code yX8_keeps cX8_keeps 2 none, .fieldLink RX8 96 "BundledLinksModel" "undos" "I", .fieldLink RX8 16 "BundledLinksModel" "past" "[I", .methodLink RX8 105 yX8_upMany, .instanceMethod yX8_upMany, .selects RX8 yX8_upMany yX8_upMany, .code yX8_upMany cX8_upMany 3 (some .int)] ++ wsX80)
def wsX8_mute : List Cond := .code yX8_mute cX8_mute 6 (some .int) :: ([.fieldLink RX8 7 "BundledLinksModel" "now" "[I", .fieldLink RX8 83 "BundledLinksModel" "links" "I", .methodLink RX8 108 yX8_isEnd, .static yX8_isEnd, .initialized RX8, .code yX8_isEnd cX8_isEnd 1 (some .boolean), .methodLink RX8 99 yX8_isLink, .instanceMethod yX8_isLink, .selects RX8 yX8_isLink yX8_isLink, .code yX8_isLink cX8_isLink 2 (some .boolean), .methodLink RX8 68 yX8_within, .static yX8_within, .code yX8_within cX8_within 3 (some .boolean), .methodLink RX8 92 yX8_place, .static yX8_place, .code yX8_place cX8_place 2 (some .int), .methodLink RX8 102 yX8_keeps, .instanceMethod yX8_keeps, .selects RX8 yX8_keeps yX8_keeps, .code yX8_keeps cX8_keeps 2 none, .fieldLink RX8 96 "BundledLinksModel" "undos" "I", .fieldLink RX8 16 "BundledLinksModel" "past" "[I"] ++ wsX80)
def wsX8_becomes : List Cond := .code yX8_becomes cX8_becomes 4 (some .int) :: ([.fieldLink RX8 7 "BundledLinksModel" "now" "[I", .methodLink RX8 102 yX8_keeps, .instanceMethod yX8_keeps, .selects RX8 yX8_keeps yX8_keeps, .initialized RX8, .code yX8_keeps cX8_keeps 2 none, .fieldLink RX8 96 "BundledLinksModel" "undos" "I", .fieldLink RX8 16 "BundledLinksModel" "past" "[I"] ++ wsX80)
def wsX8_tell_r1 : List Cond := [Cond.methodLink RX8 108 yX8_isEnd, Cond.static yX8_isEnd, Cond.initialized RX8, Cond.code yX8_isEnd cX8_isEnd 1 (some .boolean), Cond.methodLink RX8 99 yX8_isLink, Cond.instanceMethod yX8_isLink, Cond.selects RX8 yX8_isLink yX8_isLink, Cond.code yX8_isLink cX8_isLink 2 (some .boolean), Cond.fieldLink RX8 83 "BundledLinksModel" "links" "I", Cond.methodLink RX8 68 yX8_within, Cond.static yX8_within, Cond.code yX8_within cX8_within 3 (some .boolean), Cond.methodLink RX8 92 yX8_place, Cond.static yX8_place, Cond.code yX8_place cX8_place 2 (some .int), Cond.methodLink RX8 111 yX8_becomes, Cond.instanceMethod yX8_becomes, Cond.selects RX8 yX8_becomes yX8_becomes, Cond.code yX8_becomes cX8_becomes 4 (some .int), Cond.fieldLink RX8 7 "BundledLinksModel" "now" "[I", Cond.methodLink RX8 102 yX8_keeps, Cond.instanceMethod yX8_keeps, Cond.selects RX8 yX8_keeps yX8_keeps, Cond.code yX8_keeps cX8_keeps 2 none]
def wsX8_tell_r2 : List Cond := [Cond.fieldLink RX8 96 "BundledLinksModel" "undos" "I", Cond.fieldLink RX8 16 "BundledLinksModel" "past" "[I"]
def wsX8_tell : List Cond := .code yX8_tell cX8_tell 5 (some .int) :: ((wsX8_tell_r1 ++ wsX8_tell_r2) ++ wsX80)
def wsX8_set : List Cond := .code yX8_set cX8_set 3 (some .int) :: ([.methodLink RX8 68 yX8_within, .static yX8_within, .initialized RX8, .code yX8_within cX8_within 3 (some .boolean), .methodLink RX8 111 yX8_becomes, .instanceMethod yX8_becomes, .selects RX8 yX8_becomes yX8_becomes, .code yX8_becomes cX8_becomes 4 (some .int), .fieldLink RX8 7 "BundledLinksModel" "now" "[I", .methodLink RX8 102 yX8_keeps, .instanceMethod yX8_keeps, .selects RX8 yX8_keeps yX8_keeps, .code yX8_keeps cX8_keeps 2 none, .fieldLink RX8 96 "BundledLinksModel" "undos" "I", .fieldLink RX8 16 "BundledLinksModel" "past" "[I"] ++ wsX80)
def wsX8_undo : List Cond := .code yX8_undo cX8_undo 2 (some .int) :: ([.fieldLink RX8 96 "BundledLinksModel" "undos" "I", .fieldLink RX8 7 "BundledLinksModel" "now" "[I", .fieldLink RX8 16 "BundledLinksModel" "past" "[I"] ++ wsX80)
def wsX8_knowsNothing : List Cond := .code yX8_knowsNothing cX8_knowsNothing 2 none :: ([.fieldLink RX8 7 "BundledLinksModel" "now" "[I"] ++ wsX80)
def wsX8_comes : List Cond := .code yX8_comes cX8_comes 6 none :: ([.fieldLink RX8 7 "BundledLinksModel" "now" "[I", .methodLink RX8 92 yX8_place, .static yX8_place, .initialized RX8, .code yX8_place cX8_place 2 (some .int), .methodLink RX8 114 yX8_knowsNothing, .instanceMethod yX8_knowsNothing, .selects RX8 yX8_knowsNothing yX8_knowsNothing, .code yX8_knowsNothing cX8_knowsNothing 2 none] ++ wsX80)
def wsX8_isOpen : List Cond := .code yX8_isOpen cX8_isOpen 3 (some .boolean) :: ([.fieldLink RX8 7 "BundledLinksModel" "now" "[I", .methodLink RX8 92 yX8_place, .static yX8_place, .initialized RX8, .code yX8_place cX8_place 2 (some .int)] ++ wsX80)
def wsX8_doesDecide : List Cond := .code yX8_doesDecide cX8_doesDecide 5 (some .boolean) :: ([.fieldLink RX8 83 "BundledLinksModel" "links" "I", .fieldLink RX8 7 "BundledLinksModel" "now" "[I", .methodLink RX8 118 yX8_isOpen, .instanceMethod yX8_isOpen, .selects RX8 yX8_isOpen yX8_isOpen, .initialized RX8, .code yX8_isOpen cX8_isOpen 3 (some .boolean), .methodLink RX8 92 yX8_place, .static yX8_place, .code yX8_place cX8_place 2 (some .int)] ++ wsX80)
def wsX8_isPair : List Cond := .code yX8_isPair cX8_isPair 4 (some .boolean) :: ([.fieldLink RX8 7 "BundledLinksModel" "now" "[I", .methodLink RX8 92 yX8_place, .static yX8_place, .initialized RX8, .code yX8_place cX8_place 2 (some .int)] ++ wsX80)
def wsX8_ahead : List Cond := .code yX8_ahead cX8_ahead 10 (some .int) :: ([.fieldLink RX8 7 "BundledLinksModel" "now" "[I", .fieldLink RX8 83 "BundledLinksModel" "links" "I", .methodLink RX8 92 yX8_place, .static yX8_place, .initialized RX8, .code yX8_place cX8_place 2 (some .int), .methodLink RX8 118 yX8_isOpen, .instanceMethod yX8_isOpen, .selects RX8 yX8_isOpen yX8_isOpen, .code yX8_isOpen cX8_isOpen 3 (some .boolean), .methodLink RX8 122 yX8_isPair, .instanceMethod yX8_isPair, .selects RX8 yX8_isPair yX8_isPair, .code yX8_isPair cX8_isPair 4 (some .boolean)] ++ wsX80)
def wsX8_chooses : List Cond := .code yX8_chooses cX8_chooses 5 none :: ([.fieldLink RX8 83 "BundledLinksModel" "links" "I", .fieldLink RX8 37 "BundledLinksModel" "chosen" "[Z", .fieldLink RX8 7 "BundledLinksModel" "now" "[I", .methodLink RX8 125 yX8_doesDecide, .instanceMethod yX8_doesDecide, .selects RX8 yX8_doesDecide yX8_doesDecide, .initialized RX8, .code yX8_doesDecide cX8_doesDecide 5 (some .boolean), .methodLink RX8 118 yX8_isOpen, .instanceMethod yX8_isOpen, .selects RX8 yX8_isOpen yX8_isOpen, .code yX8_isOpen cX8_isOpen 3 (some .boolean), .methodLink RX8 92 yX8_place, .static yX8_place, .code yX8_place cX8_place 2 (some .int), .methodLink RX8 128 yX8_ahead, .instanceMethod yX8_ahead, .selects RX8 yX8_ahead yX8_ahead, .code yX8_ahead cX8_ahead 10 (some .int), .methodLink RX8 122 yX8_isPair, .instanceMethod yX8_isPair, .selects RX8 yX8_isPair yX8_isPair, .code yX8_isPair cX8_isPair 4 (some .boolean)] ++ wsX80)
def wsX8_howOf : List Cond := .code yX8_howOf cX8_howOf 3 (some .int) :: ([.fieldLink RX8 7 "BundledLinksModel" "now" "[I", .fieldLink RX8 86 "BundledLinksModel" "wait" "I"] ++ wsX80)
def wsX8_becomesHow_r1 : List Cond := [Cond.fieldLink RX8 83 "BundledLinksModel" "links" "I", Cond.fieldLink RX8 7 "BundledLinksModel" "now" "[I", Cond.fieldLink RX8 37 "BundledLinksModel" "chosen" "[Z", Cond.methodLink RX8 132 yX8_chooses, Cond.instanceMethod yX8_chooses, Cond.selects RX8 yX8_chooses yX8_chooses, Cond.initialized RX8, Cond.code yX8_chooses cX8_chooses 5 none, Cond.methodLink RX8 125 yX8_doesDecide, Cond.instanceMethod yX8_doesDecide, Cond.selects RX8 yX8_doesDecide yX8_doesDecide, Cond.code yX8_doesDecide cX8_doesDecide 5 (some .boolean), Cond.methodLink RX8 118 yX8_isOpen, Cond.instanceMethod yX8_isOpen, Cond.selects RX8 yX8_isOpen yX8_isOpen, Cond.code yX8_isOpen cX8_isOpen 3 (some .boolean), Cond.methodLink RX8 92 yX8_place, Cond.static yX8_place, Cond.code yX8_place cX8_place 2 (some .int), Cond.methodLink RX8 128 yX8_ahead, Cond.instanceMethod yX8_ahead, Cond.selects RX8 yX8_ahead yX8_ahead, Cond.code yX8_ahead cX8_ahead 10 (some .int), Cond.methodLink RX8 122 yX8_isPair]
def wsX8_becomesHow_r2 : List Cond := [Cond.instanceMethod yX8_isPair, Cond.selects RX8 yX8_isPair yX8_isPair, Cond.code yX8_isPair cX8_isPair 4 (some .boolean), Cond.methodLink RX8 135 yX8_howOf, Cond.instanceMethod yX8_howOf, Cond.selects RX8 yX8_howOf yX8_howOf, Cond.code yX8_howOf cX8_howOf 3 (some .int), Cond.fieldLink RX8 86 "BundledLinksModel" "wait" "I"]
def wsX8_becomesHow : List Cond := .code yX8_becomesHow cX8_becomesHow 5 none :: ((wsX8_becomesHow_r1 ++ wsX8_becomesHow_r2) ++ wsX80)
def wsX8_sends : List Cond := .code yX8_sends cX8_sends 4 none :: ([.fieldLink RX8 7 "BundledLinksModel" "now" "[I", .methodLink RX8 92 yX8_place, .static yX8_place, .initialized RX8, .code yX8_place cX8_place 2 (some .int)] ++ wsX80)
def wsX8_isSending : List Cond := .code yX8_isSending cX8_isSending 3 (some .boolean) :: ([.fieldLink RX8 7 "BundledLinksModel" "now" "[I", .methodLink RX8 92 yX8_place, .static yX8_place, .initialized RX8, .code yX8_place cX8_place 2 (some .int)] ++ wsX80)
def wsX8_wants : List Cond := .code yX8_wants cX8_wants 6 (some .int) :: ([.fieldLink RX8 83 "BundledLinksModel" "links" "I", .methodLink RX8 138 yX8_isSending, .instanceMethod yX8_isSending, .selects RX8 yX8_isSending yX8_isSending, .initialized RX8, .code yX8_isSending cX8_isSending 3 (some .boolean), .fieldLink RX8 7 "BundledLinksModel" "now" "[I", .methodLink RX8 92 yX8_place, .static yX8_place, .code yX8_place cX8_place 2 (some .int)] ++ wsX80)
def wsX8_deals : List Cond := .code yX8_deals cX8_deals 5 none :: ([.fieldLink RX8 7 "BundledLinksModel" "now" "[I", .fieldLink RX8 89 "BundledLinksModel" "drain" "I", .methodLink RX8 141 yX8_wants, .instanceMethod yX8_wants, .selects RX8 yX8_wants yX8_wants, .initialized RX8, .code yX8_wants cX8_wants 6 (some .int), .fieldLink RX8 83 "BundledLinksModel" "links" "I", .methodLink RX8 138 yX8_isSending, .instanceMethod yX8_isSending, .selects RX8 yX8_isSending yX8_isSending, .code yX8_isSending cX8_isSending 3 (some .boolean), .methodLink RX8 92 yX8_place, .static yX8_place, .code yX8_place cX8_place 2 (some .int)] ++ wsX80)
def wsX8_ticks_r1 : List Cond := [Cond.fieldLink RX8 7 "BundledLinksModel" "now" "[I", Cond.fieldLink RX8 83 "BundledLinksModel" "links" "I", Cond.methodLink RX8 144 yX8_comes, Cond.instanceMethod yX8_comes, Cond.selects RX8 yX8_comes yX8_comes, Cond.initialized RX8, Cond.code yX8_comes cX8_comes 6 none, Cond.methodLink RX8 92 yX8_place, Cond.static yX8_place, Cond.code yX8_place cX8_place 2 (some .int), Cond.methodLink RX8 114 yX8_knowsNothing, Cond.instanceMethod yX8_knowsNothing, Cond.selects RX8 yX8_knowsNothing yX8_knowsNothing, Cond.code yX8_knowsNothing cX8_knowsNothing 2 none, Cond.methodLink RX8 148 yX8_becomesHow, Cond.instanceMethod yX8_becomesHow, Cond.selects RX8 yX8_becomesHow yX8_becomesHow, Cond.code yX8_becomesHow cX8_becomesHow 5 none, Cond.fieldLink RX8 37 "BundledLinksModel" "chosen" "[Z", Cond.methodLink RX8 132 yX8_chooses, Cond.instanceMethod yX8_chooses, Cond.selects RX8 yX8_chooses yX8_chooses, Cond.code yX8_chooses cX8_chooses 5 none, Cond.methodLink RX8 125 yX8_doesDecide]
def wsX8_ticks_r2 : List Cond := [Cond.instanceMethod yX8_doesDecide, Cond.selects RX8 yX8_doesDecide yX8_doesDecide, Cond.code yX8_doesDecide cX8_doesDecide 5 (some .boolean), Cond.methodLink RX8 118 yX8_isOpen, Cond.instanceMethod yX8_isOpen, Cond.selects RX8 yX8_isOpen yX8_isOpen, Cond.code yX8_isOpen cX8_isOpen 3 (some .boolean), Cond.methodLink RX8 128 yX8_ahead, Cond.instanceMethod yX8_ahead, Cond.selects RX8 yX8_ahead yX8_ahead, Cond.code yX8_ahead cX8_ahead 10 (some .int), Cond.methodLink RX8 122 yX8_isPair, Cond.instanceMethod yX8_isPair, Cond.selects RX8 yX8_isPair yX8_isPair, Cond.code yX8_isPair cX8_isPair 4 (some .boolean), Cond.methodLink RX8 135 yX8_howOf, Cond.instanceMethod yX8_howOf, Cond.selects RX8 yX8_howOf yX8_howOf, Cond.code yX8_howOf cX8_howOf 3 (some .int), Cond.fieldLink RX8 86 "BundledLinksModel" "wait" "I", Cond.methodLink RX8 151 yX8_sends, Cond.instanceMethod yX8_sends, Cond.selects RX8 yX8_sends yX8_sends, Cond.code yX8_sends cX8_sends 4 none]
def wsX8_ticks_r3 : List Cond := [Cond.methodLink RX8 154 yX8_deals, Cond.instanceMethod yX8_deals, Cond.selects RX8 yX8_deals yX8_deals, Cond.code yX8_deals cX8_deals 5 none, Cond.fieldLink RX8 89 "BundledLinksModel" "drain" "I", Cond.methodLink RX8 141 yX8_wants, Cond.instanceMethod yX8_wants, Cond.selects RX8 yX8_wants yX8_wants, Cond.code yX8_wants cX8_wants 6 (some .int), Cond.methodLink RX8 138 yX8_isSending, Cond.instanceMethod yX8_isSending, Cond.selects RX8 yX8_isSending yX8_isSending, Cond.code yX8_isSending cX8_isSending 3 (some .boolean)]
def wsX8_ticks : List Cond := .code yX8_ticks cX8_ticks 2 none :: ((wsX8_ticks_r1 ++ (wsX8_ticks_r2 ++ wsX8_ticks_r3)) ++ wsX80)
def wsX8_sendingSet : List Cond := .code yX8_sendingSet cX8_sendingSet 4 (some .int) :: ([.fieldLink RX8 83 "BundledLinksModel" "links" "I", .methodLink RX8 138 yX8_isSending, .instanceMethod yX8_isSending, .selects RX8 yX8_isSending yX8_isSending, .initialized RX8, .code yX8_isSending cX8_isSending 3 (some .boolean), .fieldLink RX8 7 "BundledLinksModel" "now" "[I", .methodLink RX8 92 yX8_place, .static yX8_place, .code yX8_place cX8_place 2 (some .int)] ++ wsX80)
def wsX8_agreed : List Cond := .code yX8_agreed cX8_agreed 2 (some .int) :: ([.methodLink RX8 157 yX8_sendingSet, .instanceMethod yX8_sendingSet, .selects RX8 yX8_sendingSet yX8_sendingSet, .initialized RX8, .code yX8_sendingSet cX8_sendingSet 4 (some .int), .fieldLink RX8 83 "BundledLinksModel" "links" "I", .methodLink RX8 138 yX8_isSending, .instanceMethod yX8_isSending, .selects RX8 yX8_isSending yX8_isSending, .code yX8_isSending cX8_isSending 3 (some .boolean), .fieldLink RX8 7 "BundledLinksModel" "now" "[I", .methodLink RX8 92 yX8_place, .static yX8_place, .code yX8_place cX8_place 2 (some .int)] ++ wsX80)
def wsX8_tick_r1 : List Cond := [Cond.fieldLink RX8 7 "BundledLinksModel" "now" "[I", Cond.methodLink RX8 68 yX8_within, Cond.static yX8_within, Cond.initialized RX8, Cond.code yX8_within cX8_within 3 (some .boolean), Cond.methodLink RX8 102 yX8_keeps, Cond.instanceMethod yX8_keeps, Cond.selects RX8 yX8_keeps yX8_keeps, Cond.code yX8_keeps cX8_keeps 2 none, Cond.fieldLink RX8 96 "BundledLinksModel" "undos" "I", Cond.fieldLink RX8 16 "BundledLinksModel" "past" "[I", Cond.methodLink RX8 161 yX8_ticks, Cond.instanceMethod yX8_ticks, Cond.selects RX8 yX8_ticks yX8_ticks, Cond.code yX8_ticks cX8_ticks 2 none, Cond.fieldLink RX8 83 "BundledLinksModel" "links" "I", Cond.methodLink RX8 144 yX8_comes, Cond.instanceMethod yX8_comes, Cond.selects RX8 yX8_comes yX8_comes, Cond.code yX8_comes cX8_comes 6 none, Cond.methodLink RX8 92 yX8_place, Cond.static yX8_place, Cond.code yX8_place cX8_place 2 (some .int), Cond.methodLink RX8 114 yX8_knowsNothing]
def wsX8_tick_r2 : List Cond := [Cond.instanceMethod yX8_knowsNothing, Cond.selects RX8 yX8_knowsNothing yX8_knowsNothing, Cond.code yX8_knowsNothing cX8_knowsNothing 2 none, Cond.methodLink RX8 148 yX8_becomesHow, Cond.instanceMethod yX8_becomesHow, Cond.selects RX8 yX8_becomesHow yX8_becomesHow, Cond.code yX8_becomesHow cX8_becomesHow 5 none, Cond.fieldLink RX8 37 "BundledLinksModel" "chosen" "[Z", Cond.methodLink RX8 132 yX8_chooses, Cond.instanceMethod yX8_chooses, Cond.selects RX8 yX8_chooses yX8_chooses, Cond.code yX8_chooses cX8_chooses 5 none, Cond.methodLink RX8 125 yX8_doesDecide, Cond.instanceMethod yX8_doesDecide, Cond.selects RX8 yX8_doesDecide yX8_doesDecide, Cond.code yX8_doesDecide cX8_doesDecide 5 (some .boolean), Cond.methodLink RX8 118 yX8_isOpen, Cond.instanceMethod yX8_isOpen, Cond.selects RX8 yX8_isOpen yX8_isOpen, Cond.code yX8_isOpen cX8_isOpen 3 (some .boolean), Cond.methodLink RX8 128 yX8_ahead, Cond.instanceMethod yX8_ahead, Cond.selects RX8 yX8_ahead yX8_ahead, Cond.code yX8_ahead cX8_ahead 10 (some .int)]
def wsX8_tick_r3 : List Cond := [Cond.methodLink RX8 122 yX8_isPair, Cond.instanceMethod yX8_isPair, Cond.selects RX8 yX8_isPair yX8_isPair, Cond.code yX8_isPair cX8_isPair 4 (some .boolean), Cond.methodLink RX8 135 yX8_howOf, Cond.instanceMethod yX8_howOf, Cond.selects RX8 yX8_howOf yX8_howOf, Cond.code yX8_howOf cX8_howOf 3 (some .int), Cond.fieldLink RX8 86 "BundledLinksModel" "wait" "I", Cond.methodLink RX8 151 yX8_sends, Cond.instanceMethod yX8_sends, Cond.selects RX8 yX8_sends yX8_sends, Cond.code yX8_sends cX8_sends 4 none, Cond.methodLink RX8 154 yX8_deals, Cond.instanceMethod yX8_deals, Cond.selects RX8 yX8_deals yX8_deals, Cond.code yX8_deals cX8_deals 5 none, Cond.fieldLink RX8 89 "BundledLinksModel" "drain" "I", Cond.methodLink RX8 141 yX8_wants, Cond.instanceMethod yX8_wants, Cond.selects RX8 yX8_wants yX8_wants, Cond.code yX8_wants cX8_wants 6 (some .int), Cond.methodLink RX8 138 yX8_isSending, Cond.instanceMethod yX8_isSending]
def wsX8_tick_r4 : List Cond := [Cond.selects RX8 yX8_isSending yX8_isSending, Cond.code yX8_isSending cX8_isSending 3 (some .boolean), Cond.methodLink RX8 164 yX8_agreed, Cond.instanceMethod yX8_agreed, Cond.selects RX8 yX8_agreed yX8_agreed, Cond.code yX8_agreed cX8_agreed 2 (some .int), Cond.methodLink RX8 157 yX8_sendingSet, Cond.instanceMethod yX8_sendingSet, Cond.selects RX8 yX8_sendingSet yX8_sendingSet, Cond.code yX8_sendingSet cX8_sendingSet 4 (some .int)]
def wsX8_tick : List Cond := .code yX8_tick cX8_tick 3 (some .int) :: ((wsX8_tick_r1 ++ (wsX8_tick_r2 ++ (wsX8_tick_r3 ++ wsX8_tick_r4))) ++ wsX80)
def wsX8_tellLink : List Cond := .code yX8_tellLink cX8_tellLink 3 (some .int) :: ([.fieldLink RX8 7 "BundledLinksModel" "now" "[I"] ++ wsX80)
def wsX8_link : List Cond := .code yX8_link cX8_link 4 (some .int) :: ([.methodLink RX8 108 yX8_isEnd, .static yX8_isEnd, .initialized RX8, .code yX8_isEnd cX8_isEnd 1 (some .boolean), .methodLink RX8 99 yX8_isLink, .instanceMethod yX8_isLink, .selects RX8 yX8_isLink yX8_isLink, .code yX8_isLink cX8_isLink 2 (some .boolean), .fieldLink RX8 83 "BundledLinksModel" "links" "I", .methodLink RX8 68 yX8_within, .static yX8_within, .code yX8_within cX8_within 3 (some .boolean), .methodLink RX8 92 yX8_place, .static yX8_place, .code yX8_place cX8_place 2 (some .int), .methodLink RX8 167 yX8_tellLink, .instanceMethod yX8_tellLink, .selects RX8 yX8_tellLink yX8_tellLink, .code yX8_tellLink cX8_tellLink 3 (some .int), .fieldLink RX8 7 "BundledLinksModel" "now" "[I"] ++ wsX80)
def wsX8_bundle : List Cond := .code yX8_bundle cX8_bundle 7 (some .int) :: ([.fieldLink RX8 83 "BundledLinksModel" "links" "I", .fieldLink RX8 7 "BundledLinksModel" "now" "[I", .methodLink RX8 108 yX8_isEnd, .static yX8_isEnd, .initialized RX8, .code yX8_isEnd cX8_isEnd 1 (some .boolean), .methodLink RX8 68 yX8_within, .static yX8_within, .code yX8_within cX8_within 3 (some .boolean), .methodLink RX8 92 yX8_place, .static yX8_place, .code yX8_place cX8_place 2 (some .int), .methodLink RX8 138 yX8_isSending, .instanceMethod yX8_isSending, .selects RX8 yX8_isSending yX8_isSending, .code yX8_isSending cX8_isSending 3 (some .boolean)] ++ wsX80)
def wsX8_isFlow : List Cond := .code yX8_isFlow cX8_isFlow 1 (some .boolean) :: ([.methodLink RX8 68 yX8_within, .static yX8_within, .initialized RX8, .code yX8_within cX8_within 3 (some .boolean)])
def wsX8_flow : List Cond := .code yX8_flow cX8_flow 4 (some .int) :: ([.fieldLink RX8 7 "BundledLinksModel" "now" "[I", .methodLink RX8 108 yX8_isEnd, .static yX8_isEnd, .initialized RX8, .code yX8_isEnd cX8_isEnd 1 (some .boolean), .methodLink RX8 170 yX8_isFlow, .static yX8_isFlow, .code yX8_isFlow cX8_isFlow 1 (some .boolean), .methodLink RX8 68 yX8_within, .static yX8_within, .code yX8_within cX8_within 3 (some .boolean), .methodLink RX8 141 yX8_wants, .instanceMethod yX8_wants, .selects RX8 yX8_wants yX8_wants, .code yX8_wants cX8_wants 6 (some .int), .fieldLink RX8 83 "BundledLinksModel" "links" "I", .methodLink RX8 138 yX8_isSending, .instanceMethod yX8_isSending, .selects RX8 yX8_isSending yX8_isSending, .code yX8_isSending cX8_isSending 3 (some .boolean), .methodLink RX8 92 yX8_place, .static yX8_place, .code yX8_place cX8_place 2 (some .int)] ++ wsX80)
def wsX8_frame : List Cond := .code yX8_frame cX8_frame 5 (some .int) :: ([.fieldLink RX8 7 "BundledLinksModel" "now" "[I", .fieldLink RX8 19 "BundledLinksModel" "frames" "[I", .methodLink RX8 108 yX8_isEnd, .static yX8_isEnd, .initialized RX8, .code yX8_isEnd cX8_isEnd 1 (some .boolean), .methodLink RX8 170 yX8_isFlow, .static yX8_isFlow, .code yX8_isFlow cX8_isFlow 1 (some .boolean), .methodLink RX8 68 yX8_within, .static yX8_within, .code yX8_within cX8_within 3 (some .boolean), .methodLink RX8 138 yX8_isSending, .instanceMethod yX8_isSending, .selects RX8 yX8_isSending yX8_isSending, .code yX8_isSending cX8_isSending 3 (some .boolean), .methodLink RX8 92 yX8_place, .static yX8_place, .code yX8_place cX8_place 2 (some .int)] ++ wsX80)
def wsX8_frames : List Cond := .code yX8_frames cX8_frames 3 (some .int) :: ([.fieldLink RX8 19 "BundledLinksModel" "frames" "[I", .methodLink RX8 108 yX8_isEnd, .static yX8_isEnd, .initialized RX8, .code yX8_isEnd cX8_isEnd 1 (some .boolean), .methodLink RX8 99 yX8_isLink, .instanceMethod yX8_isLink, .selects RX8 yX8_isLink yX8_isLink, .code yX8_isLink cX8_isLink 2 (some .boolean), .fieldLink RX8 83 "BundledLinksModel" "links" "I", .methodLink RX8 68 yX8_within, .static yX8_within, .code yX8_within cX8_within 3 (some .boolean)] ++ wsX80)
def wsX8_isOther : List Cond := .code yX8_isOther cX8_isOther 4 (some .boolean) :: ([.fieldLink RX8 7 "BundledLinksModel" "now" "[I", .fieldLink RX8 41 "BundledLinksModel" "seen" "[I"] ++ wsX80)
def wsX8_fewest_r1 : List Cond := [Cond.methodLink RX8 173 yX8_isOther, Cond.instanceMethod yX8_isOther, Cond.selects RX8 yX8_isOther yX8_isOther, Cond.initialized RX8, Cond.code yX8_isOther cX8_isOther 4 (some .boolean), Cond.fieldLink RX8 7 "BundledLinksModel" "now" "[I", Cond.fieldLink RX8 41 "BundledLinksModel" "seen" "[I", Cond.methodLink RX8 161 yX8_ticks, Cond.instanceMethod yX8_ticks, Cond.selects RX8 yX8_ticks yX8_ticks, Cond.code yX8_ticks cX8_ticks 2 none, Cond.fieldLink RX8 83 "BundledLinksModel" "links" "I", Cond.methodLink RX8 144 yX8_comes, Cond.instanceMethod yX8_comes, Cond.selects RX8 yX8_comes yX8_comes, Cond.code yX8_comes cX8_comes 6 none, Cond.methodLink RX8 92 yX8_place, Cond.static yX8_place, Cond.code yX8_place cX8_place 2 (some .int), Cond.methodLink RX8 114 yX8_knowsNothing, Cond.instanceMethod yX8_knowsNothing, Cond.selects RX8 yX8_knowsNothing yX8_knowsNothing, Cond.code yX8_knowsNothing cX8_knowsNothing 2 none, Cond.methodLink RX8 148 yX8_becomesHow]
def wsX8_fewest_r2 : List Cond := [Cond.instanceMethod yX8_becomesHow, Cond.selects RX8 yX8_becomesHow yX8_becomesHow, Cond.code yX8_becomesHow cX8_becomesHow 5 none, Cond.fieldLink RX8 37 "BundledLinksModel" "chosen" "[Z", Cond.methodLink RX8 132 yX8_chooses, Cond.instanceMethod yX8_chooses, Cond.selects RX8 yX8_chooses yX8_chooses, Cond.code yX8_chooses cX8_chooses 5 none, Cond.methodLink RX8 125 yX8_doesDecide, Cond.instanceMethod yX8_doesDecide, Cond.selects RX8 yX8_doesDecide yX8_doesDecide, Cond.code yX8_doesDecide cX8_doesDecide 5 (some .boolean), Cond.methodLink RX8 118 yX8_isOpen, Cond.instanceMethod yX8_isOpen, Cond.selects RX8 yX8_isOpen yX8_isOpen, Cond.code yX8_isOpen cX8_isOpen 3 (some .boolean), Cond.methodLink RX8 128 yX8_ahead, Cond.instanceMethod yX8_ahead, Cond.selects RX8 yX8_ahead yX8_ahead, Cond.code yX8_ahead cX8_ahead 10 (some .int), Cond.methodLink RX8 122 yX8_isPair, Cond.instanceMethod yX8_isPair, Cond.selects RX8 yX8_isPair yX8_isPair, Cond.code yX8_isPair cX8_isPair 4 (some .boolean)]
def wsX8_fewest_r3 : List Cond := [Cond.methodLink RX8 135 yX8_howOf, Cond.instanceMethod yX8_howOf, Cond.selects RX8 yX8_howOf yX8_howOf, Cond.code yX8_howOf cX8_howOf 3 (some .int), Cond.fieldLink RX8 86 "BundledLinksModel" "wait" "I", Cond.methodLink RX8 151 yX8_sends, Cond.instanceMethod yX8_sends, Cond.selects RX8 yX8_sends yX8_sends, Cond.code yX8_sends cX8_sends 4 none, Cond.methodLink RX8 154 yX8_deals, Cond.instanceMethod yX8_deals, Cond.selects RX8 yX8_deals yX8_deals, Cond.code yX8_deals cX8_deals 5 none, Cond.fieldLink RX8 89 "BundledLinksModel" "drain" "I", Cond.methodLink RX8 141 yX8_wants, Cond.instanceMethod yX8_wants, Cond.selects RX8 yX8_wants yX8_wants, Cond.code yX8_wants cX8_wants 6 (some .int), Cond.methodLink RX8 138 yX8_isSending, Cond.instanceMethod yX8_isSending, Cond.selects RX8 yX8_isSending yX8_isSending, Cond.code yX8_isSending cX8_isSending 3 (some .boolean)]
def wsX8_fewest : List Cond := .code yX8_fewest cX8_fewest 4 (some .int) :: ((wsX8_fewest_r1 ++ (wsX8_fewest_r2 ++ wsX8_fewest_r3)) ++ wsX80)
def wsX8_settled_r1 : List Cond := [Cond.fieldLink RX8 13 "BundledLinksModel" "kept" "[I", Cond.fieldLink RX8 7 "BundledLinksModel" "now" "[I", Cond.methodLink RX8 176 yX8_fewest, Cond.instanceMethod yX8_fewest, Cond.selects RX8 yX8_fewest yX8_fewest, Cond.initialized RX8, Cond.code yX8_fewest cX8_fewest 4 (some .int), Cond.methodLink RX8 173 yX8_isOther, Cond.instanceMethod yX8_isOther, Cond.selects RX8 yX8_isOther yX8_isOther, Cond.code yX8_isOther cX8_isOther 4 (some .boolean), Cond.fieldLink RX8 41 "BundledLinksModel" "seen" "[I", Cond.methodLink RX8 161 yX8_ticks, Cond.instanceMethod yX8_ticks, Cond.selects RX8 yX8_ticks yX8_ticks, Cond.code yX8_ticks cX8_ticks 2 none, Cond.fieldLink RX8 83 "BundledLinksModel" "links" "I", Cond.methodLink RX8 144 yX8_comes, Cond.instanceMethod yX8_comes, Cond.selects RX8 yX8_comes yX8_comes, Cond.code yX8_comes cX8_comes 6 none, Cond.methodLink RX8 92 yX8_place, Cond.static yX8_place, Cond.code yX8_place cX8_place 2 (some .int)]
def wsX8_settled_r2 : List Cond := [Cond.methodLink RX8 114 yX8_knowsNothing, Cond.instanceMethod yX8_knowsNothing, Cond.selects RX8 yX8_knowsNothing yX8_knowsNothing, Cond.code yX8_knowsNothing cX8_knowsNothing 2 none, Cond.methodLink RX8 148 yX8_becomesHow, Cond.instanceMethod yX8_becomesHow, Cond.selects RX8 yX8_becomesHow yX8_becomesHow, Cond.code yX8_becomesHow cX8_becomesHow 5 none, Cond.fieldLink RX8 37 "BundledLinksModel" "chosen" "[Z", Cond.methodLink RX8 132 yX8_chooses, Cond.instanceMethod yX8_chooses, Cond.selects RX8 yX8_chooses yX8_chooses, Cond.code yX8_chooses cX8_chooses 5 none, Cond.methodLink RX8 125 yX8_doesDecide, Cond.instanceMethod yX8_doesDecide, Cond.selects RX8 yX8_doesDecide yX8_doesDecide, Cond.code yX8_doesDecide cX8_doesDecide 5 (some .boolean), Cond.methodLink RX8 118 yX8_isOpen, Cond.instanceMethod yX8_isOpen, Cond.selects RX8 yX8_isOpen yX8_isOpen, Cond.code yX8_isOpen cX8_isOpen 3 (some .boolean), Cond.methodLink RX8 128 yX8_ahead, Cond.instanceMethod yX8_ahead, Cond.selects RX8 yX8_ahead yX8_ahead]
def wsX8_settled_r3 : List Cond := [Cond.code yX8_ahead cX8_ahead 10 (some .int), Cond.methodLink RX8 122 yX8_isPair, Cond.instanceMethod yX8_isPair, Cond.selects RX8 yX8_isPair yX8_isPair, Cond.code yX8_isPair cX8_isPair 4 (some .boolean), Cond.methodLink RX8 135 yX8_howOf, Cond.instanceMethod yX8_howOf, Cond.selects RX8 yX8_howOf yX8_howOf, Cond.code yX8_howOf cX8_howOf 3 (some .int), Cond.fieldLink RX8 86 "BundledLinksModel" "wait" "I", Cond.methodLink RX8 151 yX8_sends, Cond.instanceMethod yX8_sends, Cond.selects RX8 yX8_sends yX8_sends, Cond.code yX8_sends cX8_sends 4 none, Cond.methodLink RX8 154 yX8_deals, Cond.instanceMethod yX8_deals, Cond.selects RX8 yX8_deals yX8_deals, Cond.code yX8_deals cX8_deals 5 none, Cond.fieldLink RX8 89 "BundledLinksModel" "drain" "I", Cond.methodLink RX8 141 yX8_wants, Cond.instanceMethod yX8_wants, Cond.selects RX8 yX8_wants yX8_wants, Cond.code yX8_wants cX8_wants 6 (some .int), Cond.methodLink RX8 138 yX8_isSending]
def wsX8_settled_r4 : List Cond := [Cond.instanceMethod yX8_isSending, Cond.selects RX8 yX8_isSending yX8_isSending, Cond.code yX8_isSending cX8_isSending 3 (some .boolean)]
def wsX8_settled : List Cond := .code yX8_settled cX8_settled 3 (some .int) :: ((wsX8_settled_r1 ++ (wsX8_settled_r2 ++ (wsX8_settled_r3 ++ wsX8_settled_r4))) ++ wsX80)
def wsX8_count : List Cond := .code yX8_count cX8_count 2 (some .int) :: ([.fieldLink RX8 83 "BundledLinksModel" "links" "I", .fieldLink RX8 7 "BundledLinksModel" "now" "[I", .fieldLink RX8 86 "BundledLinksModel" "wait" "I", .fieldLink RX8 89 "BundledLinksModel" "drain" "I", .fieldLink RX8 96 "BundledLinksModel" "undos" "I", .fieldLink RX8 61 "BundledLinksModel" "letters" "I", .methodLink RX8 105 yX8_upMany, .instanceMethod yX8_upMany, .selects RX8 yX8_upMany yX8_upMany, .initialized RX8, .code yX8_upMany cX8_upMany 3 (some .int)] ++ wsX80)
def wsJ9_min_7cf53 : List Cond := .code yJ9_min_7cf53 cJ9_min_7cf53 2 (some .int) :: ([])
def wsL_law_r1 : List Cond := [Cond.classLink RL 7 RX7, Cond.instantiable RX7 6, Cond.initialized RX7, Cond.classLink RL 10 RX8, Cond.instantiable RX8 18, Cond.initialized RX8, Cond.methodLink RL 9 yX7_init, Cond.instanceMethod yX7_init, Cond.code yX7_init cX7_init 2 none, Cond.methodLink RX7 1 objectInit, Cond.instanceMethod objectInit, Cond.code objectInit ⟨#[0xb1]⟩ 1 none, Cond.classLink RX7 7 RX6, Cond.instantiable RX6 2, Cond.initialized RX6, Cond.fieldLink RX7 10 "BundledLinks" "text" "LBundledLinks$Text;", Cond.classLink RX7 16 RX4, Cond.instantiable RX4 7, Cond.initialized RX4, Cond.fieldLink RX7 19 "BundledLinks" "net" "LBundledLinks$Net;", Cond.classLink RX7 23 RX2, Cond.instantiable RX2 3, Cond.initialized RX2, Cond.fieldLink RX7 26 "BundledLinks" "history" "LBundledLinks$History;"]
def wsL_law_r2 : List Cond := [Cond.arrayClass .int, Cond.fieldLink RX7 30 "BundledLinks" "went" "[I", Cond.fieldLink RX7 34 "BundledLinks" "trial" "LBundledLinks$Net;", Cond.fieldLink RX7 37 "BundledLinks" "mark" "LBundledLinks$Net;", Cond.instanceMethod yX6_init, Cond.code yX6_init cX6_init 1 none, Cond.methodLink RX6 3 objectInit, Cond.fieldLink RX6 9 "BundledLinks$Text" "letters" "[I", Cond.instanceMethod yX4_init, Cond.code yX4_init cX4_init 1 none, Cond.methodLink RX4 3 objectInit, Cond.classLink RX4 9 RX0, Cond.instantiable RX0 4, Cond.initialized RX0, Cond.fieldLink RX4 14 "BundledLinks$Net" "zero" "LBundledLinks$End;", Cond.fieldLink RX4 20 "BundledLinks$Net" "one" "LBundledLinks$End;", Cond.methodLink RX4 11 yX0_init, Cond.instanceMethod yX0_init, Cond.code yX0_init cX0_init 3 none, Cond.methodLink RX0 3 objectInit, Cond.fieldLink RX0 9 "BundledLinks$End" "number" "I", Cond.classLink RX0 15 RX5, Cond.fieldLink RX0 17 "BundledLinks$End" "ports" "[LBundledLinks$Port;", Cond.instantiable RX5 11]
def wsL_law_r3 : List Cond := [Cond.initialized RX5, Cond.classLink RX0 22 RX1, Cond.fieldLink RX0 24 "BundledLinks$End" "flows" "[LBundledLinks$Flow;", Cond.instantiable RX1 2, Cond.initialized RX1, Cond.instanceMethod yX5_init, Cond.code yX5_init cX5_init 1 none, Cond.methodLink RX5 3 objectInit, Cond.classLink RX5 9 RX3, Cond.instantiable RX3 5, Cond.initialized RX3, Cond.fieldLink RX5 12 "BundledLinks$Port" "heard" "LBundledLinks$Message;", Cond.fieldLink RX5 18 "BundledLinks$Port" "said" "LBundledLinks$Message;", Cond.instanceMethod yX3_init, Cond.code yX3_init cX3_init 1 none, Cond.methodLink RX3 1 objectInit, Cond.instanceMethod yX1_init, Cond.code yX1_init cX1_init 1 none, Cond.methodLink RX1 3 objectInit, Cond.methodLink RX7 25 yX2_init, Cond.instanceMethod yX2_init, Cond.code yX2_init cX2_init 2 none, Cond.methodLink RX2 3 objectInit, Cond.classLink RX2 9 RX4]
def wsL_law_r4 : List Cond := [Cond.fieldLink RX2 11 "BundledLinks$History" "kept" "[LBundledLinks$Net;", Cond.methodLink RX7 42 yJ0_length_8abf5, Cond.instanceMethod yJ0_length_8abf5, Cond.selects RJ0 yJ0_length_8abf5 yJ0_length_8abf5, Cond.initialized RJ0, Cond.code yJ0_length_8abf5 cJ0_length_8abf5 1 (some .int), Cond.fieldLink RJ0 9 "java/lang/String" "value" "[B", Cond.methodLink RJ0 335 yJ0_coder_7d493, Cond.instanceMethod yJ0_coder_7d493, Cond.selects RJ0 yJ0_coder_7d493 yJ0_coder_7d493, Cond.code yJ0_coder_7d493 cJ0_coder_7d493 1 (some .byte), Cond.fieldLink RJ0 38 "java/lang/String" "COMPACT_STRINGS" "Z", Cond.fieldLink RJ0 15 "java/lang/String" "coder" "B", Cond.methodLink RX7 48 yJ0_charAt_5068e, Cond.instanceMethod yJ0_charAt_5068e, Cond.selects RJ0 yJ0_charAt_5068e yJ0_charAt_5068e, Cond.code yJ0_charAt_5068e cJ0_charAt_5068e 2 (some .char), Cond.methodLink RJ0 492 yJ0_isLatin1_aae02, Cond.instanceMethod yJ0_isLatin1_aae02, Cond.selects RJ0 yJ0_isLatin1_aae02 yJ0_isLatin1_aae02, Cond.code yJ0_isLatin1_aae02 cJ0_isLatin1_aae02 1 (some .boolean), Cond.methodLink RJ0 495 yJ1_charAt_3b067, Cond.static yJ1_charAt_3b067, Cond.initialized RJ1]
def wsL_law_r5 : List Cond := [Cond.code yJ1_charAt_3b067 cJ1_charAt_3b067 2 (some .char), Cond.methodLink RJ1 9 yJ0_checkIndex_df160, Cond.static yJ0_checkIndex_df160, Cond.code yJ0_checkIndex_df160 cJ0_checkIndex_df160 2 none, Cond.fieldLink RJ0 1053 "jdk/internal/util/Preconditions" "SIOOBE_FORMATTER" "Ljava/util/function/BiFunction;", Cond.methodLink RJ0 1059 yJ3_checkIndex_8e157, Cond.static yJ3_checkIndex_8e157, Cond.initialized RJ3, Cond.code yJ3_checkIndex_8e157 cJ3_checkIndex_8e157 3 (some .int), Cond.methodLink RJ0 498 yJ2_charAt_3b067, Cond.static yJ2_charAt_3b067, Cond.initialized RJ2, Cond.code yJ2_charAt_3b067 cJ2_charAt_3b067 2 (some .char), Cond.methodLink RJ2 67 yJ2_checkIndex_2214a, Cond.static yJ2_checkIndex_2214a, Cond.code yJ2_checkIndex_2214a cJ2_checkIndex_2214a 2 none, Cond.methodLink RJ2 48 yJ2_length_9d52b, Cond.static yJ2_length_9d52b, Cond.code yJ2_length_9d52b cJ2_length_9d52b 1 (some .int), Cond.methodLink RJ2 414 yJ0_checkIndex_df160, Cond.methodLink RJ2 71 yJ2_getChar_3b067, Cond.static yJ2_getChar_3b067, Cond.code yJ2_getChar_3b067 cJ2_getChar_3b067 2 (some .char), Cond.fieldLink RJ2 44 "java/lang/StringUTF16" "$assertionsDisabled" "Z"]
def wsL_law_r6 : List Cond := [Cond.fieldLink RJ2 59 "java/lang/StringUTF16" "HI_BYTE_SHIFT" "I", Cond.fieldLink RJ2 63 "java/lang/StringUTF16" "LO_BYTE_SHIFT" "I", Cond.methodLink RX7 52 yX6_add, Cond.instanceMethod yX6_add, Cond.selects RX6 yX6_add yX6_add, Cond.code yX6_add cX6_add 2 (some .boolean), Cond.fieldLink RX6 15 "BundledLinks$Text" "size" "I", Cond.methodLink RX7 56 yX4_layOut, Cond.instanceMethod yX4_layOut, Cond.selects RX4 yX4_layOut yX4_layOut, Cond.code yX4_layOut cX4_layOut 4 none, Cond.fieldLink RX4 91 "BundledLinks$Text" "size" "I", Cond.methodLink RX4 90 yX4_clear, Cond.instanceMethod yX4_clear, Cond.selects RX4 yX4_clear yX4_clear, Cond.code yX4_clear cX4_clear 1 none, Cond.fieldLink RX4 26 "BundledLinks$Net" "links" "I", Cond.fieldLink RX4 30 "BundledLinks$Net" "most" "I", Cond.fieldLink RX4 33 "BundledLinks$Net" "wait" "I", Cond.fieldLink RX4 36 "BundledLinks$Net" "drain" "I", Cond.fieldLink RX4 39 "BundledLinks$Net" "ticks" "I", Cond.methodLink RX4 23 yX0_clear, Cond.instanceMethod yX0_clear, Cond.selects RX0 yX0_clear yX0_clear]
def wsL_law_r7 : List Cond := [Cond.code yX0_clear cX0_clear 5 none, Cond.fieldLink RX0 29 "BundledLinks$End" "rank" "I", Cond.methodLink RX0 32 yX5_clear, Cond.instanceMethod yX5_clear, Cond.selects RX5 yX5_clear yX5_clear, Cond.code yX5_clear cX5_clear 1 none, Cond.fieldLink RX5 21 "BundledLinks$Port" "up" "Z", Cond.fieldLink RX5 25 "BundledLinks$Port" "muted" "Z", Cond.fieldLink RX5 28 "BundledLinks$Port" "key" "I", Cond.fieldLink RX5 32 "BundledLinks$Port" "priority" "I", Cond.fieldLink RX5 38 "BundledLinks$Port" "age" "I", Cond.fieldLink RX5 41 "BundledLinks$Port" "how" "I", Cond.fieldLink RX5 44 "BundledLinks$Port" "chosen" "Z", Cond.fieldLink RX5 47 "BundledLinks$Port" "chosenFor" "I", Cond.fieldLink RX5 50 "BundledLinks$Port" "begun" "I", Cond.methodLink RX5 35 yX3_clear, Cond.instanceMethod yX3_clear, Cond.selects RX3 yX3_clear yX3_clear, Cond.code yX3_clear cX3_clear 1 none, Cond.fieldLink RX3 7 "BundledLinks$Message" "there" "Z", Cond.fieldLink RX3 13 "BundledLinks$Message" "key" "I", Cond.fieldLink RX3 17 "BundledLinks$Message" "priority" "I", Cond.fieldLink RX3 20 "BundledLinks$Message" "rank" "I", Cond.fieldLink RX3 23 "BundledLinks$Message" "sync" "Z"]
def wsL_law_r8 : List Cond := [Cond.methodLink RX0 35 yX1_clear, Cond.instanceMethod yX1_clear, Cond.selects RX1 yX1_clear yX1_clear, Cond.code yX1_clear cX1_clear 1 none, Cond.fieldLink RX1 9 "BundledLinks$Flow" "link" "I", Cond.fieldLink RX1 15 "BundledLinks$Flow" "held" "I", Cond.methodLink RX4 96 yX4_layItem, Cond.instanceMethod yX4_layItem, Cond.selects RX4 yX4_layItem yX4_layItem, Cond.code yX4_layItem cX4_layItem 3 none, Cond.fieldLink RX4 72 "BundledLinks$End" "rank" "I", Cond.methodLink RX4 104 yX6_letterAt, Cond.instanceMethod yX6_letterAt, Cond.selects RX6 yX6_letterAt yX6_letterAt, Cond.code yX6_letterAt cX6_letterAt 2 (some .int), Cond.methodLink RX4 107 yX4_addLink, Cond.instanceMethod yX4_addLink, Cond.selects RX4 yX4_addLink yX4_addLink, Cond.code yX4_addLink cX4_addLink 5 none, Cond.methodLink RX4 54 yX0_portAt, Cond.instanceMethod yX0_portAt, Cond.selects RX0 yX0_portAt yX0_portAt, Cond.code yX0_portAt cX0_portAt 2 (some (.object "BundledLinks$Port")), Cond.methodLink RX4 110 yX6_number]
def wsL_law_r9 : List Cond := [Cond.instanceMethod yX6_number, Cond.selects RX6 yX6_number yX6_number, Cond.code yX6_number cX6_number 3 (some .int), Cond.methodLink RX6 19 yX6_letterAt, Cond.methodLink RX4 114 yX5_begin, Cond.instanceMethod yX5_begin, Cond.selects RX5 yX5_begin yX5_begin, Cond.code yX5_begin cX5_begin 3 none, Cond.methodLink RX4 100 yX6_lengthOfItem, Cond.instanceMethod yX6_lengthOfItem, Cond.selects RX6 yX6_lengthOfItem yX6_lengthOfItem, Cond.code yX6_lengthOfItem cX6_lengthOfItem 2 (some .int), Cond.methodLink RX6 30 yX6_numbersOfItem, Cond.instanceMethod yX6_numbersOfItem, Cond.selects RX6 yX6_numbersOfItem yX6_numbersOfItem, Cond.code yX6_numbersOfItem cX6_numbersOfItem 2 (some .int), Cond.methodLink RX7 60 yX6_clear, Cond.instanceMethod yX6_clear, Cond.selects RX6 yX6_clear yX6_clear, Cond.code yX6_clear cX6_clear 1 none, Cond.methodLink RL 12 yX8_init, Cond.instanceMethod yX8_init, Cond.code yX8_init cX8_init 1 none, Cond.methodLink RX8 1 objectInit]
def wsL_law_r10 : List Cond := [Cond.fieldLink RX8 7 "BundledLinksModel" "now" "[I", Cond.fieldLink RX8 13 "BundledLinksModel" "kept" "[I", Cond.fieldLink RX8 16 "BundledLinksModel" "past" "[I", Cond.fieldLink RX8 19 "BundledLinksModel" "frames" "[I", Cond.fieldLink RX8 22 "BundledLinksModel" "text" "[I", Cond.fieldLink RX8 25 "BundledLinksModel" "told" "[I", Cond.fieldLink RX8 28 "BundledLinksModel" "ranks" "[I", Cond.fieldLink RX8 31 "BundledLinksModel" "more" "[I", Cond.fieldLink RX8 34 "BundledLinksModel" "figures" "[I", Cond.arrayClass .boolean, Cond.fieldLink RX8 37 "BundledLinksModel" "chosen" "[Z", Cond.fieldLink RX8 41 "BundledLinksModel" "seen" "[I", Cond.methodLink RX8 44 yX8_clearsPlan, Cond.instanceMethod yX8_clearsPlan, Cond.selects RX8 yX8_clearsPlan yX8_clearsPlan, Cond.code yX8_clearsPlan cX8_clearsPlan 1 none, Cond.fieldLink RX8 54 "BundledLinksModel" "newLinks" "I", Cond.methodLink RX8 47 yX8_adds, Cond.instanceMethod yX8_adds, Cond.selects RX8 yX8_adds yX8_adds, Cond.code yX8_adds cX8_adds 5 none, Cond.methodLink RX8 51 yX8_lays, Cond.instanceMethod yX8_lays, Cond.selects RX8 yX8_lays yX8_lays]
def wsL_law_r11 : List Cond := [Cond.code yX8_lays cX8_lays 4 none, Cond.fieldLink RX8 83 "BundledLinksModel" "links" "I", Cond.fieldLink RX8 86 "BundledLinksModel" "wait" "I", Cond.fieldLink RX8 89 "BundledLinksModel" "drain" "I", Cond.fieldLink RX8 96 "BundledLinksModel" "undos" "I", Cond.methodLink RX8 92 yX8_place, Cond.static yX8_place, Cond.code yX8_place cX8_place 2 (some .int), Cond.methodLink RL 13 yX7_write, Cond.instanceMethod yX7_write, Cond.selects RX7 yX7_write yX7_write, Cond.code yX7_write cX7_write 2 (some .int), Cond.fieldLink RX7 63 "BundledLinks$Text" "size" "I", Cond.methodLink RL 17 yX8_write, Cond.instanceMethod yX8_write, Cond.selects RX8 yX8_write yX8_write, Cond.code yX8_write cX8_write 2 (some .int), Cond.fieldLink RX8 61 "BundledLinksModel" "letters" "I", Cond.methodLink RX8 68 yX8_within, Cond.static yX8_within, Cond.code yX8_within cX8_within 3 (some .boolean), Cond.methodLink RL 18 yX7_wipe, Cond.instanceMethod yX7_wipe, Cond.selects RX7 yX7_wipe yX7_wipe]
def wsL_law_r12 : List Cond := [Cond.code yX7_wipe cX7_wipe 2 (some .int), Cond.methodLink RL 22 yX8_wipe, Cond.instanceMethod yX8_wipe, Cond.selects RX8 yX8_wipe yX8_wipe, Cond.code yX8_wipe cX8_wipe 2 (some .int), Cond.methodLink RL 23 yX7_fault, Cond.instanceMethod yX7_fault, Cond.selects RX7 yX7_fault yX7_fault, Cond.code yX7_fault cX7_fault 1 (some .int), Cond.methodLink RX7 67 yX6_firstFault, Cond.instanceMethod yX6_firstFault, Cond.selects RX6 yX6_firstFault yX6_firstFault, Cond.code yX6_firstFault cX6_firstFault 4 (some .int), Cond.methodLink RX6 23 yX6_isItem, Cond.instanceMethod yX6_isItem, Cond.selects RX6 yX6_isItem yX6_isItem, Cond.code yX6_isItem cX6_isItem 5 (some .boolean), Cond.methodLink RX6 33 yX6_number, Cond.static yX7_isFigure, Cond.code yX7_isFigure cX7_isFigure 1 (some .boolean), Cond.static yX7_isMost, Cond.code yX7_isMost cX7_isMost 1 (some .boolean), Cond.methodLink RX6 27 yX6_lengthOfItem, Cond.methodLink RL 26 yX8_fault]
def wsL_law_r13 : List Cond := [Cond.instanceMethod yX8_fault, Cond.selects RX8 yX8_fault yX8_fault, Cond.code yX8_fault cX8_fault 1 (some .int), Cond.methodLink RX8 79 yX8_faultAt, Cond.instanceMethod yX8_faultAt, Cond.selects RX8 yX8_faultAt yX8_faultAt, Cond.code yX8_faultAt cX8_faultAt 2 (some .int), Cond.fieldLink RX8 58 "BundledLinksModel" "at" "I", Cond.methodLink RX8 75 yX8_isItem, Cond.instanceMethod yX8_isItem, Cond.selects RX8 yX8_isItem yX8_isItem, Cond.code yX8_isItem cX8_isItem 2 (some .boolean), Cond.methodLink RX8 64 yX8_passes, Cond.instanceMethod yX8_passes, Cond.selects RX8 yX8_passes yX8_passes, Cond.code yX8_passes cX8_passes 3 (some .boolean), Cond.methodLink RX8 72 yX8_areFigures, Cond.instanceMethod yX8_areFigures, Cond.selects RX8 yX8_areFigures yX8_areFigures, Cond.code yX8_areFigures cX8_areFigures 4 (some .boolean), Cond.methodLink RL 27 yX7_lay, Cond.instanceMethod yX7_lay, Cond.selects RX7 yX7_lay yX7_lay, Cond.code yX7_lay cX7_lay 2 (some .int)]
def wsL_law_r14 : List Cond := [Cond.fieldLink RX7 75 "BundledLinks$Net" "links" "I", Cond.methodLink RX7 70 yX6_tellsLink, Cond.instanceMethod yX6_tellsLink, Cond.selects RX6 yX6_tellsLink yX6_tellsLink, Cond.code yX6_tellsLink cX6_tellsLink 2 (some .boolean), Cond.methodLink RX7 74 yX2_clear, Cond.instanceMethod yX2_clear, Cond.selects RX2 yX2_clear yX2_clear, Cond.code yX2_clear cX2_clear 1 none, Cond.fieldLink RX2 18 "BundledLinks$History" "next" "I", Cond.fieldLink RX2 22 "BundledLinks$History" "size" "I", Cond.methodLink RL 30 yX8_lay, Cond.instanceMethod yX8_lay, Cond.selects RX8 yX8_lay yX8_lay, Cond.code yX8_lay cX8_lay 1 (some .int), Cond.methodLink RL 31 yX7_plug, Cond.instanceMethod yX7_plug, Cond.selects RX7 yX7_plug yX7_plug, Cond.code yX7_plug cX7_plug 5 (some .int), Cond.fieldLink RX7 85 "BundledLinks$Port" "up" "Z", Cond.fieldLink RX7 99 "BundledLinks$Net" "zero" "LBundledLinks$End;", Cond.methodLink RX7 78 yX4_portOf, Cond.instanceMethod yX4_portOf, Cond.selects RX4 yX4_portOf yX4_portOf]
def wsL_law_r15 : List Cond := [Cond.code yX4_portOf cX4_portOf 4 (some (.object "BundledLinks$Port")), Cond.methodLink RX4 50 yX4_endOf, Cond.instanceMethod yX4_endOf, Cond.selects RX4 yX4_endOf yX4_endOf, Cond.code yX4_endOf cX4_endOf 2 (some (.object "BundledLinks$End")), Cond.methodLink RX7 82 yX7_isZeroOrOne, Cond.static yX7_isZeroOrOne, Cond.code yX7_isZeroOrOne cX7_isZeroOrOne 1 (some .boolean), Cond.methodLink RX7 91 yX2_keep, Cond.instanceMethod yX2_keep, Cond.selects RX2 yX2_keep yX2_keep, Cond.code yX2_keep cX2_keep 2 none, Cond.methodLink RX2 29 Lib.Math.min.name, Cond.static Lib.Math.min.name, Cond.initialized "java/lang/Math", Cond.code Lib.Math.min.name Lib.Math.min.code 2 (some .int), Cond.methodLink RX2 25 yX4_copyFrom, Cond.instanceMethod yX4_copyFrom, Cond.selects RX4 yX4_copyFrom yX4_copyFrom, Cond.code yX4_copyFrom cX4_copyFrom 2 none, Cond.methodLink RX4 42 yX0_copyFrom, Cond.instanceMethod yX0_copyFrom, Cond.selects RX0 yX0_copyFrom yX0_copyFrom, Cond.code yX0_copyFrom cX0_copyFrom 3 none]
def wsL_law_r16 : List Cond := [Cond.methodLink RX0 36 yX5_copyFrom, Cond.instanceMethod yX5_copyFrom, Cond.selects RX5 yX5_copyFrom yX5_copyFrom, Cond.code yX5_copyFrom cX5_copyFrom 2 none, Cond.methodLink RX5 53 yX3_copyFrom, Cond.instanceMethod yX3_copyFrom, Cond.selects RX3 yX3_copyFrom yX3_copyFrom, Cond.code yX3_copyFrom cX3_copyFrom 2 none, Cond.methodLink RX0 40 yX1_copyFrom, Cond.instanceMethod yX1_copyFrom, Cond.selects RX1 yX1_copyFrom yX1_copyFrom, Cond.code yX1_copyFrom cX1_copyFrom 2 none, Cond.methodLink RX7 95 yX4_plugLink, Cond.instanceMethod yX4_plugLink, Cond.selects RX4 yX4_plugLink yX4_plugLink, Cond.code yX4_plugLink cX4_plugLink 5 none, Cond.fieldLink RX4 66 "BundledLinks$Port" "up" "Z", Cond.methodLink RX4 62 yX4_portOf, Cond.methodLink RX7 103 yX0_howManyUp, Cond.instanceMethod yX0_howManyUp, Cond.selects RX0 yX0_howManyUp yX0_howManyUp, Cond.code yX0_howManyUp cX0_howManyUp 6 (some .int), Cond.fieldLink RX0 105 "BundledLinks$Port" "up" "Z", Cond.methodLink RL 35 yX8_plug]
def wsL_law_r17 : List Cond := [Cond.instanceMethod yX8_plug, Cond.selects RX8 yX8_plug yX8_plug, Cond.code yX8_plug cX8_plug 3 (some .int), Cond.methodLink RX8 99 yX8_isLink, Cond.instanceMethod yX8_isLink, Cond.selects RX8 yX8_isLink yX8_isLink, Cond.code yX8_isLink cX8_isLink 2 (some .boolean), Cond.methodLink RX8 102 yX8_keeps, Cond.instanceMethod yX8_keeps, Cond.selects RX8 yX8_keeps yX8_keeps, Cond.code yX8_keeps cX8_keeps 2 none, Cond.methodLink RX8 105 yX8_upMany, Cond.instanceMethod yX8_upMany, Cond.selects RX8 yX8_upMany yX8_upMany, Cond.code yX8_upMany cX8_upMany 3 (some .int), Cond.methodLink RL 36 yX7_mute, Cond.instanceMethod yX7_mute, Cond.selects RX7 yX7_mute yX7_mute, Cond.code yX7_mute cX7_mute 7 (some .int), Cond.fieldLink RX7 112 "BundledLinks$Port" "muted" "Z", Cond.methodLink RX7 108 yX4_endOf, Cond.methodLink RX7 115 yX0_howManyMuted, Cond.instanceMethod yX0_howManyMuted, Cond.selects RX0 yX0_howManyMuted yX0_howManyMuted]
def wsL_law_r18 : List Cond := [Cond.code yX0_howManyMuted cX0_howManyMuted 6 (some .int), Cond.fieldLink RX0 108 "BundledLinks$Port" "muted" "Z", Cond.methodLink RL 40 yX8_mute, Cond.instanceMethod yX8_mute, Cond.selects RX8 yX8_mute yX8_mute, Cond.code yX8_mute cX8_mute 6 (some .int), Cond.methodLink RX8 108 yX8_isEnd, Cond.static yX8_isEnd, Cond.code yX8_isEnd cX8_isEnd 1 (some .boolean), Cond.methodLink RL 41 yX7_tell, Cond.instanceMethod yX7_tell, Cond.selects RX7 yX7_tell yX7_tell, Cond.code yX7_tell cX7_tell 7 (some .int), Cond.fieldLink RX7 121 "BundledLinks$Port" "key" "I", Cond.fieldLink RX7 124 "BundledLinks$Port" "priority" "I", Cond.methodLink RX7 118 yX7_isFigure, Cond.methodLink RL 45 yX8_tell, Cond.instanceMethod yX8_tell, Cond.selects RX8 yX8_tell yX8_tell, Cond.code yX8_tell cX8_tell 5 (some .int), Cond.methodLink RX8 111 yX8_becomes, Cond.instanceMethod yX8_becomes, Cond.selects RX8 yX8_becomes yX8_becomes, Cond.code yX8_becomes cX8_becomes 4 (some .int)]
def wsL_law_r19 : List Cond := [Cond.methodLink RL 46 yX7_set, Cond.instanceMethod yX7_set, Cond.selects RX7 yX7_set yX7_set, Cond.code yX7_set cX7_set 4 (some .int), Cond.methodLink RX7 127 yX7_isMost, Cond.methodLink RX7 130 yX4_setting, Cond.instanceMethod yX4_setting, Cond.selects RX4 yX4_setting yX4_setting, Cond.code yX4_setting cX4_setting 2 (some .int), Cond.methodLink RX7 134 yX4_changeSetting, Cond.instanceMethod yX4_changeSetting, Cond.selects RX4 yX4_changeSetting yX4_changeSetting, Cond.code yX4_changeSetting cX4_changeSetting 3 none, Cond.methodLink RL 49 yX8_set, Cond.instanceMethod yX8_set, Cond.selects RX8 yX8_set yX8_set, Cond.code yX8_set cX8_set 3 (some .int), Cond.methodLink RL 50 yX7_tick, Cond.instanceMethod yX7_tick, Cond.selects RX7 yX7_tick yX7_tick, Cond.code yX7_tick cX7_tick 3 (some .int), Cond.fieldLink RX7 138 "BundledLinks$Net" "ticks" "I", Cond.methodLink RX7 141 yX4_step, Cond.instanceMethod yX4_step]
def wsL_law_r20 : List Cond := [Cond.selects RX4 yX4_step yX4_step, Cond.code yX4_step cX4_step 1 none, Cond.methodLink RX4 75 yX0_hearFrom, Cond.instanceMethod yX0_hearFrom, Cond.selects RX0 yX0_hearFrom yX0_hearFrom, Cond.code yX0_hearFrom cX0_hearFrom 3 none, Cond.fieldLink RX0 49 "BundledLinks$Port" "said" "LBundledLinks$Message;", Cond.methodLink RX0 53 yX5_hear, Cond.instanceMethod yX5_hear, Cond.selects RX5 yX5_hear yX5_hear, Cond.code yX5_hear cX5_hear 2 none, Cond.fieldLink RX5 57 "BundledLinks$Message" "there" "Z", Cond.methodLink RX4 78 yX4_stepOf, Cond.instanceMethod yX4_stepOf, Cond.selects RX4 yX4_stepOf yX4_stepOf, Cond.code yX4_stepOf cX4_stepOf 2 none, Cond.methodLink RX4 81 yX0_choose, Cond.instanceMethod yX0_choose, Cond.selects RX0 yX0_choose yX0_choose, Cond.code yX0_choose cX0_choose 6 none, Cond.fieldLink RX0 57 "BundledLinks$Port" "chosen" "Z", Cond.methodLink RX0 61 yX0_decides, Cond.instanceMethod yX0_decides, Cond.selects RX0 yX0_decides yX0_decides]
def wsL_law_r21 : List Cond := [Cond.code yX0_decides cX0_decides 6 (some .boolean), Cond.fieldLink RX0 69 "BundledLinks$Port" "heard" "LBundledLinks$Message;", Cond.fieldLink RX0 72 "BundledLinks$Message" "there" "Z", Cond.fieldLink RX0 77 "BundledLinks$Message" "rank" "I", Cond.methodLink RX0 65 yX0_bestOpen, Cond.instanceMethod yX0_bestOpen, Cond.selects RX0 yX0_bestOpen yX0_bestOpen, Cond.code yX0_bestOpen cX0_bestOpen 9 (some (.object "BundledLinks$Port")), Cond.methodLink RX0 78 yX5_hasPairOf, Cond.instanceMethod yX5_hasPairOf, Cond.selects RX5 yX5_hasPairOf yX5_hasPairOf, Cond.code yX5_hasPairOf cX5_hasPairOf 2 (some .boolean), Cond.fieldLink RX5 61 "BundledLinks$Message" "key" "I", Cond.methodLink RX0 82 yX5_priorityBy, Cond.instanceMethod yX5_priorityBy, Cond.selects RX5 yX5_priorityBy yX5_priorityBy, Cond.code yX5_priorityBy cX5_priorityBy 2 (some .int), Cond.fieldLink RX5 60 "BundledLinks$Message" "priority" "I", Cond.methodLink RX4 84 yX0_judgeAndSay, Cond.instanceMethod yX0_judgeAndSay, Cond.selects RX0 yX0_judgeAndSay yX0_judgeAndSay, Cond.code yX0_judgeAndSay cX0_judgeAndSay 6 none, Cond.methodLink RX0 86 yX5_judge, Cond.instanceMethod yX5_judge]
def wsL_law_r22 : List Cond := [Cond.selects RX5 yX5_judge yX5_judge, Cond.code yX5_judge cX5_judge 3 none, Cond.methodLink RX5 62 yX5_howNow, Cond.instanceMethod yX5_howNow, Cond.selects RX5 yX5_howNow yX5_howNow, Cond.code yX5_howNow cX5_howNow 2 (some .int), Cond.fieldLink RX5 66 "BundledLinks$Message" "sync" "Z", Cond.methodLink RX0 90 yX5_say, Cond.instanceMethod yX5_say, Cond.selects RX5 yX5_say yX5_say, Cond.code yX5_say cX5_say 2 none, Cond.fieldLink RX5 69 "BundledLinks$Message" "rank" "I", Cond.methodLink RX4 87 yX0_dealFlows, Cond.instanceMethod yX0_dealFlows, Cond.selects RX0 yX0_dealFlows yX0_dealFlows, Cond.code yX0_dealFlows cX0_dealFlows 4 none, Cond.methodLink RX0 93 yX0_howManySending, Cond.instanceMethod yX0_howManySending, Cond.selects RX0 yX0_howManySending yX0_howManySending, Cond.code yX0_howManySending cX0_howManySending 6 (some .int), Cond.fieldLink RX0 43 "BundledLinks$Port" "how" "I", Cond.methodLink RX0 97 yX0_wantedBy, Cond.instanceMethod yX0_wantedBy, Cond.selects RX0 yX0_wantedBy yX0_wantedBy]
def wsL_law_r23 : List Cond := [Cond.code yX0_wantedBy cX0_wantedBy 5 (some .int), Cond.methodLink RX0 101 yX1_deal, Cond.instanceMethod yX1_deal, Cond.selects RX1 yX1_deal yX1_deal, Cond.code yX1_deal cX1_deal 3 none, Cond.methodLink RX7 144 yX7_agreed, Cond.instanceMethod yX7_agreed, Cond.selects RX7 yX7_agreed yX7_agreed, Cond.code yX7_agreed cX7_agreed 2 (some .int), Cond.fieldLink RX7 186 "BundledLinks$Net" "one" "LBundledLinks$End;", Cond.methodLink RX7 158 yX0_bits, Cond.instanceMethod yX0_bits, Cond.selects RX0 yX0_bits yX0_bits, Cond.code yX0_bits cX0_bits 4 (some .int), Cond.methodLink RX0 111 yX5_isOf, Cond.instanceMethod yX5_isOf, Cond.selects RX5 yX5_isOf yX5_isOf, Cond.code yX5_isOf cX5_isOf 2 (some .boolean), Cond.methodLink RL 53 yX8_tick, Cond.instanceMethod yX8_tick, Cond.selects RX8 yX8_tick yX8_tick, Cond.code yX8_tick cX8_tick 3 (some .int), Cond.methodLink RX8 161 yX8_ticks, Cond.instanceMethod yX8_ticks]
def wsL_law_r24 : List Cond := [Cond.selects RX8 yX8_ticks yX8_ticks, Cond.code yX8_ticks cX8_ticks 2 none, Cond.methodLink RX8 144 yX8_comes, Cond.instanceMethod yX8_comes, Cond.selects RX8 yX8_comes yX8_comes, Cond.code yX8_comes cX8_comes 6 none, Cond.methodLink RX8 114 yX8_knowsNothing, Cond.instanceMethod yX8_knowsNothing, Cond.selects RX8 yX8_knowsNothing yX8_knowsNothing, Cond.code yX8_knowsNothing cX8_knowsNothing 2 none, Cond.methodLink RX8 148 yX8_becomesHow, Cond.instanceMethod yX8_becomesHow, Cond.selects RX8 yX8_becomesHow yX8_becomesHow, Cond.code yX8_becomesHow cX8_becomesHow 5 none, Cond.methodLink RX8 132 yX8_chooses, Cond.instanceMethod yX8_chooses, Cond.selects RX8 yX8_chooses yX8_chooses, Cond.code yX8_chooses cX8_chooses 5 none, Cond.methodLink RX8 125 yX8_doesDecide, Cond.instanceMethod yX8_doesDecide, Cond.selects RX8 yX8_doesDecide yX8_doesDecide, Cond.code yX8_doesDecide cX8_doesDecide 5 (some .boolean), Cond.methodLink RX8 118 yX8_isOpen, Cond.instanceMethod yX8_isOpen]
def wsL_law_r25 : List Cond := [Cond.selects RX8 yX8_isOpen yX8_isOpen, Cond.code yX8_isOpen cX8_isOpen 3 (some .boolean), Cond.methodLink RX8 128 yX8_ahead, Cond.instanceMethod yX8_ahead, Cond.selects RX8 yX8_ahead yX8_ahead, Cond.code yX8_ahead cX8_ahead 10 (some .int), Cond.methodLink RX8 122 yX8_isPair, Cond.instanceMethod yX8_isPair, Cond.selects RX8 yX8_isPair yX8_isPair, Cond.code yX8_isPair cX8_isPair 4 (some .boolean), Cond.methodLink RX8 135 yX8_howOf, Cond.instanceMethod yX8_howOf, Cond.selects RX8 yX8_howOf yX8_howOf, Cond.code yX8_howOf cX8_howOf 3 (some .int), Cond.methodLink RX8 151 yX8_sends, Cond.instanceMethod yX8_sends, Cond.selects RX8 yX8_sends yX8_sends, Cond.code yX8_sends cX8_sends 4 none, Cond.methodLink RX8 154 yX8_deals, Cond.instanceMethod yX8_deals, Cond.selects RX8 yX8_deals yX8_deals, Cond.code yX8_deals cX8_deals 5 none, Cond.methodLink RX8 141 yX8_wants, Cond.instanceMethod yX8_wants]
def wsL_law_r26 : List Cond := [Cond.selects RX8 yX8_wants yX8_wants, Cond.code yX8_wants cX8_wants 6 (some .int), Cond.methodLink RX8 138 yX8_isSending, Cond.instanceMethod yX8_isSending, Cond.selects RX8 yX8_isSending yX8_isSending, Cond.code yX8_isSending cX8_isSending 3 (some .boolean), Cond.methodLink RX8 164 yX8_agreed, Cond.instanceMethod yX8_agreed, Cond.selects RX8 yX8_agreed yX8_agreed, Cond.code yX8_agreed cX8_agreed 2 (some .int), Cond.methodLink RX8 157 yX8_sendingSet, Cond.instanceMethod yX8_sendingSet, Cond.selects RX8 yX8_sendingSet yX8_sendingSet, Cond.code yX8_sendingSet cX8_sendingSet 4 (some .int), Cond.methodLink RL 54 yX7_undo, Cond.instanceMethod yX7_undo, Cond.selects RX7 yX7_undo yX7_undo, Cond.code yX7_undo cX7_undo 2 (some .int), Cond.fieldLink RX7 154 "BundledLinks$History" "size" "I", Cond.methodLink RX7 147 yX2_takeLatest, Cond.instanceMethod yX2_takeLatest, Cond.selects RX2 yX2_takeLatest yX2_takeLatest, Cond.code yX2_takeLatest cX2_takeLatest 2 (some (.object "BundledLinks$Net")), Cond.methodLink RX7 151 yX4_copyFrom]
def wsL_law_r27 : List Cond := [Cond.methodLink RL 57 yX8_undo, Cond.instanceMethod yX8_undo, Cond.selects RX8 yX8_undo yX8_undo, Cond.code yX8_undo cX8_undo 2 (some .int), Cond.methodLink RL 58 yX7_link, Cond.instanceMethod yX7_link, Cond.selects RX7 yX7_link yX7_link, Cond.code yX7_link cX7_link 5 (some .int), Cond.methodLink RX7 155 yX5_look, Cond.instanceMethod yX5_look, Cond.selects RX5 yX5_look yX5_look, Cond.code yX5_look cX5_look 2 (some .int), Cond.methodLink RX5 72 yX5_known, Cond.instanceMethod yX5_known, Cond.selects RX5 yX5_known yX5_known, Cond.code yX5_known cX5_known 2 (some .int), Cond.methodLink RL 61 yX8_link, Cond.instanceMethod yX8_link, Cond.selects RX8 yX8_link yX8_link, Cond.code yX8_link cX8_link 4 (some .int), Cond.methodLink RX8 167 yX8_tellLink, Cond.instanceMethod yX8_tellLink, Cond.selects RX8 yX8_tellLink yX8_tellLink, Cond.code yX8_tellLink cX8_tellLink 3 (some .int)]
def wsL_law_r28 : List Cond := [Cond.methodLink RL 62 yX7_bundle, Cond.instanceMethod yX7_bundle, Cond.selects RX7 yX7_bundle yX7_bundle, Cond.code yX7_bundle cX7_bundle 4 (some .int), Cond.methodLink RL 65 yX8_bundle, Cond.instanceMethod yX8_bundle, Cond.selects RX8 yX8_bundle yX8_bundle, Cond.code yX8_bundle cX8_bundle 7 (some .int), Cond.methodLink RL 66 yX7_flow, Cond.instanceMethod yX7_flow, Cond.selects RX7 yX7_flow yX7_flow, Cond.code yX7_flow cX7_flow 6 (some .int), Cond.fieldLink RX7 165 "BundledLinks$Flow" "link" "I", Cond.fieldLink RX7 170 "BundledLinks$Flow" "held" "I", Cond.methodLink RX7 161 yX4_flowOf, Cond.instanceMethod yX4_flowOf, Cond.selects RX4 yX4_flowOf yX4_flowOf, Cond.code yX4_flowOf cX4_flowOf 4 (some (.object "BundledLinks$Flow")), Cond.methodLink RX4 58 yX0_flowAt, Cond.instanceMethod yX0_flowAt, Cond.selects RX0 yX0_flowAt yX0_flowAt, Cond.code yX0_flowAt cX0_flowAt 2 (some (.object "BundledLinks$Flow")), Cond.methodLink RX7 173 yX0_howManySending, Cond.methodLink RX7 176 yX0_wantedBy]
def wsL_law_r29 : List Cond := [Cond.methodLink RL 69 yX8_flow, Cond.instanceMethod yX8_flow, Cond.selects RX8 yX8_flow yX8_flow, Cond.code yX8_flow cX8_flow 4 (some .int), Cond.methodLink RX8 170 yX8_isFlow, Cond.static yX8_isFlow, Cond.code yX8_isFlow cX8_isFlow 1 (some .boolean), Cond.methodLink RL 70 yX7_frame, Cond.instanceMethod yX7_frame, Cond.selects RX7 yX7_frame yX7_frame, Cond.code yX7_frame cX7_frame 6 (some .int), Cond.fieldLink RX7 183 "BundledLinks$Port" "how" "I", Cond.methodLink RX7 180 yX7_placeOfFrames, Cond.instanceMethod yX7_placeOfFrames, Cond.selects RX7 yX7_placeOfFrames yX7_placeOfFrames, Cond.code yX7_placeOfFrames cX7_placeOfFrames 4 (some .int), Cond.methodLink RL 73 yX8_frame, Cond.instanceMethod yX8_frame, Cond.selects RX8 yX8_frame yX8_frame, Cond.code yX8_frame cX8_frame 5 (some .int), Cond.methodLink RL 74 yX7_frames, Cond.instanceMethod yX7_frames, Cond.selects RX7 yX7_frames yX7_frames, Cond.code yX7_frames cX7_frames 4 (some .int)]
def wsL_law_r30 : List Cond := [Cond.methodLink RL 77 yX8_frames, Cond.instanceMethod yX8_frames, Cond.selects RX8 yX8_frames yX8_frames, Cond.code yX8_frames cX8_frames 3 (some .int), Cond.methodLink RL 78 yX7_agreed, Cond.methodLink RL 81 yX8_agreed, Cond.methodLink RL 82 yX7_settled, Cond.instanceMethod yX7_settled, Cond.selects RX7 yX7_settled yX7_settled, Cond.code yX7_settled cX7_settled 3 (some .int), Cond.methodLink RX7 189 yX4_looksLike, Cond.instanceMethod yX4_looksLike, Cond.selects RX4 yX4_looksLike yX4_looksLike, Cond.code yX4_looksLike cX4_looksLike 2 (some .boolean), Cond.methodLink RX4 46 yX0_looksLike, Cond.instanceMethod yX0_looksLike, Cond.selects RX0 yX0_looksLike yX0_looksLike, Cond.code yX0_looksLike cX0_looksLike 3 (some .boolean), Cond.fieldLink RX0 46 "BundledLinks$Flow" "link" "I", Cond.methodLink RL 85 yX8_settled, Cond.instanceMethod yX8_settled, Cond.selects RX8 yX8_settled yX8_settled, Cond.code yX8_settled cX8_settled 3 (some .int), Cond.methodLink RX8 176 yX8_fewest]
def wsL_law_r31 : List Cond := [Cond.instanceMethod yX8_fewest, Cond.selects RX8 yX8_fewest yX8_fewest, Cond.code yX8_fewest cX8_fewest 4 (some .int), Cond.methodLink RX8 173 yX8_isOther, Cond.instanceMethod yX8_isOther, Cond.selects RX8 yX8_isOther yX8_isOther, Cond.code yX8_isOther cX8_isOther 4 (some .boolean), Cond.methodLink RL 86 yX7_count, Cond.instanceMethod yX7_count, Cond.selects RX7 yX7_count yX7_count, Cond.code yX7_count cX7_count 2 (some .int), Cond.fieldLink RX7 193 "BundledLinks$Net" "wait" "I", Cond.fieldLink RX7 196 "BundledLinks$Net" "drain" "I", Cond.methodLink RL 89 yX8_count, Cond.instanceMethod yX8_count, Cond.selects RX8 yX8_count yX8_count, Cond.code yX8_count cX8_count 2 (some .int)]
def wsL_law : List Cond := (wsL_law_r1 ++ (wsL_law_r2 ++ (wsL_law_r3 ++ (wsL_law_r4 ++ (wsL_law_r5 ++ (wsL_law_r6 ++ (wsL_law_r7 ++ (wsL_law_r8 ++ (wsL_law_r9 ++ (wsL_law_r10 ++ (wsL_law_r11 ++ (wsL_law_r12 ++ (wsL_law_r13 ++ (wsL_law_r14 ++ (wsL_law_r15 ++ (wsL_law_r16 ++ (wsL_law_r17 ++ (wsL_law_r18 ++ (wsL_law_r19 ++ (wsL_law_r20 ++ (wsL_law_r21 ++ (wsL_law_r22 ++ (wsL_law_r23 ++ (wsL_law_r24 ++ (wsL_law_r25 ++ (wsL_law_r26 ++ (wsL_law_r27 ++ (wsL_law_r28 ++ (wsL_law_r29 ++ (wsL_law_r30 ++ wsL_law_r31)))))))))))))))))))))))))))))) ++ wsX70 ++ wsX80 ++ wsX60 ++ wsX40 ++ wsX20 ++ wsX00 ++ wsX50 ++ wsX10 ++ wsX30 ++ ([] : List Cond)
set_option maxRecDepth 20000 in
theorem in_wsL_law_r1 : ∀ w ∈ wsL_law_r1, w ∈ lw_tbl := fun w h => (goodIn_p wsL_law_r1 [59, 62] rfl (by decide +kernel) w h).1
set_option maxRecDepth 20000 in
theorem in_wsL_law_r2 : ∀ w ∈ wsL_law_r2, w ∈ lw_tbl := fun w h => (goodIn_p wsL_law_r2 [67, 83, 89] rfl (by decide +kernel) w h).1
set_option maxRecDepth 20000 in
theorem in_wsL_law_r3 : ∀ w ∈ wsL_law_r3, w ∈ lw_tbl := fun w h => (goodIn_p wsL_law_r3 [96, 102, 178, 236] rfl (by decide +kernel) w h).1
set_option maxRecDepth 20000 in
theorem in_wsL_law_r4 : ∀ w ∈ wsL_law_r4, w ∈ lw_tbl := fun w h => (goodIn_p wsL_law_r4 [256, 260, 266, 270] rfl (by decide +kernel) w h).1
set_option maxRecDepth 20000 in
theorem in_wsL_law_r5 : ∀ w ∈ wsL_law_r5, w ∈ lw_tbl := fun w h => (goodIn_p wsL_law_r5 [273, 276, 281, 284, 287, 290, 294] rfl (by decide +kernel) w h).1
set_option maxRecDepth 20000 in
theorem in_wsL_law_r6 : ∀ w ∈ wsL_law_r6, w ∈ lw_tbl := fun w h => (goodIn_p wsL_law_r6 [304, 308, 312] rfl (by decide +kernel) w h).1
set_option maxRecDepth 20000 in
theorem in_wsL_law_r7 : ∀ w ∈ wsL_law_r7, w ∈ lw_tbl := fun w h => (goodIn_p wsL_law_r7 [316, 320, 324] rfl (by decide +kernel) w h).1
set_option maxRecDepth 20000 in
theorem in_wsL_law_r8 : ∀ w ∈ wsL_law_r8, w ∈ lw_tbl := fun w h => (goodIn_p wsL_law_r8 [328, 332, 336, 340, 344] rfl (by decide +kernel) w h).1
set_option maxRecDepth 20000 in
theorem in_wsL_law_r9 : ∀ w ∈ wsL_law_r9, w ∈ lw_tbl := fun w h => (goodIn_p wsL_law_r9 [348, 353, 357, 361, 365, 660] rfl (by decide +kernel) w h).1
set_option maxRecDepth 20000 in
theorem in_wsL_law_r10 : ∀ w ∈ wsL_law_r10, w ∈ lw_tbl := fun w h => (goodIn_p wsL_law_r10 [665, 669] rfl (by decide +kernel) w h).1
set_option maxRecDepth 20000 in
theorem in_wsL_law_r11 : ∀ w ∈ wsL_law_r11, w ∈ lw_tbl := fun w h => (goodIn_p wsL_law_r11 [673, 676, 389, 736, 739] rfl (by decide +kernel) w h).1
set_option maxRecDepth 20000 in
theorem in_wsL_law_r12 : ∀ w ∈ wsL_law_r12, w ∈ lw_tbl := fun w h => (goodIn_p wsL_law_r12 [393, 743, 397, 401, 405, 409, 412] rfl (by decide +kernel) w h).1
set_option maxRecDepth 20000 in
theorem in_wsL_law_r13 : ∀ w ∈ wsL_law_r13, w ∈ lw_tbl := fun w h => (goodIn_p wsL_law_r13 [747, 751, 755, 759, 763, 417] rfl (by decide +kernel) w h).1
set_option maxRecDepth 20000 in
theorem in_wsL_law_r14 : ∀ w ∈ wsL_law_r14, w ∈ lw_tbl := fun w h => (goodIn_p wsL_law_r14 [421, 425, 767, 429] rfl (by decide +kernel) w h).1
set_option maxRecDepth 20000 in
theorem in_wsL_law_r15 : ∀ w ∈ wsL_law_r15, w ∈ lw_tbl := fun w h => (goodIn_p wsL_law_r15 [433, 437, 440, 444, 467, 448, 452] rfl (by decide +kernel) w h).1
set_option maxRecDepth 20000 in
theorem in_wsL_law_r16 : ∀ w ∈ wsL_law_r16, w ∈ lw_tbl := fun w h => (goodIn_p wsL_law_r16 [456, 460, 464, 471, 476] rfl (by decide +kernel) w h).1
set_option maxRecDepth 20000 in
theorem in_wsL_law_r17 : ∀ w ∈ wsL_law_r17, w ∈ lw_tbl := fun w h => (goodIn_p wsL_law_r17 [771, 775, 779, 783, 480] rfl (by decide +kernel) w h).1
set_option maxRecDepth 20000 in
theorem in_wsL_law_r18 : ∀ w ∈ wsL_law_r18, w ∈ lw_tbl := fun w h => (goodIn_p wsL_law_r18 [485, 787, 790, 489, 794, 798] rfl (by decide +kernel) w h).1
set_option maxRecDepth 20000 in
theorem in_wsL_law_r19 : ∀ w ∈ wsL_law_r19, w ∈ lw_tbl := fun w h => (goodIn_p wsL_law_r19 [494, 499, 503, 802, 507] rfl (by decide +kernel) w h).1
set_option maxRecDepth 20000 in
theorem in_wsL_law_r20 : ∀ w ∈ wsL_law_r20, w ∈ lw_tbl := fun w h => (goodIn_p wsL_law_r20 [511, 515, 519, 523, 527] rfl (by decide +kernel) w h).1
set_option maxRecDepth 20000 in
theorem in_wsL_law_r21 : ∀ w ∈ wsL_law_r21, w ∈ lw_tbl := fun w h => (goodIn_p wsL_law_r21 [531, 535, 539, 543, 547] rfl (by decide +kernel) w h).1
set_option maxRecDepth 20000 in
theorem in_wsL_law_r22 : ∀ w ∈ wsL_law_r22, w ∈ lw_tbl := fun w h => (goodIn_p wsL_law_r22 [551, 555, 559, 563, 567] rfl (by decide +kernel) w h).1
set_option maxRecDepth 20000 in
theorem in_wsL_law_r23 : ∀ w ∈ wsL_law_r23, w ∈ lw_tbl := fun w h => (goodIn_p wsL_law_r23 [571, 575, 579, 583, 587, 822] rfl (by decide +kernel) w h).1
set_option maxRecDepth 20000 in
theorem in_wsL_law_r24 : ∀ w ∈ wsL_law_r24, w ∈ lw_tbl := fun w h => (goodIn_p wsL_law_r24 [826, 830, 834, 838, 842, 846] rfl (by decide +kernel) w h).1
set_option maxRecDepth 20000 in
theorem in_wsL_law_r25 : ∀ w ∈ wsL_law_r25, w ∈ lw_tbl := fun w h => (goodIn_p wsL_law_r25 [850, 854, 858, 862, 866, 870] rfl (by decide +kernel) w h).1
set_option maxRecDepth 20000 in
theorem in_wsL_law_r26 : ∀ w ∈ wsL_law_r26, w ∈ lw_tbl := fun w h => (goodIn_p wsL_law_r26 [874, 818, 810, 814, 591, 595] rfl (by decide +kernel) w h).1
set_option maxRecDepth 20000 in
theorem in_wsL_law_r27 : ∀ w ∈ wsL_law_r27, w ∈ lw_tbl := fun w h => (goodIn_p wsL_law_r27 [806, 600, 604, 608, 879, 883] rfl (by decide +kernel) w h).1
set_option maxRecDepth 20000 in
theorem in_wsL_law_r28 : ∀ w ∈ wsL_law_r28, w ∈ lw_tbl := fun w h => (goodIn_p wsL_law_r28 [612, 887, 616, 620, 624] rfl (by decide +kernel) w h).1
set_option maxRecDepth 20000 in
theorem in_wsL_law_r29 : ∀ w ∈ wsL_law_r29, w ∈ lw_tbl := fun w h => (goodIn_p wsL_law_r29 [891, 894, 630, 634, 898, 638] rfl (by decide +kernel) w h).1
set_option maxRecDepth 20000 in
theorem in_wsL_law_r30 : ∀ w ∈ wsL_law_r30, w ∈ lw_tbl := fun w h => (goodIn_p wsL_law_r30 [902, 643, 647, 651, 906] rfl (by decide +kernel) w h).1
set_option maxRecDepth 20000 in
theorem in_wsL_law_r31 : ∀ w ∈ wsL_law_r31, w ∈ lw_tbl := fun w h => (goodIn_p wsL_law_r31 [910, 914, 655, 918] rfl (by decide +kernel) w h).1
set_option maxRecDepth 20000 in
theorem in_wsX70 : ∀ w ∈ wsX70, w ∈ lw_tbl := by decide +kernel
set_option maxRecDepth 20000 in
theorem in_wsX80 : ∀ w ∈ wsX80, w ∈ lw_tbl := by decide +kernel
set_option maxRecDepth 20000 in
theorem in_wsX60 : ∀ w ∈ wsX60, w ∈ lw_tbl := by decide +kernel
set_option maxRecDepth 20000 in
theorem in_wsX40 : ∀ w ∈ wsX40, w ∈ lw_tbl := by decide +kernel
set_option maxRecDepth 20000 in
theorem in_wsX20 : ∀ w ∈ wsX20, w ∈ lw_tbl := by decide +kernel
set_option maxRecDepth 20000 in
theorem in_wsX00 : ∀ w ∈ wsX00, w ∈ lw_tbl := by decide +kernel
set_option maxRecDepth 20000 in
theorem in_wsX50 : ∀ w ∈ wsX50, w ∈ lw_tbl := by decide +kernel
set_option maxRecDepth 20000 in
theorem in_wsX10 : ∀ w ∈ wsX10, w ∈ lw_tbl := by decide +kernel
set_option maxRecDepth 20000 in
theorem in_wsX30 : ∀ w ∈ wsX30, w ∈ lw_tbl := by decide +kernel
theorem wsL_law_in : ∀ w ∈ wsL_law, w ∈ lw_tbl := List.forall_mem_append.mpr ⟨List.forall_mem_append.mpr ⟨List.forall_mem_append.mpr ⟨List.forall_mem_append.mpr ⟨List.forall_mem_append.mpr ⟨List.forall_mem_append.mpr ⟨List.forall_mem_append.mpr ⟨List.forall_mem_append.mpr ⟨List.forall_mem_append.mpr ⟨List.forall_mem_append.mpr ⟨List.forall_mem_append.mpr ⟨in_wsL_law_r1, List.forall_mem_append.mpr ⟨in_wsL_law_r2, List.forall_mem_append.mpr ⟨in_wsL_law_r3, List.forall_mem_append.mpr ⟨in_wsL_law_r4, List.forall_mem_append.mpr ⟨in_wsL_law_r5, List.forall_mem_append.mpr ⟨in_wsL_law_r6, List.forall_mem_append.mpr ⟨in_wsL_law_r7, List.forall_mem_append.mpr ⟨in_wsL_law_r8, List.forall_mem_append.mpr ⟨in_wsL_law_r9, List.forall_mem_append.mpr ⟨in_wsL_law_r10, List.forall_mem_append.mpr ⟨in_wsL_law_r11, List.forall_mem_append.mpr ⟨in_wsL_law_r12, List.forall_mem_append.mpr ⟨in_wsL_law_r13, List.forall_mem_append.mpr ⟨in_wsL_law_r14, List.forall_mem_append.mpr ⟨in_wsL_law_r15, List.forall_mem_append.mpr ⟨in_wsL_law_r16, List.forall_mem_append.mpr ⟨in_wsL_law_r17, List.forall_mem_append.mpr ⟨in_wsL_law_r18, List.forall_mem_append.mpr ⟨in_wsL_law_r19, List.forall_mem_append.mpr ⟨in_wsL_law_r20, List.forall_mem_append.mpr ⟨in_wsL_law_r21, List.forall_mem_append.mpr ⟨in_wsL_law_r22, List.forall_mem_append.mpr ⟨in_wsL_law_r23, List.forall_mem_append.mpr ⟨in_wsL_law_r24, List.forall_mem_append.mpr ⟨in_wsL_law_r25, List.forall_mem_append.mpr ⟨in_wsL_law_r26, List.forall_mem_append.mpr ⟨in_wsL_law_r27, List.forall_mem_append.mpr ⟨in_wsL_law_r28, List.forall_mem_append.mpr ⟨in_wsL_law_r29, List.forall_mem_append.mpr ⟨in_wsL_law_r30, in_wsL_law_r31⟩⟩⟩⟩⟩⟩⟩⟩⟩⟩⟩⟩⟩⟩⟩⟩⟩⟩⟩⟩⟩⟩⟩⟩⟩⟩⟩⟩⟩⟩, in_wsX70⟩, in_wsX80⟩, in_wsX60⟩, in_wsX40⟩, in_wsX20⟩, in_wsX00⟩, in_wsX50⟩, in_wsX10⟩, in_wsX30⟩, (fun _ h => absurd h List.not_mem_nil)⟩
theorem inlX0 : ∀ w ∈ wsX00, w ∈ wsL_law := fun _ h => List.mem_append_left _ (List.mem_append_left _ (List.mem_append_left _ (List.mem_append_left _ (List.mem_append_right _ h))))
theorem inX0 : ∀ w ∈ wsX00, w ∈ lw_tbl := fun w h => wsL_law_in w (inlX0 w h)
theorem inlX1 : ∀ w ∈ wsX10, w ∈ wsL_law := fun _ h => List.mem_append_left _ (List.mem_append_left _ (List.mem_append_right _ h))
theorem inX1 : ∀ w ∈ wsX10, w ∈ lw_tbl := fun w h => wsL_law_in w (inlX1 w h)
theorem inlX2 : ∀ w ∈ wsX20, w ∈ wsL_law := fun _ h => List.mem_append_left _ (List.mem_append_left _ (List.mem_append_left _ (List.mem_append_left _ (List.mem_append_left _ (List.mem_append_right _ h)))))
theorem inX2 : ∀ w ∈ wsX20, w ∈ lw_tbl := fun w h => wsL_law_in w (inlX2 w h)
theorem inlX3 : ∀ w ∈ wsX30, w ∈ wsL_law := fun _ h => List.mem_append_left _ (List.mem_append_right _ h)
theorem inX3 : ∀ w ∈ wsX30, w ∈ lw_tbl := fun w h => wsL_law_in w (inlX3 w h)
theorem inlX4 : ∀ w ∈ wsX40, w ∈ wsL_law := fun _ h => List.mem_append_left _ (List.mem_append_left _ (List.mem_append_left _ (List.mem_append_left _ (List.mem_append_left _ (List.mem_append_left _ (List.mem_append_right _ h))))))
theorem inX4 : ∀ w ∈ wsX40, w ∈ lw_tbl := fun w h => wsL_law_in w (inlX4 w h)
theorem inlX5 : ∀ w ∈ wsX50, w ∈ wsL_law := fun _ h => List.mem_append_left _ (List.mem_append_left _ (List.mem_append_left _ (List.mem_append_right _ h)))
theorem inX5 : ∀ w ∈ wsX50, w ∈ lw_tbl := fun w h => wsL_law_in w (inlX5 w h)
theorem inlX6 : ∀ w ∈ wsX60, w ∈ wsL_law := fun _ h => List.mem_append_left _ (List.mem_append_left _ (List.mem_append_left _ (List.mem_append_left _ (List.mem_append_left _ (List.mem_append_left _ (List.mem_append_left _ (List.mem_append_right _ h)))))))
theorem inX6 : ∀ w ∈ wsX60, w ∈ lw_tbl := fun w h => wsL_law_in w (inlX6 w h)
theorem inlX7 : ∀ w ∈ wsX70, w ∈ wsL_law := fun _ h => List.mem_append_left _ (List.mem_append_left _ (List.mem_append_left _ (List.mem_append_left _ (List.mem_append_left _ (List.mem_append_left _ (List.mem_append_left _ (List.mem_append_left _ (List.mem_append_left _ (List.mem_append_right _ h)))))))))
theorem inX7 : ∀ w ∈ wsX70, w ∈ lw_tbl := fun w h => wsL_law_in w (inlX7 w h)
theorem inlX8 : ∀ w ∈ wsX80, w ∈ wsL_law := fun _ h => List.mem_append_left _ (List.mem_append_left _ (List.mem_append_left _ (List.mem_append_left _ (List.mem_append_left _ (List.mem_append_left _ (List.mem_append_left _ (List.mem_append_left _ (List.mem_append_right _ h))))))))
theorem inX8 : ∀ w ∈ wsX80, w ∈ lw_tbl := fun w h => wsL_law_in w (inlX8 w h)
theorem inJ9 : ∀ w ∈ wsJ90, w ∈ lw_tbl := by decide +kernel
theorem inJ0 : ∀ w ∈ wsJ00, w ∈ lw_tbl := by decide +kernel
theorem inJ1 : ∀ w ∈ wsJ10, w ∈ lw_tbl := by decide +kernel
theorem inJ2 : ∀ w ∈ wsJ20, w ∈ lw_tbl := by decide +kernel
theorem inJ3 : ∀ w ∈ wsJ30, w ∈ lw_tbl := by decide +kernel
set_option maxRecDepth 20000 in
theorem ggX0_init_X5_init : GoodIn wsX0_init wsX5_init := goodIn_r _ [14, 15, 2, 3, 16, 17, 18, 19, 20, 21, 22, 23, 44, 45, 46, 47, 48, 31, 32, 33, 34, 35, 36, 37, 38, 39, 40, 41] (by decide +kernel) (by decide +kernel)
set_option maxRecDepth 20000 in
theorem gX0_init_X5_init_n21 : GoodIn wsX0_init (wsX5_init) := ggX0_init_X5_init
set_option maxRecDepth 20000 in
theorem ggX0_init_X1_init : GoodIn wsX0_init wsX1_init := goodIn_r _ [25, 26, 2, 3] (by decide +kernel) (by decide +kernel)
set_option maxRecDepth 20000 in
theorem gX0_init_X1_init_n28 : GoodIn wsX0_init (wsX1_init) := ggX0_init_X1_init
theorem dX0_init_0 : decode cX0_init 0 = .ok (.aload_n 0, 1) := by decide +kernel
theorem dX0_init_1 : decode cX0_init 1 = .ok (.invokespecial 3, 3) := by decide +kernel
theorem dX0_init_4 : decode cX0_init 4 = .ok (.aload_n 0, 1) := by decide +kernel
theorem dX0_init_5 : decode cX0_init 5 = .ok (.iload_n 1, 1) := by decide +kernel
theorem dX0_init_6 : decode cX0_init 6 = .ok (.putfield 9, 3) := by decide +kernel
theorem dX0_init_9 : decode cX0_init 9 = .ok (.aload_n 0, 1) := by decide +kernel
theorem dX0_init_10 : decode cX0_init 10 = .ok (.bipush 6, 2) := by decide +kernel
theorem dX0_init_12 : decode cX0_init 12 = .ok (.anewarray 15, 3) := by decide +kernel
theorem dX0_init_15 : decode cX0_init 15 = .ok (.putfield 17, 3) := by decide +kernel
theorem dX0_init_18 : decode cX0_init 18 = .ok (.iconst 0, 1) := by decide +kernel
theorem dX0_init_19 : decode cX0_init 19 = .ok (.istore_n 2, 1) := by decide +kernel
theorem dX0_init_20 : decode cX0_init 20 = .ok (.iload_n 2, 1) := by decide +kernel
theorem dX0_init_21 : decode cX0_init 21 = .ok (.aload_n 0, 1) := by decide +kernel
theorem dX0_init_22 : decode cX0_init 22 = .ok (.getfield 17, 3) := by decide +kernel
theorem dX0_init_25 : decode cX0_init 25 = .ok (.arraylength, 1) := by decide +kernel
theorem dX0_init_26 : decode cX0_init 26 = .ok (.if_icmp .ge 22, 3) := by decide +kernel
theorem dX0_init_29 : decode cX0_init 29 = .ok (.aload_n 0, 1) := by decide +kernel
theorem dX0_init_30 : decode cX0_init 30 = .ok (.getfield 17, 3) := by decide +kernel
theorem dX0_init_33 : decode cX0_init 33 = .ok (.iload_n 2, 1) := by decide +kernel
theorem dX0_init_34 : decode cX0_init 34 = .ok (.new 15, 3) := by decide +kernel
theorem dX0_init_37 : decode cX0_init 37 = .ok (.dup, 1) := by decide +kernel
theorem dX0_init_38 : decode cX0_init 38 = .ok (.invokespecial 21, 3) := by decide +kernel
abbrev vwCl : List vw_C := [(RX0, TX0, 4), (RX1, TX1, 2), (RX2, TX2, 3), (RX3, TX3, 5), (RX4, TX4, 7), (RX5, TX5, 11), (RX6, TX6, 2), (RX7, TX7, 6), (RX8, TX8, 18)]
end
section
/-! THE WORLD: every cell has a name (a key); ints and references of the cells stand in two functions of keys and places; a method's contract says what they are behind it. -/
abbrev Ky : Type := Nat × Nat × Nat × Nat
abbrev Sg : Type := Ky → Nat → Int32
abbrev Rh : Type := Ky → Nat → Option Ky
abbrev Ev : Type := va_G × (Nat → ClassId) × List Ky × (Ky → Nat)
def ks (E : Ev) : List Ky := E.2.2.1
def ad (E : Ev) (k : Ky) : Nat := E.2.2.2 k
def b01 (x : Int32) : Int32 := if x = 0 then 0 else 1
def up2 (σ : Sg) (k : Ky) (j : Nat) (v : Int32) : Sg := fun k' j' => if k' = k ∧ j' = j then v else σ k' j'
def rv (E : Ev) (r : Option Ky) : Value := va_rf (r.map (ad E))
/-- the length of an array, by its key -/
def al (k : Ky) : Nat := match k with
  | (9, 0, _) => 200
  | (9, 1, _) => 12
  | (9, 2, _) => 235
  | (9, 3, _) => 235
  | (9, 4, _) => 1410
  | (9, 5, _) => 12
  | (9, 6, _) => 200
  | (9, 7, _) => 24
  | (9, 8, _) => 2
  | (9, 9, _) => 3
  | (9, 10, _) => 4
  | (9, 11, _) => 28
  | (11, _) => 8
  | _ => 6
/-- the kind of a cell: the number of its class, or of its array -/
def kc (k : Ky) : Nat := match k.1 with
  | 14 => 3
  | t => t
def ec (E : Ev) (n : Nat) (r : Nat → Option Ky) (f : Nat → Int32) : Nat → va_E := fun t => match t with
  | 0 => .inr (0, [.int (f 0), .int (f 1), rv E (r 2), rv E (r 3)])
  | 1 => .inr (1, [.int (f 0), .int (f 1)])
  | 2 => .inr (2, [rv E (r 0), .int (f 1), .int (f 2)])
  | 3 => .inr (3, [.int (b01 (f 0)), .int (f 1), .int (f 2), .int (f 3), .int (b01 (f 4))])
  | 4 => .inr (4, [rv E (r 0), rv E (r 1), .int (f 2), .int (f 3), .int (f 4), .int (f 5), .int (f 6)])
  | 5 => .inr (5, [.int (b01 (f 0)), .int (b01 (f 1)), .int (f 2), .int (f 3), rv E (r 4), rv E (r 5), .int (f 6), .int (f 7), .int (b01 (f 8)), .int (f 9), .int (f 10)])
  | 6 => .inr (6, [rv E (r 0), .int (f 1)])
  | 7 => .inr (7, [rv E (r 0), rv E (r 1), rv E (r 2), rv E (r 3), rv E (r 4), rv E (r 5)])
  | 8 => .inr (8, [.int (f 0), .int (f 1), .int (f 2), rv E (r 3), rv E (r 4), rv E (r 5), .int (f 6), rv E (r 7), rv E (r 8), .int (f 9), .int (f 10), rv E (r 11), rv E (r 12), rv E (r 13), rv E (r 14), .int (f 15), rv E (r 16), rv E (r 17)])
  | 9 => .inl (E.2.1 0, n, .inl f)
  | 10 => .inl (E.2.1 1, n, .inl f)
  | 11 => .inl (E.2.1 2, n, .inr (.inr (.inr (.inr (fun i => (r i).map (ad E))))))
  | 12 => .inl (E.2.1 3, n, .inr (.inr (.inr (.inr (fun i => (r i).map (ad E))))))
  | _ => .inl (E.2.1 4, n, .inr (.inr (.inr (.inr (fun i => (r i).map (ad E))))))
def en (E : Ev) (ρ : Rh) (σ : Sg) (k : Ky) : va_E := ec E (al k) (ρ k) (σ k) (kc k)
def wl (E : Ev) (ρ : Rh) (σ : Sg) : va_W := (ks E).map (fun k => (ad E k, en E ρ σ k))
def tys (E : Ev) : List (ClassId × FieldType) := [(E.2.1 0, .int), (E.2.1 1, .boolean), (E.2.1 2, .object RX1), (E.2.1 3, .object RX4), (E.2.1 4, .object RX5)]
def AL (E : Ev) : Nat → Prop := fun q => ∃ k ∈ ks E, q = ad E k
def okE (E : Ev) : Prop := (ks E).Nodup ∧ ∀ k ∈ ks E, ∀ k' ∈ ks E, ad E k = ad E k' → k = k'
/-- the links among nest mates -/
def nst (s : State) : Prop := va_Nw (.methodLinkNest RX6 37 yX7_isFigure "BundledLinks") s ∧ va_Nw (.methodLinkNest RX6 40 yX7_isMost "BundledLinks") s
def sw (E : Ev) (s : State) : Prop := va_K E.1 vwCl (tys E) s ∧ nst s
theorem nst.warm {s U : State} (h : nst s) (hW : s.WarmedH U.vm) : nst U := ⟨va_Nw.warmM hW h.1, va_Nw.warmM hW h.2⟩
theorem sw.warm {E : Ev} {s U : State} (h : sw E s) (hW : s.WarmedH U.vm) : sw E U := ⟨va_K.moved hW.alike h.1, h.2.warm hW⟩
theorem up2_at (σ : Sg) (k : Ky) (j : Nat) (v : Int32) : up2 σ k j v k j = v := by simp [up2]
theorem up2_ne (σ : Sg) (k : Ky) (j : Nat) (v : Int32) {j' : Nat} (h : j' ≠ j) : up2 σ k j v k j' = σ k j' := by simp [up2, h]
theorem up2_nk (σ : Sg) (k : Ky) (j : Nat) (v : Int32) {k' : Ky} (h : k' ≠ k) : up2 σ k j v k' = σ k' := by funext j'; simp [up2, h]
theorem up2_row (σ : Sg) (k : Ky) (j : Nat) (v : Int32) : up2 σ k j v k = upd (σ k) j v := by funext j'; simp [up2, upd]
theorem b01_of {x : Int32} (h : x = 0 ∨ x = 1) : b01 x = x := by rcases h with rfl | rfl <;> decide
theorem b01_or (x : Int32) : b01 x = 0 ∨ b01 x = 1 := by unfold b01; split <;> simp
theorem b01_z {x : Int32} : b01 x = 0 ↔ x = 0 := by unfold b01; split <;> simp [*]
theorem b01_n {x : Int32} : b01 x = 1 ↔ ¬ x = 0 := by unfold b01; split <;> simp [*]
theorem b01_b (x : Int32) : b01 (b01 x) = b01 x := b01_of (b01_or x)
theorem en_nk (E : Ev) (ρ : Rh) (σ : Sg) (k : Ky) (j : Nat) (v : Int32) {k' : Ky} (h : k' ≠ k) : en E ρ (up2 σ k j v) k' = en E ρ σ k' := by
  unfold en; rw [up2_nk σ k j v h]
theorem wl_at {E : Ev} {k : Ky} (ρ : Rh) (σ : Sg) {q : Nat} (hq : (ks E)[q]? = some k) : (wl E ρ σ)[q]? = some (ad E k, en E ρ σ k) := by
  unfold wl; rw [List.getElem?_map, hq]; rfl
theorem ks_at {E : Ev} {k : Ky} (hm : k ∈ ks E) : ∃ q : Nat, (ks E)[q]? = some k := List.getElem?_of_mem hm
theorem nodup_at {α : Type} : ∀ {l : List α}, l.Nodup → ∀ {i j : Nat} {a : α}, l[i]? = some a → l[j]? = some a → i = j
  | [], _, i, _, _, h, _ => by simp at h
  | b :: l, hn, i, j, a, h1, h2 => by
    have hn' := List.nodup_cons.mp hn
    cases i with
    | zero =>
      cases j with
      | zero => rfl
      | succ j =>
        rw [List.getElem?_cons_zero] at h1
        rw [List.getElem?_cons_succ] at h2
        cases h1
        exact absurd (List.mem_of_getElem? h2) hn'.1
    | succ i =>
      rw [List.getElem?_cons_succ] at h1
      cases j with
      | zero =>
        rw [List.getElem?_cons_zero] at h2
        cases h2
        exact absurd (List.mem_of_getElem? h1) hn'.1
      | succ j =>
        rw [List.getElem?_cons_succ] at h2
        rw [nodup_at hn'.2 h1 h2]
theorem map_set {α β : Type} {f g : α → β} : ∀ {l : List α}, l.Nodup → ∀ {q : Nat} {k : α}, l[q]? = some k → (∀ k' ∈ l, k' ≠ k → g k' = f k') → (l.map f).set q (g k) = l.map g
  | [], _, q, k, h, _ => by simp at h
  | b :: l, hn, q, k, h, hg => by
    have hn' := List.nodup_cons.mp hn
    cases q with
    | zero =>
      rw [List.getElem?_cons_zero] at h
      cases h
      rw [List.map_cons, List.map_cons, List.set_cons_zero]
      congr 1
      refine List.map_congr_left (fun a ha => (hg a (List.mem_cons_of_mem _ ha) (fun e => hn'.1 (e ▸ ha))).symm)
    | succ q =>
      rw [List.getElem?_cons_succ] at h
      rw [List.map_cons, List.map_cons, List.set_cons_succ]
      have hb : b ≠ k := fun e => hn'.1 (e ▸ List.mem_of_getElem? h)
      rw [hg b List.mem_cons_self hb, map_set hn'.2 h (fun k' h1 h2 => hg k' (List.mem_cons_of_mem _ h1) h2)]
theorem wl_set {E : Ev} (ρ : Rh) {σ σ' : Sg} {q : Nat} {k : Ky} (hn : (ks E).Nodup) (hq : (ks E)[q]? = some k) (h : ∀ k', k' ≠ k → en E ρ σ' k' = en E ρ σ k') : (wl E ρ σ).set q (ad E k, en E ρ σ' k) = wl E ρ σ' :=
  map_set (f := fun k => (ad E k, en E ρ σ k)) (g := fun k => (ad E k, en E ρ σ' k)) hn hq (fun k' _ h2 => by rw [h k' h2])
theorem wl_D {E : Ev} (hE : okE E) {A : Nat → Prop} (hA : ∀ k ∈ ks E, A (ad E k)) (ρ : Rh) (σ : Sg) : va_D A (wl E ρ σ) := by
  have key : ∀ (i : Nat) (q : Nat × va_E), (wl E ρ σ)[i]? = some q → ∃ k, (ks E)[i]? = some k ∧ q.1 = ad E k := by
    intro i q h
    unfold wl at h
    rw [List.getElem?_map] at h
    cases hk : (ks E)[i]? with
    | none => rw [hk] at h; cases h
    | some k => rw [hk] at h; cases h; exact ⟨k, rfl, rfl⟩
  refine ⟨fun i j x y hi hj hxy => ?_, fun i q hq => ?_⟩
  · obtain ⟨k1, h1, e1⟩ := key i x hi
    obtain ⟨k2, h2, e2⟩ := key j y hj
    have := hE.2 k1 (List.mem_of_getElem? h1) k2 (List.mem_of_getElem? h2) (by rw [← e1, ← e2]; exact hxy)
    subst this
    exact nodup_at hE.1 h1 h2
  · obtain ⟨k, h1, e1⟩ := key i q hq
    rw [e1]; exact hA k (List.mem_of_getElem? h1)
/-- the locals, by their places -/
def hs (ls : Array Slot) (lv : List (Option Value)) : Prop := ls.size = lv.length ∧ lv_wf ls ∧ ∀ (i : Nat) (v : Value), lv[i]? = some (some v) → ls[i]? = some (.val v) ∧ v.category = 1
def toP (lv : List (Option Value)) : List (Nat × Value) := (List.range lv.length).filterMap (fun i => match lv[i]? with | some (some v) => some (i, v) | _ => none)
theorem mem_toP {lv : List (Option Value)} {i : Nat} {v : Value} : (i, v) ∈ toP lv ↔ lv[i]? = some (some v) := by
  unfold toP
  rw [List.mem_filterMap]
  constructor
  · rintro ⟨a, -, h⟩
    split at h
    · next w e => cases h; exact e
    · cases h
  · intro h
    have hl : i < lv.length := (List.getElem?_eq_some_iff.mp h).1
    exact ⟨i, List.mem_range.mpr hl, by rw [h]⟩
theorem hs.has {ls : Array Slot} {lv : List (Option Value)} (h : hs ls lv) : lv_has ls lv.length (toP lv) := ⟨h.1, h.2.1, fun q hq => (h.2.2 q.1 q.2 (mem_toP.mp hq)).1⟩
theorem hs.at {ls : Array Slot} {lv : List (Option Value)} (h : hs ls lv) {i : Nat} {v : Value} (hv : lv[i]? = some (some v)) : ls[i]? = some (.val v) := (h.2.2 i v hv).1
theorem hs.store {ls ls' : Array Slot} {lv lv' : List (Option Value)} {i : Nat} {w : Value} (h : hs ls lv) (hw : w.category = 1) (he : lv.set i (some w) = lv') (h' : lv_has ls' lv.length ((i, w) :: (toP lv).filter (fun q => !(q.1 == i) && !(q.1 + 1 == i && q.2.category == 2)))) : hs ls' lv' := by
  subst he
  refine ⟨by rw [List.length_set]; exact h'.1, h'.2.1, fun j v hj => ?_⟩
  by_cases hji : j = i
  · subst hji
    rw [List.getElem?_set] at hj
    have hjl : j < lv.length := by
      by_cases hx : j < lv.length
      · exact hx
      · simp [hx] at hj
    simp [hjl] at hj
    subst hj
    exact ⟨h'.2.2 (j, w) List.mem_cons_self, hw⟩
  · rw [List.getElem?_set_ne (Ne.symm hji)] at hj
    have hc := (h.2.2 j v hj).2
    refine ⟨h'.2.2 (j, v) (List.mem_cons_of_mem _ (List.mem_filter.mpr ⟨mem_toP.mpr hj, ?_⟩)), hc⟩
    simp [hji, hc]
def isR (v : Value) : Bool := match v with
  | .ref _ => true
  | .null => true
  | _ => false
theorem isR_rv (E : Ev) (r : Option Ky) : isR (rv E r) = true := by cases r <;> rfl
theorem isR_of {v : Value} (h : isR v = true) : v = .null ∨ ∃ a, v = .ref a := by
  cases v <;> simp [isR] at h
  · exact Or.inl rfl
  · exact Or.inr ⟨_, rfl⟩
theorem isR_cat {v : Value} (h : isR v = true) : v.category = 1 := by rcases isR_of h with rfl | ⟨a, rfl⟩ <;> rfl
def argsOk (as : List Value) : Prop := ∀ v ∈ as, v.category = 1
def Cx (p : Program) (s : State) (m : MethodId) (args : Array Value) (c : Code) (E : Ev) (A : Nat → Prop) (own : String) (cc : ByteArray) (nL : Nat) (Ts : List Cond) : Prop :=
  CallFix p m c cc nL s args Ts own ∧ sw E s ∧ okE E ∧ ∀ k ∈ ks E, A (ad E k)
/-- the machine at pc, with the locals lv, the stack st and the ints σ of the world, comes to an end with Q -/
def AW (p : Program) (l : Launch) (e : Env) (R : Room) (s : State) (m : MethodId) (args : Array Value) (below : List Frame) (meth : Method) (c : Code) (cells slots : Nat) (Q : State → Prop) (A : Nat → Prop) (E : Ev) (ρ : Rh) (pc : Nat) (lv : List (Option Value)) (st : List Value) (σ : Sg) : Prop :=
  ∀ (H : Heap) (locs : List Loc) (ls : Array Slot), va_P E.1 vwCl (wl E ρ σ) H → va_S A s.heap H locs → hs ls lv → W p l e R s m args below meth c H locs cells slots Q (F0 m pc ls st)
def QI (E : Ev) (ρ : Rh) (r : Int32) (σ' : Sg) : Array Value → State → Outcome → State → Prop := va_Qi (fun r' σ'' => r' = r ∧ σ'' = σ') (fun σ'' t => va_P E.1 vwCl (wl E ρ σ'') t.heap) (AL E)
def QV (E : Ev) (ρ : Rh) (σ' : Sg) : Array Value → State → Outcome → State → Prop := va_Qv (fun σ'' => σ'' = σ') (fun σ'' t => va_P E.1 vwCl (wl E ρ σ'') t.heap) (AL E)
def QQ (E : Ev) (ρ : Rh) (r : Option Ky) (σ' : Sg) : Array Value → State → Outcome → State → Prop := va_Qq (fun r' σ'' => r' = r.map (ad E) ∧ σ'' = σ') (fun σ'' t => va_P E.1 vwCl (wl E ρ σ'') t.heap) (AL E)
def PW (E : Ev) (ρ : Rh) (σ : Sg) (as : List Value) : Array Value → State → Prop := va_Pc as (fun U => va_P E.1 vwCl (wl E ρ σ) U.heap ∧ sw E U)
abbrev rmm (fr lc : Nat) : Room := { frames := fr, cells := 0, slots := 0, locals := lc }
def CI (l : Launch) (y : MethodName) (ws : List Cond) (fr lc : Nat) (E : Ev) (ρ : Rh) (as : List Value) (σ : Sg) (r : Int32) (σ' : Sg) : Prop := Met l y ws (rmm fr lc) (PW E ρ σ as) (QI E ρ r σ') 0 0 (AL E)
def CV (l : Launch) (y : MethodName) (ws : List Cond) (fr lc : Nat) (E : Ev) (ρ : Rh) (as : List Value) (σ : Sg) (σ' : Sg) : Prop := Met l y ws (rmm fr lc) (PW E ρ σ as) (QV E ρ σ') 0 0 (AL E)
def CQ (l : Launch) (y : MethodName) (ws : List Cond) (fr lc : Nat) (E : Ev) (ρ : Rh) (as : List Value) (σ : Sg) (r : Option Ky) (σ' : Sg) : Prop := Met l y ws (rmm fr lc) (PW E ρ σ as) (QQ E ρ r σ') 0 0 (AL E)
def lv0 (as : List Value) (n : Nat) : List (Option Value) := as.map some ++ List.replicate (n - as.length) none
theorem lv_args_at : ∀ (as : List Value) (b i : Nat) (v : Value), (∀ v ∈ as, v.category = 1) → as[i]? = some v → (b + i, v) ∈ lv_args b as
  | [], _, i, _, _, h => by simp at h
  | a :: as, b, i, v, hc, h => by
    have ha : ¬ a.category = 2 := by rw [hc a List.mem_cons_self]; decide
    unfold lv_args
    rw [if_neg ha]
    cases i with
    | zero => rw [List.getElem?_cons_zero] at h; cases h; exact List.mem_cons_self
    | succ i =>
      rw [List.getElem?_cons_succ] at h
      have := lv_args_at as (b + 1) i v (fun v h => hc v (List.mem_cons_of_mem _ h)) h
      rw [show b + (i + 1) = b + 1 + i by omega]
      exact List.mem_cons_of_mem _ this
theorem lv0_at {as : List Value} {n i : Nat} {v : Value} (h : (lv0 as n)[i]? = some (some v)) : as[i]? = some v := by
  unfold lv0 at h
  by_cases hi : i < as.length
  · rw [List.getElem?_append_left (by simpa using hi), List.getElem?_map] at h
    cases hv : as[i]? with
    | none => rw [hv] at h; cases h
    | some w => rw [hv] at h; cases h; rfl
  · rw [List.getElem?_append_right (by simpa using Nat.le_of_not_lt hi)] at h
    have := List.eq_of_mem_replicate (List.mem_of_getElem? h)
    cases this
theorem hs_entry {as : List Value} {n : Nat} (hc : argsOk as) (hn : as.length ≤ n) (hl : (lg_sl as).length ≤ n) : hs ((lg_sl as ++ List.replicate (n - (lg_sl as).length) Slot.unset).toArray) (lv0 as n) := by
  have h := lv_entry as hl
  refine ⟨by rw [h.1]; unfold lv0; simp; omega, h.2.1, fun i v hv => ?_⟩
  have hv' := lv0_at hv
  refine ⟨h.2.2 (i, v) ?_, hc v (List.mem_of_getElem? hv')⟩
  have := lv_args_at as 0 i v hc hv'
  rwa [Nat.zero_add] at this
theorem al_lt (k : Ky) : al k < 2 ^ 31 := by
  unfold al; split <;> decide
end
section
section RULES
variable {p : Program} {l : Launch} {e : Env} {R : Room} {s : State} {m : MethodId} {args : Array Value} {below : List Frame} {meth : Method} {c : Code} {cells slots : Nat} {Q : State → Prop} {A : Nat → Prop} {E : Ev} {ρ : Rh} {own : String} {cc : ByteArray} {nL : Nat} {Ts : List Cond} {pc q : Nat} {lv lv' : List (Option Value)} {st : List Value} {σ σ' : Sg}
theorem A_iconst (cx : Cx p s m args c E A own cc nL Ts) {n : Int} {v : Int32} (hd : decode cc pc = .ok (.iconst n, 1)) (hv : Int32.ofInt n = v) (hq : pc + 1 = q) (k : AW p l e R s m args below meth c cells slots Q A E ρ q lv (.int v :: st) σ) : AW p l e R s m args below meth c cells slots Q A E ρ pc lv st σ := fun H locs ls hP hS hl => by subst hq; exact lv_iconst cx.1.1 cx.1.2.1 hd hv (k H locs ls hP hS hl)
theorem A_bipush (cx : Cx p s m args c E A own cc nL Ts) {n : Int} {v : Int32} (hd : decode cc pc = .ok (.bipush n, 2)) (hv : (Int8.ofInt n).toInt32 = v) (hq : pc + 2 = q) (k : AW p l e R s m args below meth c cells slots Q A E ρ q lv (.int v :: st) σ) : AW p l e R s m args below meth c cells slots Q A E ρ pc lv st σ := fun H locs ls hP hS hl => by subst hq; exact lv_bipush cx.1.1 cx.1.2.1 hd hv (k H locs ls hP hS hl)
theorem A_sipush (cx : Cx p s m args c E A own cc nL Ts) {n : Int} {v : Int32} (hd : decode cc pc = .ok (.sipush n, 3)) (hv : (Int16.ofInt n).toInt32 = v) (hq : pc + 3 = q) (k : AW p l e R s m args below meth c cells slots Q A E ρ q lv (.int v :: st) σ) : AW p l e R s m args below meth c cells slots Q A E ρ pc lv st σ := fun H locs ls hP hS hl => by subst hq; exact lv_sipush cx.1.1 cx.1.2.1 hd hv (k H locs ls hP hS hl)
theorem A_iload_n (cx : Cx p s m args c E A own cc nL Ts) {k : Fin 4} {x : Int32} (hd : decode cc pc = .ok (.iload_n k, 1)) (hx : lv[(k : Nat)]? = some (some (.int x))) (hq : pc + 1 = q) (kk : AW p l e R s m args below meth c cells slots Q A E ρ q lv (.int x :: st) σ) : AW p l e R s m args below meth c cells slots Q A E ρ pc lv st σ := fun H locs ls hP hS hl => by subst hq; exact lv_iload_n cx.1.1 cx.1.2.1 hd rfl (hl.at hx) (kk H locs ls hP hS hl)
theorem A_iload (cx : Cx p s m args c E A own cc nL Ts) {i : Nat} {x : Int32} (hd : decode cc pc = .ok (.iload i, 2)) (hx : lv[i]? = some (some (.int x))) (hq : pc + 2 = q) (kk : AW p l e R s m args below meth c cells slots Q A E ρ q lv (.int x :: st) σ) : AW p l e R s m args below meth c cells slots Q A E ρ pc lv st σ := fun H locs ls hP hS hl => by subst hq; exact lv_iload cx.1.1 cx.1.2.1 hd (hl.at hx) (kk H locs ls hP hS hl)
theorem A_aload_n (cx : Cx p s m args c E A own cc nL Ts) {k : Fin 4} {v : Value} (hd : decode cc pc = .ok (.aload_n k, 1)) (hx : lv[(k : Nat)]? = some (some v)) (hv : isR v = true) (hq : pc + 1 = q) (kk : AW p l e R s m args below meth c cells slots Q A E ρ q lv (v :: st) σ) : AW p l e R s m args below meth c cells slots Q A E ρ pc lv st σ := fun H locs ls hP hS hl => by
  subst hq
  rcases isR_of hv with rfl | ⟨a, rfl⟩
  · exact lv_aload_nN cx.1.1 cx.1.2.1 hd rfl (hl.at hx) (kk H locs ls hP hS hl)
  · exact lv_aload_n cx.1.1 cx.1.2.1 hd rfl (hl.at hx) (kk H locs ls hP hS hl)
theorem A_aload (cx : Cx p s m args c E A own cc nL Ts) {i : Nat} {v : Value} (hd : decode cc pc = .ok (.aload i, 2)) (hx : lv[i]? = some (some v)) (hv : isR v = true) (hq : pc + 2 = q) (kk : AW p l e R s m args below meth c cells slots Q A E ρ q lv (v :: st) σ) : AW p l e R s m args below meth c cells slots Q A E ρ pc lv st σ := fun H locs ls hP hS hl => by
  subst hq
  rcases isR_of hv with rfl | ⟨a, rfl⟩
  · exact lv_aloadN cx.1.1 cx.1.2.1 hd (hl.at hx) (kk H locs ls hP hS hl)
  · exact lv_aload cx.1.1 cx.1.2.1 hd (hl.at hx) (kk H locs ls hP hS hl)
theorem A_istore_n (cx : Cx p s m args c E A own cc nL Ts) {k : Fin 4} {x : Int32} (hd : decode cc pc = .ok (.istore_n k, 1)) (hn : (k : Nat) < lv.length) (he : lv.set (k : Nat) (some (.int x)) = lv') (hq : pc + 1 = q) (kk : AW p l e R s m args below meth c cells slots Q A E ρ q lv' st σ) : AW p l e R s m args below meth c cells slots Q A E ρ pc lv (.int x :: st) σ := fun H locs ls hP hS hl => by
  subst hq
  exact lv_istore_n cx.1.1 cx.1.2.1 hd rfl hl.has hn rfl (fun ls' h' => kk H locs ls' hP hS (hl.store rfl he h'))
theorem A_istore (cx : Cx p s m args c E A own cc nL Ts) {k : Nat} {x : Int32} (hd : decode cc pc = .ok (.istore k, 2)) (hn : k < lv.length) (he : lv.set k (some (.int x)) = lv') (hq : pc + 2 = q) (kk : AW p l e R s m args below meth c cells slots Q A E ρ q lv' st σ) : AW p l e R s m args below meth c cells slots Q A E ρ pc lv (.int x :: st) σ := fun H locs ls hP hS hl => by
  subst hq
  exact lv_istore cx.1.1 cx.1.2.1 hd hl.has hn rfl (fun ls' h' => kk H locs ls' hP hS (hl.store rfl he h'))
theorem A_astore_n (cx : Cx p s m args c E A own cc nL Ts) {k : Fin 4} {v : Value} (hd : decode cc pc = .ok (.astore_n k, 1)) (hn : (k : Nat) < lv.length) (hv : isR v = true) (he : lv.set (k : Nat) (some v) = lv') (hq : pc + 1 = q) (kk : AW p l e R s m args below meth c cells slots Q A E ρ q lv' st σ) : AW p l e R s m args below meth c cells slots Q A E ρ pc lv (v :: st) σ := fun H locs ls hP hS hl => by
  subst hq
  rcases isR_of hv with rfl | ⟨a, rfl⟩
  · exact lv_astore_nN cx.1.1 cx.1.2.1 hd rfl hl.has hn rfl (fun ls' h' => kk H locs ls' hP hS (hl.store rfl he h'))
  · exact lv_astore_n cx.1.1 cx.1.2.1 hd rfl hl.has hn rfl (fun ls' h' => kk H locs ls' hP hS (hl.store rfl he h'))
theorem A_astore (cx : Cx p s m args c E A own cc nL Ts) {k : Nat} {v : Value} (hd : decode cc pc = .ok (.astore k, 2)) (hn : k < lv.length) (hv : isR v = true) (he : lv.set k (some v) = lv') (hq : pc + 2 = q) (kk : AW p l e R s m args below meth c cells slots Q A E ρ q lv' st σ) : AW p l e R s m args below meth c cells slots Q A E ρ pc lv (v :: st) σ := fun H locs ls hP hS hl => by
  subst hq
  rcases isR_of hv with rfl | ⟨a, rfl⟩
  · exact lv_astoreN cx.1.1 cx.1.2.1 hd hl.has hn rfl (fun ls' h' => kk H locs ls' hP hS (hl.store rfl he h'))
  · exact lv_astore cx.1.1 cx.1.2.1 hd hl.has hn rfl (fun ls' h' => kk H locs ls' hP hS (hl.store rfl he h'))
theorem A_iinc (cx : Cx p s m args c E A own cc nL Ts) {i : Nat} {n : Int} {x v : Int32} (hd : decode cc pc = .ok (.iinc i n, 3)) (hx : lv[i]? = some (some (.int x))) (hv : x + Int32.ofInt n = v) (he : lv.set i (some (.int v)) = lv') (hq : pc + 3 = q) (kk : AW p l e R s m args below meth c cells slots Q A E ρ q lv' st σ) : AW p l e R s m args below meth c cells slots Q A E ρ pc lv st σ := fun H locs ls hP hS hl => by
  subst hq
  obtain ⟨k, hk⟩ := List.getElem?_of_mem (mem_toP.mpr hx)
  exact lv_iinc cx.1.1 cx.1.2.1 hd hl.has hk hv (List.getElem?_eq_some_iff.mp hx).1 rfl (fun ls' h' => kk H locs ls' hP hS (hl.store rfl he h'))
theorem A_iadd (cx : Cx p s m args c E A own cc nL Ts) {x y : Int32} (hd : decode cc pc = .ok (.iadd, 1)) (hq : pc + 1 = q) (kk : AW p l e R s m args below meth c cells slots Q A E ρ q lv (.int (x + y) :: st) σ) : AW p l e R s m args below meth c cells slots Q A E ρ pc lv (.int y :: .int x :: st) σ := fun H locs ls hP hS hl => by subst hq; exact lv_iadd cx.1.1 cx.1.2.1 hd (kk H locs ls hP hS hl)
theorem A_isub (cx : Cx p s m args c E A own cc nL Ts) {x y : Int32} (hd : decode cc pc = .ok (.isub, 1)) (hq : pc + 1 = q) (kk : AW p l e R s m args below meth c cells slots Q A E ρ q lv (.int (x - y) :: st) σ) : AW p l e R s m args below meth c cells slots Q A E ρ pc lv (.int y :: .int x :: st) σ := fun H locs ls hP hS hl => by subst hq; exact lv_isub cx.1.1 cx.1.2.1 hd (kk H locs ls hP hS hl)
theorem A_imul (cx : Cx p s m args c E A own cc nL Ts) {x y : Int32} (hd : decode cc pc = .ok (.imul, 1)) (hq : pc + 1 = q) (kk : AW p l e R s m args below meth c cells slots Q A E ρ q lv (.int (x * y) :: st) σ) : AW p l e R s m args below meth c cells slots Q A E ρ pc lv (.int y :: .int x :: st) σ := fun H locs ls hP hS hl => by subst hq; exact lv_imul cx.1.1 cx.1.2.1 hd (kk H locs ls hP hS hl)
theorem A_iand (cx : Cx p s m args c E A own cc nL Ts) {x y : Int32} (hd : decode cc pc = .ok (.iand, 1)) (hq : pc + 1 = q) (kk : AW p l e R s m args below meth c cells slots Q A E ρ q lv (.int (x &&& y) :: st) σ) : AW p l e R s m args below meth c cells slots Q A E ρ pc lv (.int y :: .int x :: st) σ := fun H locs ls hP hS hl => by subst hq; exact lv_iand cx.1.1 cx.1.2.1 hd (kk H locs ls hP hS hl)
theorem A_ior (cx : Cx p s m args c E A own cc nL Ts) {x y : Int32} (hd : decode cc pc = .ok (.ior, 1)) (hq : pc + 1 = q) (kk : AW p l e R s m args below meth c cells slots Q A E ρ q lv (.int (x ||| y) :: st) σ) : AW p l e R s m args below meth c cells slots Q A E ρ pc lv (.int y :: .int x :: st) σ := fun H locs ls hP hS hl => by subst hq; exact lv_ior cx.1.1 cx.1.2.1 hd (kk H locs ls hP hS hl)
theorem A_ishl (cx : Cx p s m args c E A own cc nL Ts) {x y : Int32} (hd : decode cc pc = .ok (.ishl, 1)) (hq : pc + 1 = q) (kk : AW p l e R s m args below meth c cells slots Q A E ρ q lv (.int (x <<< (y &&& 31)) :: st) σ) : AW p l e R s m args below meth c cells slots Q A E ρ pc lv (.int y :: .int x :: st) σ := fun H locs ls hP hS hl => by subst hq; exact lv_ishl cx.1.1 cx.1.2.1 hd (kk H locs ls hP hS hl)
theorem A_idiv (cx : Cx p s m args c E A own cc nL Ts) {x y : Int32} (hd : decode cc pc = .ok (.idiv, 1)) (hne : ¬ y = 0) (hq : pc + 1 = q) (kk : AW p l e R s m args below meth c cells slots Q A E ρ q lv (.int (x / y) :: st) σ) : AW p l e R s m args below meth c cells slots Q A E ρ pc lv (.int y :: .int x :: st) σ := fun H locs ls hP hS hl => by subst hq; exact lv_idiv cx.1.1 cx.1.2.1 hd hne (kk H locs ls hP hS hl)
theorem A_irem (cx : Cx p s m args c E A own cc nL Ts) {x y : Int32} (hd : decode cc pc = .ok (.irem, 1)) (hne : ¬ y = 0) (hq : pc + 1 = q) (kk : AW p l e R s m args below meth c cells slots Q A E ρ q lv (.int (x - x / y * y) :: st) σ) : AW p l e R s m args below meth c cells slots Q A E ρ pc lv (.int y :: .int x :: st) σ := fun H locs ls hP hS hl => by subst hq; exact lv_irem cx.1.1 cx.1.2.1 hd hne (kk H locs ls hP hS hl)
theorem A_dup (cx : Cx p s m args c E A own cc nL Ts) {v : Value} (hd : decode cc pc = .ok (.dup, 1)) (hv : v.category = 1) (hq : pc + 1 = q) (kk : AW p l e R s m args below meth c cells slots Q A E ρ q lv (v :: v :: st) σ) : AW p l e R s m args below meth c cells slots Q A E ρ pc lv (v :: st) σ := fun H locs ls hP hS hl => by subst hq; exact lv_dup cx.1.1 cx.1.2.1 hd hv (kk H locs ls hP hS hl)
theorem A_dup2 (cx : Cx p s m args c E A own cc nL Ts) {v w : Value} (hd : decode cc pc = .ok (.dup2, 1)) (hv : v.category = 1) (hw : w.category = 1) (hq : pc + 1 = q) (kk : AW p l e R s m args below meth c cells slots Q A E ρ q lv (v :: w :: v :: w :: st) σ) : AW p l e R s m args below meth c cells slots Q A E ρ pc lv (v :: w :: st) σ := fun H locs ls hP hS hl => by subst hq; exact lv_dup2_11 cx.1.1 cx.1.2.1 hd hv hw (kk H locs ls hP hS hl)
theorem A_pop (cx : Cx p s m args c E A own cc nL Ts) {v : Value} (hd : decode cc pc = .ok (.pop, 1)) (hv : v.category = 1) (hq : pc + 1 = q) (kk : AW p l e R s m args below meth c cells slots Q A E ρ q lv st σ) : AW p l e R s m args below meth c cells slots Q A E ρ pc lv (v :: st) σ := fun H locs ls hP hS hl => by subst hq; exact lv_pop cx.1.1 cx.1.2.1 hd hv (kk H locs ls hP hS hl)
theorem A_goto (cx : Cx p s m args c E A own cc nL Ts) {off : Int} (hd : decode cc pc = .ok (.goto off, 3)) (ht : (pc : Int) + off = (q : Int)) (kk : AW p l e R s m args below meth c cells slots Q A E ρ q lv st σ) : AW p l e R s m args below meth c cells slots Q A E ρ pc lv st σ := fun H locs ls hP hS hl => lv_goto cx.1.1 cx.1.2.1 hd ht (kk H locs ls hP hS hl)
theorem A_if_eq (cx : Cx p s m args c E A own cc nL Ts) {x : Int32} {off : Int} {tgt : Nat} (hd : decode cc pc = .ok (.ifCond .eq off, 3)) (ht : (pc : Int) + off = (tgt : Int)) (hq : pc + 3 = q) (kt : x = 0 → AW p l e R s m args below meth c cells slots Q A E ρ tgt lv st σ) (kf : ¬ x = 0 → AW p l e R s m args below meth c cells slots Q A E ρ q lv st σ) : AW p l e R s m args below meth c cells slots Q A E ρ pc lv (.int x :: st) σ := fun H locs ls hP hS hl => by subst hq; exact lv_if_eq cx.1.1 cx.1.2.1 hd ht (fun h => kt h H locs ls hP hS hl) (fun h => kf h H locs ls hP hS hl)
theorem A_icmp_eq (cx : Cx p s m args c E A own cc nL Ts) {x y : Int32} {off : Int} {tgt : Nat} (hd : decode cc pc = .ok (.if_icmp .eq off, 3)) (ht : (pc : Int) + off = (tgt : Int)) (hq : pc + 3 = q) (kt : x = y → AW p l e R s m args below meth c cells slots Q A E ρ tgt lv st σ) (kf : ¬ x = y → AW p l e R s m args below meth c cells slots Q A E ρ q lv st σ) : AW p l e R s m args below meth c cells slots Q A E ρ pc lv (.int y :: .int x :: st) σ := fun H locs ls hP hS hl => by subst hq; exact lv_icmp_eq cx.1.1 cx.1.2.1 hd ht (fun h => kt h H locs ls hP hS hl) (fun h => kf h H locs ls hP hS hl)
theorem A_if_ne (cx : Cx p s m args c E A own cc nL Ts) {x : Int32} {off : Int} {tgt : Nat} (hd : decode cc pc = .ok (.ifCond .ne off, 3)) (ht : (pc : Int) + off = (tgt : Int)) (hq : pc + 3 = q) (kt : ¬ x = 0 → AW p l e R s m args below meth c cells slots Q A E ρ tgt lv st σ) (kf : x = 0 → AW p l e R s m args below meth c cells slots Q A E ρ q lv st σ) : AW p l e R s m args below meth c cells slots Q A E ρ pc lv (.int x :: st) σ := fun H locs ls hP hS hl => by subst hq; exact lv_if_ne cx.1.1 cx.1.2.1 hd ht (fun h => kt h H locs ls hP hS hl) (fun h => kf h H locs ls hP hS hl)
theorem A_icmp_ne (cx : Cx p s m args c E A own cc nL Ts) {x y : Int32} {off : Int} {tgt : Nat} (hd : decode cc pc = .ok (.if_icmp .ne off, 3)) (ht : (pc : Int) + off = (tgt : Int)) (hq : pc + 3 = q) (kt : ¬ x = y → AW p l e R s m args below meth c cells slots Q A E ρ tgt lv st σ) (kf : x = y → AW p l e R s m args below meth c cells slots Q A E ρ q lv st σ) : AW p l e R s m args below meth c cells slots Q A E ρ pc lv (.int y :: .int x :: st) σ := fun H locs ls hP hS hl => by subst hq; exact lv_icmp_ne cx.1.1 cx.1.2.1 hd ht (fun h => kt h H locs ls hP hS hl) (fun h => kf h H locs ls hP hS hl)
theorem A_if_lt (cx : Cx p s m args c E A own cc nL Ts) {x : Int32} {off : Int} {tgt : Nat} (hd : decode cc pc = .ok (.ifCond .lt off, 3)) (ht : (pc : Int) + off = (tgt : Int)) (hq : pc + 3 = q) (kt : x < 0 → AW p l e R s m args below meth c cells slots Q A E ρ tgt lv st σ) (kf : ¬ x < 0 → AW p l e R s m args below meth c cells slots Q A E ρ q lv st σ) : AW p l e R s m args below meth c cells slots Q A E ρ pc lv (.int x :: st) σ := fun H locs ls hP hS hl => by subst hq; exact lv_if_lt cx.1.1 cx.1.2.1 hd ht (fun h => kt h H locs ls hP hS hl) (fun h => kf h H locs ls hP hS hl)
theorem A_icmp_lt (cx : Cx p s m args c E A own cc nL Ts) {x y : Int32} {off : Int} {tgt : Nat} (hd : decode cc pc = .ok (.if_icmp .lt off, 3)) (ht : (pc : Int) + off = (tgt : Int)) (hq : pc + 3 = q) (kt : x < y → AW p l e R s m args below meth c cells slots Q A E ρ tgt lv st σ) (kf : ¬ x < y → AW p l e R s m args below meth c cells slots Q A E ρ q lv st σ) : AW p l e R s m args below meth c cells slots Q A E ρ pc lv (.int y :: .int x :: st) σ := fun H locs ls hP hS hl => by subst hq; exact lv_icmp_lt cx.1.1 cx.1.2.1 hd ht (fun h => kt h H locs ls hP hS hl) (fun h => kf h H locs ls hP hS hl)
theorem A_if_ge (cx : Cx p s m args c E A own cc nL Ts) {x : Int32} {off : Int} {tgt : Nat} (hd : decode cc pc = .ok (.ifCond .ge off, 3)) (ht : (pc : Int) + off = (tgt : Int)) (hq : pc + 3 = q) (kt : 0 ≤ x → AW p l e R s m args below meth c cells slots Q A E ρ tgt lv st σ) (kf : ¬ 0 ≤ x → AW p l e R s m args below meth c cells slots Q A E ρ q lv st σ) : AW p l e R s m args below meth c cells slots Q A E ρ pc lv (.int x :: st) σ := fun H locs ls hP hS hl => by subst hq; exact lv_if_ge cx.1.1 cx.1.2.1 hd ht (fun h => kt h H locs ls hP hS hl) (fun h => kf h H locs ls hP hS hl)
theorem A_icmp_ge (cx : Cx p s m args c E A own cc nL Ts) {x y : Int32} {off : Int} {tgt : Nat} (hd : decode cc pc = .ok (.if_icmp .ge off, 3)) (ht : (pc : Int) + off = (tgt : Int)) (hq : pc + 3 = q) (kt : y ≤ x → AW p l e R s m args below meth c cells slots Q A E ρ tgt lv st σ) (kf : ¬ y ≤ x → AW p l e R s m args below meth c cells slots Q A E ρ q lv st σ) : AW p l e R s m args below meth c cells slots Q A E ρ pc lv (.int y :: .int x :: st) σ := fun H locs ls hP hS hl => by subst hq; exact lv_icmp_ge cx.1.1 cx.1.2.1 hd ht (fun h => kt h H locs ls hP hS hl) (fun h => kf h H locs ls hP hS hl)
theorem A_if_gt (cx : Cx p s m args c E A own cc nL Ts) {x : Int32} {off : Int} {tgt : Nat} (hd : decode cc pc = .ok (.ifCond .gt off, 3)) (ht : (pc : Int) + off = (tgt : Int)) (hq : pc + 3 = q) (kt : 0 < x → AW p l e R s m args below meth c cells slots Q A E ρ tgt lv st σ) (kf : ¬ 0 < x → AW p l e R s m args below meth c cells slots Q A E ρ q lv st σ) : AW p l e R s m args below meth c cells slots Q A E ρ pc lv (.int x :: st) σ := fun H locs ls hP hS hl => by subst hq; exact lv_if_gt cx.1.1 cx.1.2.1 hd ht (fun h => kt h H locs ls hP hS hl) (fun h => kf h H locs ls hP hS hl)
theorem A_icmp_gt (cx : Cx p s m args c E A own cc nL Ts) {x y : Int32} {off : Int} {tgt : Nat} (hd : decode cc pc = .ok (.if_icmp .gt off, 3)) (ht : (pc : Int) + off = (tgt : Int)) (hq : pc + 3 = q) (kt : y < x → AW p l e R s m args below meth c cells slots Q A E ρ tgt lv st σ) (kf : ¬ y < x → AW p l e R s m args below meth c cells slots Q A E ρ q lv st σ) : AW p l e R s m args below meth c cells slots Q A E ρ pc lv (.int y :: .int x :: st) σ := fun H locs ls hP hS hl => by subst hq; exact lv_icmp_gt cx.1.1 cx.1.2.1 hd ht (fun h => kt h H locs ls hP hS hl) (fun h => kf h H locs ls hP hS hl)
theorem A_if_le (cx : Cx p s m args c E A own cc nL Ts) {x : Int32} {off : Int} {tgt : Nat} (hd : decode cc pc = .ok (.ifCond .le off, 3)) (ht : (pc : Int) + off = (tgt : Int)) (hq : pc + 3 = q) (kt : x ≤ 0 → AW p l e R s m args below meth c cells slots Q A E ρ tgt lv st σ) (kf : ¬ x ≤ 0 → AW p l e R s m args below meth c cells slots Q A E ρ q lv st σ) : AW p l e R s m args below meth c cells slots Q A E ρ pc lv (.int x :: st) σ := fun H locs ls hP hS hl => by subst hq; exact lv_if_le cx.1.1 cx.1.2.1 hd ht (fun h => kt h H locs ls hP hS hl) (fun h => kf h H locs ls hP hS hl)
theorem A_icmp_le (cx : Cx p s m args c E A own cc nL Ts) {x y : Int32} {off : Int} {tgt : Nat} (hd : decode cc pc = .ok (.if_icmp .le off, 3)) (ht : (pc : Int) + off = (tgt : Int)) (hq : pc + 3 = q) (kt : x ≤ y → AW p l e R s m args below meth c cells slots Q A E ρ tgt lv st σ) (kf : ¬ x ≤ y → AW p l e R s m args below meth c cells slots Q A E ρ q lv st σ) : AW p l e R s m args below meth c cells slots Q A E ρ pc lv (.int y :: .int x :: st) σ := fun H locs ls hP hS hl => by subst hq; exact lv_icmp_le cx.1.1 cx.1.2.1 hd ht (fun h => kt h H locs ls hP hS hl) (fun h => kf h H locs ls hP hS hl)
theorem A_null (cx : Cx p s m args c E A own cc nL Ts) (hd : decode cc pc = .ok (.aconst_null, 1)) (hq : pc + 1 = q) (kk : AW p l e R s m args below meth c cells slots Q A E ρ q lv (.null :: st) σ) : AW p l e R s m args below meth c cells slots Q A E ρ pc lv st σ := fun H locs ls hP hS hl => by subst hq; exact lv_null cx.1.1 cx.1.2.1 hd (kk H locs ls hP hS hl)
theorem A_ifnull_R (cx : Cx p s m args c E A own cc nL Ts) {a : Nat} {off : Int} (hd : decode cc pc = .ok (.ifnull off, 3)) (hq : pc + 3 = q) (kk : AW p l e R s m args below meth c cells slots Q A E ρ q lv st σ) : AW p l e R s m args below meth c cells slots Q A E ρ pc lv (.ref a :: st) σ := fun H locs ls hP hS hl => by subst hq; exact lv_ifnull cx.1.1 cx.1.2.1 hd (kk H locs ls hP hS hl)
theorem A_ifnull_N (cx : Cx p s m args c E A own cc nL Ts) {off : Int} {tgt : Nat} (hd : decode cc pc = .ok (.ifnull off, 3)) (ht : (pc : Int) + off = (tgt : Int)) (kk : AW p l e R s m args below meth c cells slots Q A E ρ tgt lv st σ) : AW p l e R s m args below meth c cells slots Q A E ρ pc lv (.null :: st) σ := fun H locs ls hP hS hl => lv_ifnullN cx.1.1 cx.1.2.1 hd ht (kk H locs ls hP hS hl)
theorem A_ifnull_O (cx : Cx p s m args c E A own cc nL Ts) {r : Option Ky} {off : Int} {tgt : Nat} (hd : decode cc pc = .ok (.ifnull off, 3)) (ht : (pc : Int) + off = (tgt : Int)) (hq : pc + 3 = q) (kt : r = none → AW p l e R s m args below meth c cells slots Q A E ρ tgt lv st σ) (kf : ∀ k, r = some k → AW p l e R s m args below meth c cells slots Q A E ρ q lv st σ) : AW p l e R s m args below meth c cells slots Q A E ρ pc lv (rv E r :: st) σ := by
  cases r with
  | none => exact A_ifnull_N cx hd ht (kt rfl)
  | some k => exact A_ifnull_R cx hd hq (kf k rfl)
theorem A_ifnonnull_N (cx : Cx p s m args c E A own cc nL Ts) {off : Int} (hd : decode cc pc = .ok (.ifnonnull off, 3)) (hq : pc + 3 = q) (kk : AW p l e R s m args below meth c cells slots Q A E ρ q lv st σ) : AW p l e R s m args below meth c cells slots Q A E ρ pc lv (.null :: st) σ := fun H locs ls hP hS hl => by subst hq; exact lv_ifnonnullN cx.1.1 cx.1.2.1 hd (kk H locs ls hP hS hl)
theorem A_ifnonnull_R (cx : Cx p s m args c E A own cc nL Ts) {a : Nat} {off : Int} {tgt : Nat} (hd : decode cc pc = .ok (.ifnonnull off, 3)) (ht : (pc : Int) + off = (tgt : Int)) (kk : AW p l e R s m args below meth c cells slots Q A E ρ tgt lv st σ) : AW p l e R s m args below meth c cells slots Q A E ρ pc lv (.ref a :: st) σ := fun H locs ls hP hS hl => lv_ifnonnull cx.1.1 cx.1.2.1 hd ht (kk H locs ls hP hS hl)
theorem A_ifnonnull_O (cx : Cx p s m args c E A own cc nL Ts) {r : Option Ky} {off : Int} {tgt : Nat} (hd : decode cc pc = .ok (.ifnonnull off, 3)) (ht : (pc : Int) + off = (tgt : Int)) (hq : pc + 3 = q) (kt : ∀ k, r = some k → AW p l e R s m args below meth c cells slots Q A E ρ tgt lv st σ) (kf : r = none → AW p l e R s m args below meth c cells slots Q A E ρ q lv st σ) : AW p l e R s m args below meth c cells slots Q A E ρ pc lv (rv E r :: st) σ := by
  cases r with
  | none => exact A_ifnonnull_N cx hd hq (kf rfl)
  | some k => exact A_ifnonnull_R cx hd ht (kt k rfl)
theorem A_tableOut (cx : Cx p s m args c E A own cc nL Ts) {dflt lo hi : Int} {offs : Array Int} {len : Nat} {x : Int32} {tgt : Nat} (hd : decode cc pc = .ok (.tableswitch dflt lo hi offs, len)) (h : x.toInt < lo ∨ hi < x.toInt) (ht : (pc : Int) + dflt = (tgt : Int)) (kk : AW p l e R s m args below meth c cells slots Q A E ρ tgt lv st σ) : AW p l e R s m args below meth c cells slots Q A E ρ pc lv (.int x :: st) σ := fun H locs ls hP hS hl => lv_tableOut cx.1.1 cx.1.2.1 hd h ht (kk H locs ls hP hS hl)
theorem A_tableIn (cx : Cx p s m args c E A own cc nL Ts) {dflt lo hi : Int} {offs : Array Int} {len : Nat} {x : Int32} {off : Int} {tgt : Nat} (hd : decode cc pc = .ok (.tableswitch dflt lo hi offs, len)) (h1 : ¬ x.toInt < lo) (h2 : ¬ hi < x.toInt) (ho : offs[(x.toInt - lo).toNat]? = some off) (ht : (pc : Int) + off = (tgt : Int)) (kk : AW p l e R s m args below meth c cells slots Q A E ρ tgt lv st σ) : AW p l e R s m args below meth c cells slots Q A E ρ pc lv (.int x :: st) σ := fun H locs ls hP hS hl => lv_tableIn cx.1.1 cx.1.2.1 hd h1 h2 ho ht (kk H locs ls hP hS hl)
theorem A_lookup (cx : Cx p s m args c E A own cc nL Ts) {dflt : Int} {ps : Array (Int × Int)} {len : Nat} {x : Int32} {off : Int} {tgt : Nat} (hd : decode cc pc = .ok (.lookupswitch dflt ps, len)) (hp : (ps.toList.zip (ps.toList.drop 1)).all (fun (a, next) => a.1 < next.1) = true) (ho : Op.lookupswitch.offset ps.toList dflt x.toInt = off) (ht : (pc : Int) + off = (tgt : Int)) (kk : AW p l e R s m args below meth c cells slots Q A E ρ tgt lv st σ) : AW p l e R s m args below meth c cells slots Q A E ρ pc lv (.int x :: st) σ := fun H locs ls hP hS hl => lv_lookup cx.1.1 cx.1.2.1 hd hp ho ht (kk H locs ls hP hS hl)
theorem A_alen9 (cx : Cx p s m args c E A own cc nL Ts) {k : Ky} {v : Int32} (hd : decode cc pc = .ok (.arraylength, 1)) (hk : kc k = 9) (hm : k ∈ ks E) (hv : Int32.ofNat (al k) = v) (hq : pc + 1 = q) (kk : AW p l e R s m args below meth c cells slots Q A E ρ q lv (.int v :: st) σ) : AW p l e R s m args below meth c cells slots Q A E ρ pc lv (.ref (ad E k) :: st) σ := fun H locs ls hP hS hl => by
  subst hq
  obtain ⟨i, hi⟩ := ks_at hm
  have he := wl_at ρ σ hi
  unfold en at he
  rw [hk] at he
  exact va_alen cx.1.1 cx.1.2.1 cx.2.1.1 hP i 0 he rfl hv hd (kk H locs ls hP hS hl)
theorem A_alen10 (cx : Cx p s m args c E A own cc nL Ts) {k : Ky} {v : Int32} (hd : decode cc pc = .ok (.arraylength, 1)) (hk : kc k = 10) (hm : k ∈ ks E) (hv : Int32.ofNat (al k) = v) (hq : pc + 1 = q) (kk : AW p l e R s m args below meth c cells slots Q A E ρ q lv (.int v :: st) σ) : AW p l e R s m args below meth c cells slots Q A E ρ pc lv (.ref (ad E k) :: st) σ := fun H locs ls hP hS hl => by
  subst hq
  obtain ⟨i, hi⟩ := ks_at hm
  have he := wl_at ρ σ hi
  unfold en at he
  rw [hk] at he
  exact va_alen cx.1.1 cx.1.2.1 cx.2.1.1 hP i 1 he rfl hv hd (kk H locs ls hP hS hl)
theorem A_alen11 (cx : Cx p s m args c E A own cc nL Ts) {k : Ky} {v : Int32} (hd : decode cc pc = .ok (.arraylength, 1)) (hk : kc k = 11) (hm : k ∈ ks E) (hv : Int32.ofNat (al k) = v) (hq : pc + 1 = q) (kk : AW p l e R s m args below meth c cells slots Q A E ρ q lv (.int v :: st) σ) : AW p l e R s m args below meth c cells slots Q A E ρ pc lv (.ref (ad E k) :: st) σ := fun H locs ls hP hS hl => by
  subst hq
  obtain ⟨i, hi⟩ := ks_at hm
  have he := wl_at ρ σ hi
  unfold en at he
  rw [hk] at he
  exact va_alen cx.1.1 cx.1.2.1 cx.2.1.1 hP i 2 he rfl hv hd (kk H locs ls hP hS hl)
theorem A_alen12 (cx : Cx p s m args c E A own cc nL Ts) {k : Ky} {v : Int32} (hd : decode cc pc = .ok (.arraylength, 1)) (hk : kc k = 12) (hm : k ∈ ks E) (hv : Int32.ofNat (al k) = v) (hq : pc + 1 = q) (kk : AW p l e R s m args below meth c cells slots Q A E ρ q lv (.int v :: st) σ) : AW p l e R s m args below meth c cells slots Q A E ρ pc lv (.ref (ad E k) :: st) σ := fun H locs ls hP hS hl => by
  subst hq
  obtain ⟨i, hi⟩ := ks_at hm
  have he := wl_at ρ σ hi
  unfold en at he
  rw [hk] at he
  exact va_alen cx.1.1 cx.1.2.1 cx.2.1.1 hP i 3 he rfl hv hd (kk H locs ls hP hS hl)
theorem A_alen13 (cx : Cx p s m args c E A own cc nL Ts) {k : Ky} {v : Int32} (hd : decode cc pc = .ok (.arraylength, 1)) (hk : kc k = 13) (hm : k ∈ ks E) (hv : Int32.ofNat (al k) = v) (hq : pc + 1 = q) (kk : AW p l e R s m args below meth c cells slots Q A E ρ q lv (.int v :: st) σ) : AW p l e R s m args below meth c cells slots Q A E ρ pc lv (.ref (ad E k) :: st) σ := fun H locs ls hP hS hl => by
  subst hq
  obtain ⟨i, hi⟩ := ks_at hm
  have he := wl_at ρ σ hi
  unfold en at he
  rw [hk] at he
  exact va_alen cx.1.1 cx.1.2.1 cx.2.1.1 hP i 4 he rfl hv hd (kk H locs ls hP hS hl)
theorem A_iaload (cx : Cx p s m args c E A own cc nL Ts) {k : Ky} {j : Nat} {i : Int32} (hd : decode cc pc = .ok (.iaload, 1)) (hk : kc k = 9) (hm : k ∈ ks E) (hi : i = nI j) (hj : j < al k) (hq : pc + 1 = q) (kk : AW p l e R s m args below meth c cells slots Q A E ρ q lv (.int (σ k j) :: st) σ) : AW p l e R s m args below meth c cells slots Q A E ρ pc lv (.int i :: .ref (ad E k) :: st) σ := fun H locs ls hP hS hl => by
  subst hq hi
  obtain ⟨i, hi⟩ := ks_at hm
  have he := wl_at ρ σ hi
  unfold en at he
  rw [hk] at he
  have hb : al k < 2 ^ 31 := al_lt k
  have h0 := kk H locs ls hP hS hl
  rw [← nI_clamp (Nat.lt_trans hj hb)] at h0
  exact va_iald cx.1.1 cx.1.2.1 cx.2.1.1 hP i 0 he rfl (vp_in_nI hj hb) hd h0
theorem A_baload (cx : Cx p s m args c E A own cc nL Ts) {k : Ky} {j : Nat} {i : Int32} (hd : decode cc pc = .ok (.baload, 1)) (hk : kc k = 10) (hm : k ∈ ks E) (hi : i = nI j) (hj : j < al k) (hq : pc + 1 = q) (kk : AW p l e R s m args below meth c cells slots Q A E ρ q lv (.int (σ k j) :: st) σ) : AW p l e R s m args below meth c cells slots Q A E ρ pc lv (.int i :: .ref (ad E k) :: st) σ := fun H locs ls hP hS hl => by
  subst hq hi
  obtain ⟨i, hi⟩ := ks_at hm
  have he := wl_at ρ σ hi
  unfold en at he
  rw [hk] at he
  have hb : al k < 2 ^ 31 := al_lt k
  have h0 := kk H locs ls hP hS hl
  rw [← nI_clamp (Nat.lt_trans hj hb)] at h0
  exact va_zald cx.1.1 cx.1.2.1 cx.2.1.1 hP i 1 he rfl (vp_in_nI hj hb) hd h0
theorem A_iastore (cx : Cx p s m args c E A own cc nL Ts) {k : Ky} {j : Nat} {i x : Int32} (hd : decode cc pc = .ok (.iastore, 1)) (hk : kc k = 9) (hm : k ∈ ks E) (hi : i = nI j) (hj : j < al k) (hq : pc + 1 = q) (kk : AW p l e R s m args below meth c cells slots Q A E ρ q lv st (up2 σ k j x)) : AW p l e R s m args below meth c cells slots Q A E ρ pc lv (.int x :: .int i :: .ref (ad E k) :: st) σ := fun H locs ls hP hS hl => by
  subst hq hi
  obtain ⟨i, hi⟩ := ks_at hm
  have he := wl_at ρ σ hi
  unfold en at he
  rw [hk] at he
  have hb : al k < 2 ^ 31 := al_lt k
  refine va_iast cx.1.1 cx.1.2.1 cx.2.1.1 hP (wl_D cx.2.2.1 cx.2.2.2 ρ σ) hS i 0 he rfl (vp_in_nI hj hb) hd (fun H1 locs1 hP1 _ hS1 => ?_)
  rw [nI_clamp (Nat.lt_trans hj hb)] at hP1
  have hx : en E ρ (up2 σ k j x) k = .inl (E.2.1 0, al k, .inl (upd (σ k) j x)) := by unfold en; rw [hk, up2_row]; rfl
  rw [← hx, wl_set ρ cx.2.2.1.1 hi (fun k' h' => en_nk E ρ σ k j x h')] at hP1
  exact kk H1 locs1 ls hP1 hS1 hl
theorem A_bastore (cx : Cx p s m args c E A own cc nL Ts) {k : Ky} {j : Nat} {i x : Int32} (hd : decode cc pc = .ok (.bastore, 1)) (hk : kc k = 10) (hm : k ∈ ks E) (hi : i = nI j) (hj : j < al k) (hz : x = 0 ∨ x = 1) (hq : pc + 1 = q) (kk : AW p l e R s m args below meth c cells slots Q A E ρ q lv st (up2 σ k j x)) : AW p l e R s m args below meth c cells slots Q A E ρ pc lv (.int x :: .int i :: .ref (ad E k) :: st) σ := fun H locs ls hP hS hl => by
  subst hq hi
  obtain ⟨i, hi⟩ := ks_at hm
  have he := wl_at ρ σ hi
  unfold en at he
  rw [hk] at he
  have hb : al k < 2 ^ 31 := al_lt k
  have hv : vp_nar .boolean x = x := by rcases hz with rfl | rfl <;> decide
  refine va_zast cx.1.1 cx.1.2.1 cx.2.1.1 hP (wl_D cx.2.2.1 cx.2.2.2 ρ σ) hS i 1 he rfl (vp_in_nI hj hb) hd (fun H1 locs1 hP1 _ hS1 => ?_)
  rw [nI_clamp (Nat.lt_trans hj hb), hv] at hP1
  have hx : en E ρ (up2 σ k j x) k = .inl (E.2.1 1, al k, .inl (upd (σ k) j x)) := by unfold en; rw [hk, up2_row]; rfl
  rw [← hx, wl_set ρ cx.2.2.1.1 hi (fun k' h' => en_nk E ρ σ k j x h')] at hP1
  exact kk H1 locs1 ls hP1 hS1 hl
theorem A_aaload11 (cx : Cx p s m args c E A own cc nL Ts) {k t : Ky} {j : Nat} {i : Int32} (hd : decode cc pc = .ok (.aaload, 1)) (hk : kc k = 11) (hm : k ∈ ks E) (hi : i = nI j) (hj : j < al k) (ht : ρ k j = some t) (hq : pc + 1 = q) (kk : AW p l e R s m args below meth c cells slots Q A E ρ q lv (.ref (ad E t) :: st) σ) : AW p l e R s m args below meth c cells slots Q A E ρ pc lv (.int i :: .ref (ad E k) :: st) σ := fun H locs ls hP hS hl => by
  subst hq hi
  obtain ⟨i, hi⟩ := ks_at hm
  have he := wl_at ρ σ hi
  unfold en at he
  rw [hk] at he
  have hb : al k < 2 ^ 31 := al_lt k
  have h0 := kk H locs ls hP hS hl
  have hv : va_rf ((fun i => (ρ k i).map (ad E)) (nI j).toNatClampNeg) = .ref (ad E t) := by rw [nI_clamp (Nat.lt_trans hj hb)]; show va_rf ((ρ k j).map (ad E)) = _; rw [ht]; rfl
  rw [← hv] at h0
  exact va_aldq cx.1.1 cx.1.2.1 cx.2.1.1 hP i 2 he rfl (vp_in_nI hj hb) hd h0
theorem A_aaload12 (cx : Cx p s m args c E A own cc nL Ts) {k t : Ky} {j : Nat} {i : Int32} (hd : decode cc pc = .ok (.aaload, 1)) (hk : kc k = 12) (hm : k ∈ ks E) (hi : i = nI j) (hj : j < al k) (ht : ρ k j = some t) (hq : pc + 1 = q) (kk : AW p l e R s m args below meth c cells slots Q A E ρ q lv (.ref (ad E t) :: st) σ) : AW p l e R s m args below meth c cells slots Q A E ρ pc lv (.int i :: .ref (ad E k) :: st) σ := fun H locs ls hP hS hl => by
  subst hq hi
  obtain ⟨i, hi⟩ := ks_at hm
  have he := wl_at ρ σ hi
  unfold en at he
  rw [hk] at he
  have hb : al k < 2 ^ 31 := al_lt k
  have h0 := kk H locs ls hP hS hl
  have hv : va_rf ((fun i => (ρ k i).map (ad E)) (nI j).toNatClampNeg) = .ref (ad E t) := by rw [nI_clamp (Nat.lt_trans hj hb)]; show va_rf ((ρ k j).map (ad E)) = _; rw [ht]; rfl
  rw [← hv] at h0
  exact va_aldq cx.1.1 cx.1.2.1 cx.2.1.1 hP i 3 he rfl (vp_in_nI hj hb) hd h0
theorem A_aaload13 (cx : Cx p s m args c E A own cc nL Ts) {k t : Ky} {j : Nat} {i : Int32} (hd : decode cc pc = .ok (.aaload, 1)) (hk : kc k = 13) (hm : k ∈ ks E) (hi : i = nI j) (hj : j < al k) (ht : ρ k j = some t) (hq : pc + 1 = q) (kk : AW p l e R s m args below meth c cells slots Q A E ρ q lv (.ref (ad E t) :: st) σ) : AW p l e R s m args below meth c cells slots Q A E ρ pc lv (.int i :: .ref (ad E k) :: st) σ := fun H locs ls hP hS hl => by
  subst hq hi
  obtain ⟨i, hi⟩ := ks_at hm
  have he := wl_at ρ σ hi
  unfold en at he
  rw [hk] at he
  have hb : al k < 2 ^ 31 := al_lt k
  have h0 := kk H locs ls hP hS hl
  have hv : va_rf ((fun i => (ρ k i).map (ad E)) (nI j).toNatClampNeg) = .ref (ad E t) := by rw [nI_clamp (Nat.lt_trans hj hb)]; show va_rf ((ρ k j).map (ad E)) = _; rw [ht]; rfl
  rw [← hv] at h0
  exact va_aldq cx.1.1 cx.1.2.1 cx.2.1.1 hP i 4 he rfl (vp_in_nI hj hb) hd h0
theorem gX0_0 (cx : Cx p s m args c E A own cc nL Ts) {k : Ky} {idx : Nat} (hin : ∀ w ∈ u_ws RX0 TX0 4, w ∈ Ts) (hf : Cond.fieldLink own idx (TX0 0).1 (TX0 0).2.1 (TX0 0).2.2.1 ∈ Ts) (hd : decode cc pc = .ok (.getfield idx, 3)) (hk : kc k = 0) (hm : k ∈ ks E) (hq : pc + 3 = q) (kk : AW p l e R s m args below meth c cells slots Q A E ρ q lv (.int (σ k 0) :: st) σ) : AW p l e R s m args below meth c cells slots Q A E ρ pc lv (.ref (ad E k) :: st) σ := fun H locs ls hP hS hl => by
  subst hq
  obtain ⟨i, hi⟩ := ks_at hm
  have he := wl_at ρ σ hi
  unfold en at he
  rw [hk] at he
  exact va_get (T := TX0) (N := 4) (ci := 0) cx.1.1 cx.1.2.1 cx.1.2.2.2.2 hin cx.1.2.2.2.1 cx.2.1.1 hP i he rfl 0 (by decide) (cx.1.2.2.2.2 _ hf) (fun _ h => h) rfl hd (kk H locs ls hP hS hl)
theorem gX0_1 (cx : Cx p s m args c E A own cc nL Ts) {k : Ky} {idx : Nat} (hin : ∀ w ∈ u_ws RX0 TX0 4, w ∈ Ts) (hf : Cond.fieldLink own idx (TX0 1).1 (TX0 1).2.1 (TX0 1).2.2.1 ∈ Ts) (hd : decode cc pc = .ok (.getfield idx, 3)) (hk : kc k = 0) (hm : k ∈ ks E) (hq : pc + 3 = q) (kk : AW p l e R s m args below meth c cells slots Q A E ρ q lv (.int (σ k 1) :: st) σ) : AW p l e R s m args below meth c cells slots Q A E ρ pc lv (.ref (ad E k) :: st) σ := fun H locs ls hP hS hl => by
  subst hq
  obtain ⟨i, hi⟩ := ks_at hm
  have he := wl_at ρ σ hi
  unfold en at he
  rw [hk] at he
  exact va_get (T := TX0) (N := 4) (ci := 0) cx.1.1 cx.1.2.1 cx.1.2.2.2.2 hin cx.1.2.2.2.1 cx.2.1.1 hP i he rfl 1 (by decide) (cx.1.2.2.2.2 _ hf) (fun _ h => h) rfl hd (kk H locs ls hP hS hl)
theorem pX0_1 (cx : Cx p s m args c E A own cc nL Ts) {k : Ky} {idx : Nat} {x : Int32} (hin : ∀ w ∈ u_ws RX0 TX0 4, w ∈ Ts) (hf : Cond.fieldLink own idx (TX0 1).1 (TX0 1).2.1 (TX0 1).2.2.1 ∈ Ts) (hd : decode cc pc = .ok (.putfield idx, 3)) (hk : kc k = 0) (hm : k ∈ ks E) (hq : pc + 3 = q) (kk : AW p l e R s m args below meth c cells slots Q A E ρ q lv st (up2 σ k 1 x)) : AW p l e R s m args below meth c cells slots Q A E ρ pc lv (.int x :: .ref (ad E k) :: st) σ := fun H locs ls hP hS hl => by
  subst hq
  obtain ⟨i, hi⟩ := ks_at hm
  have he := wl_at ρ σ hi
  unfold en at he
  rw [hk] at he
  refine va_put (T := TX0) (N := 4) (ci := 0) cx.1.1 cx.1.2.1 cx.1.2.2.2.2 hin tyX0 tyX0_ok nmX0 cx.1.2.2.2.1 cx.2.1.1 hP (wl_D cx.2.2.1 cx.2.2.2 ρ σ) hS i he rfl 1 (by decide) (cx.1.2.2.2.2 _ hf) (fun _ h => h) rfl (ty := .int) (by decide +kernel) rfl rfl (Nat.le_of_ble_eq_true rfl) hd (fun H1 locs1 hP1 _ hS1 => ?_)
  have hx : en E ρ (up2 σ k 1 x) k = .inr (0, [.int (σ k 0), .int x, rv E (ρ k 2), rv E (ρ k 3)]) := by unfold en; rw [hk, up2_row]; simp [ec, upd]
  have hP2 : va_P E.1 vwCl ((wl E ρ σ).set i (ad E k, .inr (0, [.int (σ k 0), .int x, rv E (ρ k 2), rv E (ρ k 3)]))) H1 := hP1
  rw [← hx, wl_set ρ cx.2.2.1.1 hi (fun k' h' => en_nk E ρ σ k 1 x h')] at hP2
  exact kk H1 locs1 ls hP2 hS1 hl
theorem gX0_2 (cx : Cx p s m args c E A own cc nL Ts) {k t : Ky} {idx : Nat} (hin : ∀ w ∈ u_ws RX0 TX0 4, w ∈ Ts) (hf : Cond.fieldLink own idx (TX0 2).1 (TX0 2).2.1 (TX0 2).2.2.1 ∈ Ts) (hd : decode cc pc = .ok (.getfield idx, 3)) (hk : kc k = 0) (hm : k ∈ ks E) (ht : ρ k 2 = some t) (hq : pc + 3 = q) (kk : AW p l e R s m args below meth c cells slots Q A E ρ q lv (.ref (ad E t) :: st) σ) : AW p l e R s m args below meth c cells slots Q A E ρ pc lv (.ref (ad E k) :: st) σ := fun H locs ls hP hS hl => by
  subst hq
  obtain ⟨i, hi⟩ := ks_at hm
  have he := wl_at ρ σ hi
  unfold en at he
  rw [hk] at he
  have h0 := kk H locs ls hP hS hl
  have hv : rv E (ρ k 2) = .ref (ad E t) := by rw [ht]; rfl
  rw [← hv] at h0
  exact va_get (T := TX0) (N := 4) (ci := 0) cx.1.1 cx.1.2.1 cx.1.2.2.2.2 hin cx.1.2.2.2.1 cx.2.1.1 hP i he rfl 2 (by decide) (cx.1.2.2.2.2 _ hf) (fun _ h => h) rfl hd h0
theorem gX0_3 (cx : Cx p s m args c E A own cc nL Ts) {k t : Ky} {idx : Nat} (hin : ∀ w ∈ u_ws RX0 TX0 4, w ∈ Ts) (hf : Cond.fieldLink own idx (TX0 3).1 (TX0 3).2.1 (TX0 3).2.2.1 ∈ Ts) (hd : decode cc pc = .ok (.getfield idx, 3)) (hk : kc k = 0) (hm : k ∈ ks E) (ht : ρ k 3 = some t) (hq : pc + 3 = q) (kk : AW p l e R s m args below meth c cells slots Q A E ρ q lv (.ref (ad E t) :: st) σ) : AW p l e R s m args below meth c cells slots Q A E ρ pc lv (.ref (ad E k) :: st) σ := fun H locs ls hP hS hl => by
  subst hq
  obtain ⟨i, hi⟩ := ks_at hm
  have he := wl_at ρ σ hi
  unfold en at he
  rw [hk] at he
  have h0 := kk H locs ls hP hS hl
  have hv : rv E (ρ k 3) = .ref (ad E t) := by rw [ht]; rfl
  rw [← hv] at h0
  exact va_get (T := TX0) (N := 4) (ci := 0) cx.1.1 cx.1.2.1 cx.1.2.2.2.2 hin cx.1.2.2.2.1 cx.2.1.1 hP i he rfl 3 (by decide) (cx.1.2.2.2.2 _ hf) (fun _ h => h) rfl hd h0
theorem gX1_0 (cx : Cx p s m args c E A own cc nL Ts) {k : Ky} {idx : Nat} (hin : ∀ w ∈ u_ws RX1 TX1 2, w ∈ Ts) (hf : Cond.fieldLink own idx (TX1 0).1 (TX1 0).2.1 (TX1 0).2.2.1 ∈ Ts) (hd : decode cc pc = .ok (.getfield idx, 3)) (hk : kc k = 1) (hm : k ∈ ks E) (hq : pc + 3 = q) (kk : AW p l e R s m args below meth c cells slots Q A E ρ q lv (.int (σ k 0) :: st) σ) : AW p l e R s m args below meth c cells slots Q A E ρ pc lv (.ref (ad E k) :: st) σ := fun H locs ls hP hS hl => by
  subst hq
  obtain ⟨i, hi⟩ := ks_at hm
  have he := wl_at ρ σ hi
  unfold en at he
  rw [hk] at he
  exact va_get (T := TX1) (N := 2) (ci := 1) cx.1.1 cx.1.2.1 cx.1.2.2.2.2 hin cx.1.2.2.2.1 cx.2.1.1 hP i he rfl 0 (by decide) (cx.1.2.2.2.2 _ hf) (fun _ h => h) rfl hd (kk H locs ls hP hS hl)
theorem pX1_0 (cx : Cx p s m args c E A own cc nL Ts) {k : Ky} {idx : Nat} {x : Int32} (hin : ∀ w ∈ u_ws RX1 TX1 2, w ∈ Ts) (hf : Cond.fieldLink own idx (TX1 0).1 (TX1 0).2.1 (TX1 0).2.2.1 ∈ Ts) (hd : decode cc pc = .ok (.putfield idx, 3)) (hk : kc k = 1) (hm : k ∈ ks E) (hq : pc + 3 = q) (kk : AW p l e R s m args below meth c cells slots Q A E ρ q lv st (up2 σ k 0 x)) : AW p l e R s m args below meth c cells slots Q A E ρ pc lv (.int x :: .ref (ad E k) :: st) σ := fun H locs ls hP hS hl => by
  subst hq
  obtain ⟨i, hi⟩ := ks_at hm
  have he := wl_at ρ σ hi
  unfold en at he
  rw [hk] at he
  refine va_put (T := TX1) (N := 2) (ci := 1) cx.1.1 cx.1.2.1 cx.1.2.2.2.2 hin tyX1 tyX1_ok nmX1 cx.1.2.2.2.1 cx.2.1.1 hP (wl_D cx.2.2.1 cx.2.2.2 ρ σ) hS i he rfl 0 (by decide) (cx.1.2.2.2.2 _ hf) (fun _ h => h) rfl (ty := .int) (by decide +kernel) rfl rfl (Nat.le_of_ble_eq_true rfl) hd (fun H1 locs1 hP1 _ hS1 => ?_)
  have hx : en E ρ (up2 σ k 0 x) k = .inr (1, [.int x, .int (σ k 1)]) := by unfold en; rw [hk, up2_row]; simp [ec, upd]
  have hP2 : va_P E.1 vwCl ((wl E ρ σ).set i (ad E k, .inr (1, [.int x, .int (σ k 1)]))) H1 := hP1
  rw [← hx, wl_set ρ cx.2.2.1.1 hi (fun k' h' => en_nk E ρ σ k 0 x h')] at hP2
  exact kk H1 locs1 ls hP2 hS1 hl
theorem gX1_1 (cx : Cx p s m args c E A own cc nL Ts) {k : Ky} {idx : Nat} (hin : ∀ w ∈ u_ws RX1 TX1 2, w ∈ Ts) (hf : Cond.fieldLink own idx (TX1 1).1 (TX1 1).2.1 (TX1 1).2.2.1 ∈ Ts) (hd : decode cc pc = .ok (.getfield idx, 3)) (hk : kc k = 1) (hm : k ∈ ks E) (hq : pc + 3 = q) (kk : AW p l e R s m args below meth c cells slots Q A E ρ q lv (.int (σ k 1) :: st) σ) : AW p l e R s m args below meth c cells slots Q A E ρ pc lv (.ref (ad E k) :: st) σ := fun H locs ls hP hS hl => by
  subst hq
  obtain ⟨i, hi⟩ := ks_at hm
  have he := wl_at ρ σ hi
  unfold en at he
  rw [hk] at he
  exact va_get (T := TX1) (N := 2) (ci := 1) cx.1.1 cx.1.2.1 cx.1.2.2.2.2 hin cx.1.2.2.2.1 cx.2.1.1 hP i he rfl 1 (by decide) (cx.1.2.2.2.2 _ hf) (fun _ h => h) rfl hd (kk H locs ls hP hS hl)
theorem pX1_1 (cx : Cx p s m args c E A own cc nL Ts) {k : Ky} {idx : Nat} {x : Int32} (hin : ∀ w ∈ u_ws RX1 TX1 2, w ∈ Ts) (hf : Cond.fieldLink own idx (TX1 1).1 (TX1 1).2.1 (TX1 1).2.2.1 ∈ Ts) (hd : decode cc pc = .ok (.putfield idx, 3)) (hk : kc k = 1) (hm : k ∈ ks E) (hq : pc + 3 = q) (kk : AW p l e R s m args below meth c cells slots Q A E ρ q lv st (up2 σ k 1 x)) : AW p l e R s m args below meth c cells slots Q A E ρ pc lv (.int x :: .ref (ad E k) :: st) σ := fun H locs ls hP hS hl => by
  subst hq
  obtain ⟨i, hi⟩ := ks_at hm
  have he := wl_at ρ σ hi
  unfold en at he
  rw [hk] at he
  refine va_put (T := TX1) (N := 2) (ci := 1) cx.1.1 cx.1.2.1 cx.1.2.2.2.2 hin tyX1 tyX1_ok nmX1 cx.1.2.2.2.1 cx.2.1.1 hP (wl_D cx.2.2.1 cx.2.2.2 ρ σ) hS i he rfl 1 (by decide) (cx.1.2.2.2.2 _ hf) (fun _ h => h) rfl (ty := .int) (by decide +kernel) rfl rfl (Nat.le_of_ble_eq_true rfl) hd (fun H1 locs1 hP1 _ hS1 => ?_)
  have hx : en E ρ (up2 σ k 1 x) k = .inr (1, [.int (σ k 0), .int x]) := by unfold en; rw [hk, up2_row]; simp [ec, upd]
  have hP2 : va_P E.1 vwCl ((wl E ρ σ).set i (ad E k, .inr (1, [.int (σ k 0), .int x]))) H1 := hP1
  rw [← hx, wl_set ρ cx.2.2.1.1 hi (fun k' h' => en_nk E ρ σ k 1 x h')] at hP2
  exact kk H1 locs1 ls hP2 hS1 hl
theorem gX2_0 (cx : Cx p s m args c E A own cc nL Ts) {k t : Ky} {idx : Nat} (hin : ∀ w ∈ u_ws RX2 TX2 3, w ∈ Ts) (hf : Cond.fieldLink own idx (TX2 0).1 (TX2 0).2.1 (TX2 0).2.2.1 ∈ Ts) (hd : decode cc pc = .ok (.getfield idx, 3)) (hk : kc k = 2) (hm : k ∈ ks E) (ht : ρ k 0 = some t) (hq : pc + 3 = q) (kk : AW p l e R s m args below meth c cells slots Q A E ρ q lv (.ref (ad E t) :: st) σ) : AW p l e R s m args below meth c cells slots Q A E ρ pc lv (.ref (ad E k) :: st) σ := fun H locs ls hP hS hl => by
  subst hq
  obtain ⟨i, hi⟩ := ks_at hm
  have he := wl_at ρ σ hi
  unfold en at he
  rw [hk] at he
  have h0 := kk H locs ls hP hS hl
  have hv : rv E (ρ k 0) = .ref (ad E t) := by rw [ht]; rfl
  rw [← hv] at h0
  exact va_get (T := TX2) (N := 3) (ci := 2) cx.1.1 cx.1.2.1 cx.1.2.2.2.2 hin cx.1.2.2.2.1 cx.2.1.1 hP i he rfl 0 (by decide) (cx.1.2.2.2.2 _ hf) (fun _ h => h) rfl hd h0
theorem gX2_1 (cx : Cx p s m args c E A own cc nL Ts) {k : Ky} {idx : Nat} (hin : ∀ w ∈ u_ws RX2 TX2 3, w ∈ Ts) (hf : Cond.fieldLink own idx (TX2 1).1 (TX2 1).2.1 (TX2 1).2.2.1 ∈ Ts) (hd : decode cc pc = .ok (.getfield idx, 3)) (hk : kc k = 2) (hm : k ∈ ks E) (hq : pc + 3 = q) (kk : AW p l e R s m args below meth c cells slots Q A E ρ q lv (.int (σ k 1) :: st) σ) : AW p l e R s m args below meth c cells slots Q A E ρ pc lv (.ref (ad E k) :: st) σ := fun H locs ls hP hS hl => by
  subst hq
  obtain ⟨i, hi⟩ := ks_at hm
  have he := wl_at ρ σ hi
  unfold en at he
  rw [hk] at he
  exact va_get (T := TX2) (N := 3) (ci := 2) cx.1.1 cx.1.2.1 cx.1.2.2.2.2 hin cx.1.2.2.2.1 cx.2.1.1 hP i he rfl 1 (by decide) (cx.1.2.2.2.2 _ hf) (fun _ h => h) rfl hd (kk H locs ls hP hS hl)
theorem pX2_1 (cx : Cx p s m args c E A own cc nL Ts) {k : Ky} {idx : Nat} {x : Int32} (hin : ∀ w ∈ u_ws RX2 TX2 3, w ∈ Ts) (hf : Cond.fieldLink own idx (TX2 1).1 (TX2 1).2.1 (TX2 1).2.2.1 ∈ Ts) (hd : decode cc pc = .ok (.putfield idx, 3)) (hk : kc k = 2) (hm : k ∈ ks E) (hq : pc + 3 = q) (kk : AW p l e R s m args below meth c cells slots Q A E ρ q lv st (up2 σ k 1 x)) : AW p l e R s m args below meth c cells slots Q A E ρ pc lv (.int x :: .ref (ad E k) :: st) σ := fun H locs ls hP hS hl => by
  subst hq
  obtain ⟨i, hi⟩ := ks_at hm
  have he := wl_at ρ σ hi
  unfold en at he
  rw [hk] at he
  refine va_put (T := TX2) (N := 3) (ci := 2) cx.1.1 cx.1.2.1 cx.1.2.2.2.2 hin tyX2 tyX2_ok nmX2 cx.1.2.2.2.1 cx.2.1.1 hP (wl_D cx.2.2.1 cx.2.2.2 ρ σ) hS i he rfl 1 (by decide) (cx.1.2.2.2.2 _ hf) (fun _ h => h) rfl (ty := .int) (by decide +kernel) rfl rfl (Nat.le_of_ble_eq_true rfl) hd (fun H1 locs1 hP1 _ hS1 => ?_)
  have hx : en E ρ (up2 σ k 1 x) k = .inr (2, [rv E (ρ k 0), .int x, .int (σ k 2)]) := by unfold en; rw [hk, up2_row]; simp [ec, upd]
  have hP2 : va_P E.1 vwCl ((wl E ρ σ).set i (ad E k, .inr (2, [rv E (ρ k 0), .int x, .int (σ k 2)]))) H1 := hP1
  rw [← hx, wl_set ρ cx.2.2.1.1 hi (fun k' h' => en_nk E ρ σ k 1 x h')] at hP2
  exact kk H1 locs1 ls hP2 hS1 hl
theorem gX2_2 (cx : Cx p s m args c E A own cc nL Ts) {k : Ky} {idx : Nat} (hin : ∀ w ∈ u_ws RX2 TX2 3, w ∈ Ts) (hf : Cond.fieldLink own idx (TX2 2).1 (TX2 2).2.1 (TX2 2).2.2.1 ∈ Ts) (hd : decode cc pc = .ok (.getfield idx, 3)) (hk : kc k = 2) (hm : k ∈ ks E) (hq : pc + 3 = q) (kk : AW p l e R s m args below meth c cells slots Q A E ρ q lv (.int (σ k 2) :: st) σ) : AW p l e R s m args below meth c cells slots Q A E ρ pc lv (.ref (ad E k) :: st) σ := fun H locs ls hP hS hl => by
  subst hq
  obtain ⟨i, hi⟩ := ks_at hm
  have he := wl_at ρ σ hi
  unfold en at he
  rw [hk] at he
  exact va_get (T := TX2) (N := 3) (ci := 2) cx.1.1 cx.1.2.1 cx.1.2.2.2.2 hin cx.1.2.2.2.1 cx.2.1.1 hP i he rfl 2 (by decide) (cx.1.2.2.2.2 _ hf) (fun _ h => h) rfl hd (kk H locs ls hP hS hl)
theorem pX2_2 (cx : Cx p s m args c E A own cc nL Ts) {k : Ky} {idx : Nat} {x : Int32} (hin : ∀ w ∈ u_ws RX2 TX2 3, w ∈ Ts) (hf : Cond.fieldLink own idx (TX2 2).1 (TX2 2).2.1 (TX2 2).2.2.1 ∈ Ts) (hd : decode cc pc = .ok (.putfield idx, 3)) (hk : kc k = 2) (hm : k ∈ ks E) (hq : pc + 3 = q) (kk : AW p l e R s m args below meth c cells slots Q A E ρ q lv st (up2 σ k 2 x)) : AW p l e R s m args below meth c cells slots Q A E ρ pc lv (.int x :: .ref (ad E k) :: st) σ := fun H locs ls hP hS hl => by
  subst hq
  obtain ⟨i, hi⟩ := ks_at hm
  have he := wl_at ρ σ hi
  unfold en at he
  rw [hk] at he
  refine va_put (T := TX2) (N := 3) (ci := 2) cx.1.1 cx.1.2.1 cx.1.2.2.2.2 hin tyX2 tyX2_ok nmX2 cx.1.2.2.2.1 cx.2.1.1 hP (wl_D cx.2.2.1 cx.2.2.2 ρ σ) hS i he rfl 2 (by decide) (cx.1.2.2.2.2 _ hf) (fun _ h => h) rfl (ty := .int) (by decide +kernel) rfl rfl (Nat.le_of_ble_eq_true rfl) hd (fun H1 locs1 hP1 _ hS1 => ?_)
  have hx : en E ρ (up2 σ k 2 x) k = .inr (2, [rv E (ρ k 0), .int (σ k 1), .int x]) := by unfold en; rw [hk, up2_row]; simp [ec, upd]
  have hP2 : va_P E.1 vwCl ((wl E ρ σ).set i (ad E k, .inr (2, [rv E (ρ k 0), .int (σ k 1), .int x]))) H1 := hP1
  rw [← hx, wl_set ρ cx.2.2.1.1 hi (fun k' h' => en_nk E ρ σ k 2 x h')] at hP2
  exact kk H1 locs1 ls hP2 hS1 hl
theorem gX3_0 (cx : Cx p s m args c E A own cc nL Ts) {k : Ky} {idx : Nat} (hin : ∀ w ∈ u_ws RX3 TX3 5, w ∈ Ts) (hf : Cond.fieldLink own idx (TX3 0).1 (TX3 0).2.1 (TX3 0).2.2.1 ∈ Ts) (hd : decode cc pc = .ok (.getfield idx, 3)) (hk : kc k = 3) (hm : k ∈ ks E) (hq : pc + 3 = q) (kk : AW p l e R s m args below meth c cells slots Q A E ρ q lv (.int (b01 (σ k 0)) :: st) σ) : AW p l e R s m args below meth c cells slots Q A E ρ pc lv (.ref (ad E k) :: st) σ := fun H locs ls hP hS hl => by
  subst hq
  obtain ⟨i, hi⟩ := ks_at hm
  have he := wl_at ρ σ hi
  unfold en at he
  rw [hk] at he
  exact va_get (T := TX3) (N := 5) (ci := 3) cx.1.1 cx.1.2.1 cx.1.2.2.2.2 hin cx.1.2.2.2.1 cx.2.1.1 hP i he rfl 0 (by decide) (cx.1.2.2.2.2 _ hf) (fun _ h => h) rfl hd (kk H locs ls hP hS hl)
theorem pX3_0 (cx : Cx p s m args c E A own cc nL Ts) {k : Ky} {idx : Nat} {x : Int32} (hin : ∀ w ∈ u_ws RX3 TX3 5, w ∈ Ts) (hf : Cond.fieldLink own idx (TX3 0).1 (TX3 0).2.1 (TX3 0).2.2.1 ∈ Ts) (hd : decode cc pc = .ok (.putfield idx, 3)) (hk : kc k = 3) (hm : k ∈ ks E) (hz : x = 0 ∨ x = 1) (hq : pc + 3 = q) (kk : AW p l e R s m args below meth c cells slots Q A E ρ q lv st (up2 σ k 0 x)) : AW p l e R s m args below meth c cells slots Q A E ρ pc lv (.int x :: .ref (ad E k) :: st) σ := fun H locs ls hP hS hl => by
  subst hq
  obtain ⟨i, hi⟩ := ks_at hm
  have he := wl_at ρ σ hi
  unfold en at he
  rw [hk] at he
  refine va_put (T := TX3) (N := 5) (ci := 3) cx.1.1 cx.1.2.1 cx.1.2.2.2.2 hin tyX3 tyX3_ok nmX3 cx.1.2.2.2.1 cx.2.1.1 hP (wl_D cx.2.2.1 cx.2.2.2 ρ σ) hS i he rfl 0 (by decide) (cx.1.2.2.2.2 _ hf) (fun _ h => h) rfl (ty := .boolean) (by decide +kernel) (by rcases hz with rfl | rfl <;> rfl) (by rcases hz with rfl | rfl <;> rfl) (Nat.le_of_ble_eq_true rfl) hd (fun H1 locs1 hP1 _ hS1 => ?_)
  have hx : en E ρ (up2 σ k 0 x) k = .inr (3, [.int x, .int (σ k 1), .int (σ k 2), .int (σ k 3), .int (b01 (σ k 4))]) := by unfold en; rw [hk, up2_row]; simp [ec, upd, b01_of hz]
  have hP2 : va_P E.1 vwCl ((wl E ρ σ).set i (ad E k, .inr (3, [.int x, .int (σ k 1), .int (σ k 2), .int (σ k 3), .int (b01 (σ k 4))]))) H1 := hP1
  rw [← hx, wl_set ρ cx.2.2.1.1 hi (fun k' h' => en_nk E ρ σ k 0 x h')] at hP2
  exact kk H1 locs1 ls hP2 hS1 hl
theorem gX3_1 (cx : Cx p s m args c E A own cc nL Ts) {k : Ky} {idx : Nat} (hin : ∀ w ∈ u_ws RX3 TX3 5, w ∈ Ts) (hf : Cond.fieldLink own idx (TX3 1).1 (TX3 1).2.1 (TX3 1).2.2.1 ∈ Ts) (hd : decode cc pc = .ok (.getfield idx, 3)) (hk : kc k = 3) (hm : k ∈ ks E) (hq : pc + 3 = q) (kk : AW p l e R s m args below meth c cells slots Q A E ρ q lv (.int (σ k 1) :: st) σ) : AW p l e R s m args below meth c cells slots Q A E ρ pc lv (.ref (ad E k) :: st) σ := fun H locs ls hP hS hl => by
  subst hq
  obtain ⟨i, hi⟩ := ks_at hm
  have he := wl_at ρ σ hi
  unfold en at he
  rw [hk] at he
  exact va_get (T := TX3) (N := 5) (ci := 3) cx.1.1 cx.1.2.1 cx.1.2.2.2.2 hin cx.1.2.2.2.1 cx.2.1.1 hP i he rfl 1 (by decide) (cx.1.2.2.2.2 _ hf) (fun _ h => h) rfl hd (kk H locs ls hP hS hl)
theorem pX3_1 (cx : Cx p s m args c E A own cc nL Ts) {k : Ky} {idx : Nat} {x : Int32} (hin : ∀ w ∈ u_ws RX3 TX3 5, w ∈ Ts) (hf : Cond.fieldLink own idx (TX3 1).1 (TX3 1).2.1 (TX3 1).2.2.1 ∈ Ts) (hd : decode cc pc = .ok (.putfield idx, 3)) (hk : kc k = 3) (hm : k ∈ ks E) (hq : pc + 3 = q) (kk : AW p l e R s m args below meth c cells slots Q A E ρ q lv st (up2 σ k 1 x)) : AW p l e R s m args below meth c cells slots Q A E ρ pc lv (.int x :: .ref (ad E k) :: st) σ := fun H locs ls hP hS hl => by
  subst hq
  obtain ⟨i, hi⟩ := ks_at hm
  have he := wl_at ρ σ hi
  unfold en at he
  rw [hk] at he
  refine va_put (T := TX3) (N := 5) (ci := 3) cx.1.1 cx.1.2.1 cx.1.2.2.2.2 hin tyX3 tyX3_ok nmX3 cx.1.2.2.2.1 cx.2.1.1 hP (wl_D cx.2.2.1 cx.2.2.2 ρ σ) hS i he rfl 1 (by decide) (cx.1.2.2.2.2 _ hf) (fun _ h => h) rfl (ty := .int) (by decide +kernel) rfl rfl (Nat.le_of_ble_eq_true rfl) hd (fun H1 locs1 hP1 _ hS1 => ?_)
  have hx : en E ρ (up2 σ k 1 x) k = .inr (3, [.int (b01 (σ k 0)), .int x, .int (σ k 2), .int (σ k 3), .int (b01 (σ k 4))]) := by unfold en; rw [hk, up2_row]; simp [ec, upd]
  have hP2 : va_P E.1 vwCl ((wl E ρ σ).set i (ad E k, .inr (3, [.int (b01 (σ k 0)), .int x, .int (σ k 2), .int (σ k 3), .int (b01 (σ k 4))]))) H1 := hP1
  rw [← hx, wl_set ρ cx.2.2.1.1 hi (fun k' h' => en_nk E ρ σ k 1 x h')] at hP2
  exact kk H1 locs1 ls hP2 hS1 hl
theorem gX3_2 (cx : Cx p s m args c E A own cc nL Ts) {k : Ky} {idx : Nat} (hin : ∀ w ∈ u_ws RX3 TX3 5, w ∈ Ts) (hf : Cond.fieldLink own idx (TX3 2).1 (TX3 2).2.1 (TX3 2).2.2.1 ∈ Ts) (hd : decode cc pc = .ok (.getfield idx, 3)) (hk : kc k = 3) (hm : k ∈ ks E) (hq : pc + 3 = q) (kk : AW p l e R s m args below meth c cells slots Q A E ρ q lv (.int (σ k 2) :: st) σ) : AW p l e R s m args below meth c cells slots Q A E ρ pc lv (.ref (ad E k) :: st) σ := fun H locs ls hP hS hl => by
  subst hq
  obtain ⟨i, hi⟩ := ks_at hm
  have he := wl_at ρ σ hi
  unfold en at he
  rw [hk] at he
  exact va_get (T := TX3) (N := 5) (ci := 3) cx.1.1 cx.1.2.1 cx.1.2.2.2.2 hin cx.1.2.2.2.1 cx.2.1.1 hP i he rfl 2 (by decide) (cx.1.2.2.2.2 _ hf) (fun _ h => h) rfl hd (kk H locs ls hP hS hl)
theorem pX3_2 (cx : Cx p s m args c E A own cc nL Ts) {k : Ky} {idx : Nat} {x : Int32} (hin : ∀ w ∈ u_ws RX3 TX3 5, w ∈ Ts) (hf : Cond.fieldLink own idx (TX3 2).1 (TX3 2).2.1 (TX3 2).2.2.1 ∈ Ts) (hd : decode cc pc = .ok (.putfield idx, 3)) (hk : kc k = 3) (hm : k ∈ ks E) (hq : pc + 3 = q) (kk : AW p l e R s m args below meth c cells slots Q A E ρ q lv st (up2 σ k 2 x)) : AW p l e R s m args below meth c cells slots Q A E ρ pc lv (.int x :: .ref (ad E k) :: st) σ := fun H locs ls hP hS hl => by
  subst hq
  obtain ⟨i, hi⟩ := ks_at hm
  have he := wl_at ρ σ hi
  unfold en at he
  rw [hk] at he
  refine va_put (T := TX3) (N := 5) (ci := 3) cx.1.1 cx.1.2.1 cx.1.2.2.2.2 hin tyX3 tyX3_ok nmX3 cx.1.2.2.2.1 cx.2.1.1 hP (wl_D cx.2.2.1 cx.2.2.2 ρ σ) hS i he rfl 2 (by decide) (cx.1.2.2.2.2 _ hf) (fun _ h => h) rfl (ty := .int) (by decide +kernel) rfl rfl (Nat.le_of_ble_eq_true rfl) hd (fun H1 locs1 hP1 _ hS1 => ?_)
  have hx : en E ρ (up2 σ k 2 x) k = .inr (3, [.int (b01 (σ k 0)), .int (σ k 1), .int x, .int (σ k 3), .int (b01 (σ k 4))]) := by unfold en; rw [hk, up2_row]; simp [ec, upd]
  have hP2 : va_P E.1 vwCl ((wl E ρ σ).set i (ad E k, .inr (3, [.int (b01 (σ k 0)), .int (σ k 1), .int x, .int (σ k 3), .int (b01 (σ k 4))]))) H1 := hP1
  rw [← hx, wl_set ρ cx.2.2.1.1 hi (fun k' h' => en_nk E ρ σ k 2 x h')] at hP2
  exact kk H1 locs1 ls hP2 hS1 hl
theorem gX3_3 (cx : Cx p s m args c E A own cc nL Ts) {k : Ky} {idx : Nat} (hin : ∀ w ∈ u_ws RX3 TX3 5, w ∈ Ts) (hf : Cond.fieldLink own idx (TX3 3).1 (TX3 3).2.1 (TX3 3).2.2.1 ∈ Ts) (hd : decode cc pc = .ok (.getfield idx, 3)) (hk : kc k = 3) (hm : k ∈ ks E) (hq : pc + 3 = q) (kk : AW p l e R s m args below meth c cells slots Q A E ρ q lv (.int (σ k 3) :: st) σ) : AW p l e R s m args below meth c cells slots Q A E ρ pc lv (.ref (ad E k) :: st) σ := fun H locs ls hP hS hl => by
  subst hq
  obtain ⟨i, hi⟩ := ks_at hm
  have he := wl_at ρ σ hi
  unfold en at he
  rw [hk] at he
  exact va_get (T := TX3) (N := 5) (ci := 3) cx.1.1 cx.1.2.1 cx.1.2.2.2.2 hin cx.1.2.2.2.1 cx.2.1.1 hP i he rfl 3 (by decide) (cx.1.2.2.2.2 _ hf) (fun _ h => h) rfl hd (kk H locs ls hP hS hl)
theorem pX3_3 (cx : Cx p s m args c E A own cc nL Ts) {k : Ky} {idx : Nat} {x : Int32} (hin : ∀ w ∈ u_ws RX3 TX3 5, w ∈ Ts) (hf : Cond.fieldLink own idx (TX3 3).1 (TX3 3).2.1 (TX3 3).2.2.1 ∈ Ts) (hd : decode cc pc = .ok (.putfield idx, 3)) (hk : kc k = 3) (hm : k ∈ ks E) (hq : pc + 3 = q) (kk : AW p l e R s m args below meth c cells slots Q A E ρ q lv st (up2 σ k 3 x)) : AW p l e R s m args below meth c cells slots Q A E ρ pc lv (.int x :: .ref (ad E k) :: st) σ := fun H locs ls hP hS hl => by
  subst hq
  obtain ⟨i, hi⟩ := ks_at hm
  have he := wl_at ρ σ hi
  unfold en at he
  rw [hk] at he
  refine va_put (T := TX3) (N := 5) (ci := 3) cx.1.1 cx.1.2.1 cx.1.2.2.2.2 hin tyX3 tyX3_ok nmX3 cx.1.2.2.2.1 cx.2.1.1 hP (wl_D cx.2.2.1 cx.2.2.2 ρ σ) hS i he rfl 3 (by decide) (cx.1.2.2.2.2 _ hf) (fun _ h => h) rfl (ty := .int) (by decide +kernel) rfl rfl (Nat.le_of_ble_eq_true rfl) hd (fun H1 locs1 hP1 _ hS1 => ?_)
  have hx : en E ρ (up2 σ k 3 x) k = .inr (3, [.int (b01 (σ k 0)), .int (σ k 1), .int (σ k 2), .int x, .int (b01 (σ k 4))]) := by unfold en; rw [hk, up2_row]; simp [ec, upd]
  have hP2 : va_P E.1 vwCl ((wl E ρ σ).set i (ad E k, .inr (3, [.int (b01 (σ k 0)), .int (σ k 1), .int (σ k 2), .int x, .int (b01 (σ k 4))]))) H1 := hP1
  rw [← hx, wl_set ρ cx.2.2.1.1 hi (fun k' h' => en_nk E ρ σ k 3 x h')] at hP2
  exact kk H1 locs1 ls hP2 hS1 hl
theorem gX3_4 (cx : Cx p s m args c E A own cc nL Ts) {k : Ky} {idx : Nat} (hin : ∀ w ∈ u_ws RX3 TX3 5, w ∈ Ts) (hf : Cond.fieldLink own idx (TX3 4).1 (TX3 4).2.1 (TX3 4).2.2.1 ∈ Ts) (hd : decode cc pc = .ok (.getfield idx, 3)) (hk : kc k = 3) (hm : k ∈ ks E) (hq : pc + 3 = q) (kk : AW p l e R s m args below meth c cells slots Q A E ρ q lv (.int (b01 (σ k 4)) :: st) σ) : AW p l e R s m args below meth c cells slots Q A E ρ pc lv (.ref (ad E k) :: st) σ := fun H locs ls hP hS hl => by
  subst hq
  obtain ⟨i, hi⟩ := ks_at hm
  have he := wl_at ρ σ hi
  unfold en at he
  rw [hk] at he
  exact va_get (T := TX3) (N := 5) (ci := 3) cx.1.1 cx.1.2.1 cx.1.2.2.2.2 hin cx.1.2.2.2.1 cx.2.1.1 hP i he rfl 4 (by decide) (cx.1.2.2.2.2 _ hf) (fun _ h => h) rfl hd (kk H locs ls hP hS hl)
theorem pX3_4 (cx : Cx p s m args c E A own cc nL Ts) {k : Ky} {idx : Nat} {x : Int32} (hin : ∀ w ∈ u_ws RX3 TX3 5, w ∈ Ts) (hf : Cond.fieldLink own idx (TX3 4).1 (TX3 4).2.1 (TX3 4).2.2.1 ∈ Ts) (hd : decode cc pc = .ok (.putfield idx, 3)) (hk : kc k = 3) (hm : k ∈ ks E) (hz : x = 0 ∨ x = 1) (hq : pc + 3 = q) (kk : AW p l e R s m args below meth c cells slots Q A E ρ q lv st (up2 σ k 4 x)) : AW p l e R s m args below meth c cells slots Q A E ρ pc lv (.int x :: .ref (ad E k) :: st) σ := fun H locs ls hP hS hl => by
  subst hq
  obtain ⟨i, hi⟩ := ks_at hm
  have he := wl_at ρ σ hi
  unfold en at he
  rw [hk] at he
  refine va_put (T := TX3) (N := 5) (ci := 3) cx.1.1 cx.1.2.1 cx.1.2.2.2.2 hin tyX3 tyX3_ok nmX3 cx.1.2.2.2.1 cx.2.1.1 hP (wl_D cx.2.2.1 cx.2.2.2 ρ σ) hS i he rfl 4 (by decide) (cx.1.2.2.2.2 _ hf) (fun _ h => h) rfl (ty := .boolean) (by decide +kernel) (by rcases hz with rfl | rfl <;> rfl) (by rcases hz with rfl | rfl <;> rfl) (Nat.le_of_ble_eq_true rfl) hd (fun H1 locs1 hP1 _ hS1 => ?_)
  have hx : en E ρ (up2 σ k 4 x) k = .inr (3, [.int (b01 (σ k 0)), .int (σ k 1), .int (σ k 2), .int (σ k 3), .int x]) := by unfold en; rw [hk, up2_row]; simp [ec, upd, b01_of hz]
  have hP2 : va_P E.1 vwCl ((wl E ρ σ).set i (ad E k, .inr (3, [.int (b01 (σ k 0)), .int (σ k 1), .int (σ k 2), .int (σ k 3), .int x]))) H1 := hP1
  rw [← hx, wl_set ρ cx.2.2.1.1 hi (fun k' h' => en_nk E ρ σ k 4 x h')] at hP2
  exact kk H1 locs1 ls hP2 hS1 hl
theorem gX4_0 (cx : Cx p s m args c E A own cc nL Ts) {k t : Ky} {idx : Nat} (hin : ∀ w ∈ u_ws RX4 TX4 7, w ∈ Ts) (hf : Cond.fieldLink own idx (TX4 0).1 (TX4 0).2.1 (TX4 0).2.2.1 ∈ Ts) (hd : decode cc pc = .ok (.getfield idx, 3)) (hk : kc k = 4) (hm : k ∈ ks E) (ht : ρ k 0 = some t) (hq : pc + 3 = q) (kk : AW p l e R s m args below meth c cells slots Q A E ρ q lv (.ref (ad E t) :: st) σ) : AW p l e R s m args below meth c cells slots Q A E ρ pc lv (.ref (ad E k) :: st) σ := fun H locs ls hP hS hl => by
  subst hq
  obtain ⟨i, hi⟩ := ks_at hm
  have he := wl_at ρ σ hi
  unfold en at he
  rw [hk] at he
  have h0 := kk H locs ls hP hS hl
  have hv : rv E (ρ k 0) = .ref (ad E t) := by rw [ht]; rfl
  rw [← hv] at h0
  exact va_get (T := TX4) (N := 7) (ci := 4) cx.1.1 cx.1.2.1 cx.1.2.2.2.2 hin cx.1.2.2.2.1 cx.2.1.1 hP i he rfl 0 (by decide) (cx.1.2.2.2.2 _ hf) (fun _ h => h) rfl hd h0
theorem gX4_1 (cx : Cx p s m args c E A own cc nL Ts) {k t : Ky} {idx : Nat} (hin : ∀ w ∈ u_ws RX4 TX4 7, w ∈ Ts) (hf : Cond.fieldLink own idx (TX4 1).1 (TX4 1).2.1 (TX4 1).2.2.1 ∈ Ts) (hd : decode cc pc = .ok (.getfield idx, 3)) (hk : kc k = 4) (hm : k ∈ ks E) (ht : ρ k 1 = some t) (hq : pc + 3 = q) (kk : AW p l e R s m args below meth c cells slots Q A E ρ q lv (.ref (ad E t) :: st) σ) : AW p l e R s m args below meth c cells slots Q A E ρ pc lv (.ref (ad E k) :: st) σ := fun H locs ls hP hS hl => by
  subst hq
  obtain ⟨i, hi⟩ := ks_at hm
  have he := wl_at ρ σ hi
  unfold en at he
  rw [hk] at he
  have h0 := kk H locs ls hP hS hl
  have hv : rv E (ρ k 1) = .ref (ad E t) := by rw [ht]; rfl
  rw [← hv] at h0
  exact va_get (T := TX4) (N := 7) (ci := 4) cx.1.1 cx.1.2.1 cx.1.2.2.2.2 hin cx.1.2.2.2.1 cx.2.1.1 hP i he rfl 1 (by decide) (cx.1.2.2.2.2 _ hf) (fun _ h => h) rfl hd h0
theorem gX4_2 (cx : Cx p s m args c E A own cc nL Ts) {k : Ky} {idx : Nat} (hin : ∀ w ∈ u_ws RX4 TX4 7, w ∈ Ts) (hf : Cond.fieldLink own idx (TX4 2).1 (TX4 2).2.1 (TX4 2).2.2.1 ∈ Ts) (hd : decode cc pc = .ok (.getfield idx, 3)) (hk : kc k = 4) (hm : k ∈ ks E) (hq : pc + 3 = q) (kk : AW p l e R s m args below meth c cells slots Q A E ρ q lv (.int (σ k 2) :: st) σ) : AW p l e R s m args below meth c cells slots Q A E ρ pc lv (.ref (ad E k) :: st) σ := fun H locs ls hP hS hl => by
  subst hq
  obtain ⟨i, hi⟩ := ks_at hm
  have he := wl_at ρ σ hi
  unfold en at he
  rw [hk] at he
  exact va_get (T := TX4) (N := 7) (ci := 4) cx.1.1 cx.1.2.1 cx.1.2.2.2.2 hin cx.1.2.2.2.1 cx.2.1.1 hP i he rfl 2 (by decide) (cx.1.2.2.2.2 _ hf) (fun _ h => h) rfl hd (kk H locs ls hP hS hl)
theorem pX4_2 (cx : Cx p s m args c E A own cc nL Ts) {k : Ky} {idx : Nat} {x : Int32} (hin : ∀ w ∈ u_ws RX4 TX4 7, w ∈ Ts) (hf : Cond.fieldLink own idx (TX4 2).1 (TX4 2).2.1 (TX4 2).2.2.1 ∈ Ts) (hd : decode cc pc = .ok (.putfield idx, 3)) (hk : kc k = 4) (hm : k ∈ ks E) (hq : pc + 3 = q) (kk : AW p l e R s m args below meth c cells slots Q A E ρ q lv st (up2 σ k 2 x)) : AW p l e R s m args below meth c cells slots Q A E ρ pc lv (.int x :: .ref (ad E k) :: st) σ := fun H locs ls hP hS hl => by
  subst hq
  obtain ⟨i, hi⟩ := ks_at hm
  have he := wl_at ρ σ hi
  unfold en at he
  rw [hk] at he
  refine va_put (T := TX4) (N := 7) (ci := 4) cx.1.1 cx.1.2.1 cx.1.2.2.2.2 hin tyX4 tyX4_ok nmX4 cx.1.2.2.2.1 cx.2.1.1 hP (wl_D cx.2.2.1 cx.2.2.2 ρ σ) hS i he rfl 2 (by decide) (cx.1.2.2.2.2 _ hf) (fun _ h => h) rfl (ty := .int) (by decide +kernel) rfl rfl (Nat.le_of_ble_eq_true rfl) hd (fun H1 locs1 hP1 _ hS1 => ?_)
  have hx : en E ρ (up2 σ k 2 x) k = .inr (4, [rv E (ρ k 0), rv E (ρ k 1), .int x, .int (σ k 3), .int (σ k 4), .int (σ k 5), .int (σ k 6)]) := by unfold en; rw [hk, up2_row]; simp [ec, upd]
  have hP2 : va_P E.1 vwCl ((wl E ρ σ).set i (ad E k, .inr (4, [rv E (ρ k 0), rv E (ρ k 1), .int x, .int (σ k 3), .int (σ k 4), .int (σ k 5), .int (σ k 6)]))) H1 := hP1
  rw [← hx, wl_set ρ cx.2.2.1.1 hi (fun k' h' => en_nk E ρ σ k 2 x h')] at hP2
  exact kk H1 locs1 ls hP2 hS1 hl
theorem gX4_3 (cx : Cx p s m args c E A own cc nL Ts) {k : Ky} {idx : Nat} (hin : ∀ w ∈ u_ws RX4 TX4 7, w ∈ Ts) (hf : Cond.fieldLink own idx (TX4 3).1 (TX4 3).2.1 (TX4 3).2.2.1 ∈ Ts) (hd : decode cc pc = .ok (.getfield idx, 3)) (hk : kc k = 4) (hm : k ∈ ks E) (hq : pc + 3 = q) (kk : AW p l e R s m args below meth c cells slots Q A E ρ q lv (.int (σ k 3) :: st) σ) : AW p l e R s m args below meth c cells slots Q A E ρ pc lv (.ref (ad E k) :: st) σ := fun H locs ls hP hS hl => by
  subst hq
  obtain ⟨i, hi⟩ := ks_at hm
  have he := wl_at ρ σ hi
  unfold en at he
  rw [hk] at he
  exact va_get (T := TX4) (N := 7) (ci := 4) cx.1.1 cx.1.2.1 cx.1.2.2.2.2 hin cx.1.2.2.2.1 cx.2.1.1 hP i he rfl 3 (by decide) (cx.1.2.2.2.2 _ hf) (fun _ h => h) rfl hd (kk H locs ls hP hS hl)
theorem pX4_3 (cx : Cx p s m args c E A own cc nL Ts) {k : Ky} {idx : Nat} {x : Int32} (hin : ∀ w ∈ u_ws RX4 TX4 7, w ∈ Ts) (hf : Cond.fieldLink own idx (TX4 3).1 (TX4 3).2.1 (TX4 3).2.2.1 ∈ Ts) (hd : decode cc pc = .ok (.putfield idx, 3)) (hk : kc k = 4) (hm : k ∈ ks E) (hq : pc + 3 = q) (kk : AW p l e R s m args below meth c cells slots Q A E ρ q lv st (up2 σ k 3 x)) : AW p l e R s m args below meth c cells slots Q A E ρ pc lv (.int x :: .ref (ad E k) :: st) σ := fun H locs ls hP hS hl => by
  subst hq
  obtain ⟨i, hi⟩ := ks_at hm
  have he := wl_at ρ σ hi
  unfold en at he
  rw [hk] at he
  refine va_put (T := TX4) (N := 7) (ci := 4) cx.1.1 cx.1.2.1 cx.1.2.2.2.2 hin tyX4 tyX4_ok nmX4 cx.1.2.2.2.1 cx.2.1.1 hP (wl_D cx.2.2.1 cx.2.2.2 ρ σ) hS i he rfl 3 (by decide) (cx.1.2.2.2.2 _ hf) (fun _ h => h) rfl (ty := .int) (by decide +kernel) rfl rfl (Nat.le_of_ble_eq_true rfl) hd (fun H1 locs1 hP1 _ hS1 => ?_)
  have hx : en E ρ (up2 σ k 3 x) k = .inr (4, [rv E (ρ k 0), rv E (ρ k 1), .int (σ k 2), .int x, .int (σ k 4), .int (σ k 5), .int (σ k 6)]) := by unfold en; rw [hk, up2_row]; simp [ec, upd]
  have hP2 : va_P E.1 vwCl ((wl E ρ σ).set i (ad E k, .inr (4, [rv E (ρ k 0), rv E (ρ k 1), .int (σ k 2), .int x, .int (σ k 4), .int (σ k 5), .int (σ k 6)]))) H1 := hP1
  rw [← hx, wl_set ρ cx.2.2.1.1 hi (fun k' h' => en_nk E ρ σ k 3 x h')] at hP2
  exact kk H1 locs1 ls hP2 hS1 hl
theorem gX4_4 (cx : Cx p s m args c E A own cc nL Ts) {k : Ky} {idx : Nat} (hin : ∀ w ∈ u_ws RX4 TX4 7, w ∈ Ts) (hf : Cond.fieldLink own idx (TX4 4).1 (TX4 4).2.1 (TX4 4).2.2.1 ∈ Ts) (hd : decode cc pc = .ok (.getfield idx, 3)) (hk : kc k = 4) (hm : k ∈ ks E) (hq : pc + 3 = q) (kk : AW p l e R s m args below meth c cells slots Q A E ρ q lv (.int (σ k 4) :: st) σ) : AW p l e R s m args below meth c cells slots Q A E ρ pc lv (.ref (ad E k) :: st) σ := fun H locs ls hP hS hl => by
  subst hq
  obtain ⟨i, hi⟩ := ks_at hm
  have he := wl_at ρ σ hi
  unfold en at he
  rw [hk] at he
  exact va_get (T := TX4) (N := 7) (ci := 4) cx.1.1 cx.1.2.1 cx.1.2.2.2.2 hin cx.1.2.2.2.1 cx.2.1.1 hP i he rfl 4 (by decide) (cx.1.2.2.2.2 _ hf) (fun _ h => h) rfl hd (kk H locs ls hP hS hl)
theorem pX4_4 (cx : Cx p s m args c E A own cc nL Ts) {k : Ky} {idx : Nat} {x : Int32} (hin : ∀ w ∈ u_ws RX4 TX4 7, w ∈ Ts) (hf : Cond.fieldLink own idx (TX4 4).1 (TX4 4).2.1 (TX4 4).2.2.1 ∈ Ts) (hd : decode cc pc = .ok (.putfield idx, 3)) (hk : kc k = 4) (hm : k ∈ ks E) (hq : pc + 3 = q) (kk : AW p l e R s m args below meth c cells slots Q A E ρ q lv st (up2 σ k 4 x)) : AW p l e R s m args below meth c cells slots Q A E ρ pc lv (.int x :: .ref (ad E k) :: st) σ := fun H locs ls hP hS hl => by
  subst hq
  obtain ⟨i, hi⟩ := ks_at hm
  have he := wl_at ρ σ hi
  unfold en at he
  rw [hk] at he
  refine va_put (T := TX4) (N := 7) (ci := 4) cx.1.1 cx.1.2.1 cx.1.2.2.2.2 hin tyX4 tyX4_ok nmX4 cx.1.2.2.2.1 cx.2.1.1 hP (wl_D cx.2.2.1 cx.2.2.2 ρ σ) hS i he rfl 4 (by decide) (cx.1.2.2.2.2 _ hf) (fun _ h => h) rfl (ty := .int) (by decide +kernel) rfl rfl (Nat.le_of_ble_eq_true rfl) hd (fun H1 locs1 hP1 _ hS1 => ?_)
  have hx : en E ρ (up2 σ k 4 x) k = .inr (4, [rv E (ρ k 0), rv E (ρ k 1), .int (σ k 2), .int (σ k 3), .int x, .int (σ k 5), .int (σ k 6)]) := by unfold en; rw [hk, up2_row]; simp [ec, upd]
  have hP2 : va_P E.1 vwCl ((wl E ρ σ).set i (ad E k, .inr (4, [rv E (ρ k 0), rv E (ρ k 1), .int (σ k 2), .int (σ k 3), .int x, .int (σ k 5), .int (σ k 6)]))) H1 := hP1
  rw [← hx, wl_set ρ cx.2.2.1.1 hi (fun k' h' => en_nk E ρ σ k 4 x h')] at hP2
  exact kk H1 locs1 ls hP2 hS1 hl
theorem gX4_5 (cx : Cx p s m args c E A own cc nL Ts) {k : Ky} {idx : Nat} (hin : ∀ w ∈ u_ws RX4 TX4 7, w ∈ Ts) (hf : Cond.fieldLink own idx (TX4 5).1 (TX4 5).2.1 (TX4 5).2.2.1 ∈ Ts) (hd : decode cc pc = .ok (.getfield idx, 3)) (hk : kc k = 4) (hm : k ∈ ks E) (hq : pc + 3 = q) (kk : AW p l e R s m args below meth c cells slots Q A E ρ q lv (.int (σ k 5) :: st) σ) : AW p l e R s m args below meth c cells slots Q A E ρ pc lv (.ref (ad E k) :: st) σ := fun H locs ls hP hS hl => by
  subst hq
  obtain ⟨i, hi⟩ := ks_at hm
  have he := wl_at ρ σ hi
  unfold en at he
  rw [hk] at he
  exact va_get (T := TX4) (N := 7) (ci := 4) cx.1.1 cx.1.2.1 cx.1.2.2.2.2 hin cx.1.2.2.2.1 cx.2.1.1 hP i he rfl 5 (by decide) (cx.1.2.2.2.2 _ hf) (fun _ h => h) rfl hd (kk H locs ls hP hS hl)
theorem pX4_5 (cx : Cx p s m args c E A own cc nL Ts) {k : Ky} {idx : Nat} {x : Int32} (hin : ∀ w ∈ u_ws RX4 TX4 7, w ∈ Ts) (hf : Cond.fieldLink own idx (TX4 5).1 (TX4 5).2.1 (TX4 5).2.2.1 ∈ Ts) (hd : decode cc pc = .ok (.putfield idx, 3)) (hk : kc k = 4) (hm : k ∈ ks E) (hq : pc + 3 = q) (kk : AW p l e R s m args below meth c cells slots Q A E ρ q lv st (up2 σ k 5 x)) : AW p l e R s m args below meth c cells slots Q A E ρ pc lv (.int x :: .ref (ad E k) :: st) σ := fun H locs ls hP hS hl => by
  subst hq
  obtain ⟨i, hi⟩ := ks_at hm
  have he := wl_at ρ σ hi
  unfold en at he
  rw [hk] at he
  refine va_put (T := TX4) (N := 7) (ci := 4) cx.1.1 cx.1.2.1 cx.1.2.2.2.2 hin tyX4 tyX4_ok nmX4 cx.1.2.2.2.1 cx.2.1.1 hP (wl_D cx.2.2.1 cx.2.2.2 ρ σ) hS i he rfl 5 (by decide) (cx.1.2.2.2.2 _ hf) (fun _ h => h) rfl (ty := .int) (by decide +kernel) rfl rfl (Nat.le_of_ble_eq_true rfl) hd (fun H1 locs1 hP1 _ hS1 => ?_)
  have hx : en E ρ (up2 σ k 5 x) k = .inr (4, [rv E (ρ k 0), rv E (ρ k 1), .int (σ k 2), .int (σ k 3), .int (σ k 4), .int x, .int (σ k 6)]) := by unfold en; rw [hk, up2_row]; simp [ec, upd]
  have hP2 : va_P E.1 vwCl ((wl E ρ σ).set i (ad E k, .inr (4, [rv E (ρ k 0), rv E (ρ k 1), .int (σ k 2), .int (σ k 3), .int (σ k 4), .int x, .int (σ k 6)]))) H1 := hP1
  rw [← hx, wl_set ρ cx.2.2.1.1 hi (fun k' h' => en_nk E ρ σ k 5 x h')] at hP2
  exact kk H1 locs1 ls hP2 hS1 hl
theorem gX4_6 (cx : Cx p s m args c E A own cc nL Ts) {k : Ky} {idx : Nat} (hin : ∀ w ∈ u_ws RX4 TX4 7, w ∈ Ts) (hf : Cond.fieldLink own idx (TX4 6).1 (TX4 6).2.1 (TX4 6).2.2.1 ∈ Ts) (hd : decode cc pc = .ok (.getfield idx, 3)) (hk : kc k = 4) (hm : k ∈ ks E) (hq : pc + 3 = q) (kk : AW p l e R s m args below meth c cells slots Q A E ρ q lv (.int (σ k 6) :: st) σ) : AW p l e R s m args below meth c cells slots Q A E ρ pc lv (.ref (ad E k) :: st) σ := fun H locs ls hP hS hl => by
  subst hq
  obtain ⟨i, hi⟩ := ks_at hm
  have he := wl_at ρ σ hi
  unfold en at he
  rw [hk] at he
  exact va_get (T := TX4) (N := 7) (ci := 4) cx.1.1 cx.1.2.1 cx.1.2.2.2.2 hin cx.1.2.2.2.1 cx.2.1.1 hP i he rfl 6 (by decide) (cx.1.2.2.2.2 _ hf) (fun _ h => h) rfl hd (kk H locs ls hP hS hl)
theorem pX4_6 (cx : Cx p s m args c E A own cc nL Ts) {k : Ky} {idx : Nat} {x : Int32} (hin : ∀ w ∈ u_ws RX4 TX4 7, w ∈ Ts) (hf : Cond.fieldLink own idx (TX4 6).1 (TX4 6).2.1 (TX4 6).2.2.1 ∈ Ts) (hd : decode cc pc = .ok (.putfield idx, 3)) (hk : kc k = 4) (hm : k ∈ ks E) (hq : pc + 3 = q) (kk : AW p l e R s m args below meth c cells slots Q A E ρ q lv st (up2 σ k 6 x)) : AW p l e R s m args below meth c cells slots Q A E ρ pc lv (.int x :: .ref (ad E k) :: st) σ := fun H locs ls hP hS hl => by
  subst hq
  obtain ⟨i, hi⟩ := ks_at hm
  have he := wl_at ρ σ hi
  unfold en at he
  rw [hk] at he
  refine va_put (T := TX4) (N := 7) (ci := 4) cx.1.1 cx.1.2.1 cx.1.2.2.2.2 hin tyX4 tyX4_ok nmX4 cx.1.2.2.2.1 cx.2.1.1 hP (wl_D cx.2.2.1 cx.2.2.2 ρ σ) hS i he rfl 6 (by decide) (cx.1.2.2.2.2 _ hf) (fun _ h => h) rfl (ty := .int) (by decide +kernel) rfl rfl (Nat.le_of_ble_eq_true rfl) hd (fun H1 locs1 hP1 _ hS1 => ?_)
  have hx : en E ρ (up2 σ k 6 x) k = .inr (4, [rv E (ρ k 0), rv E (ρ k 1), .int (σ k 2), .int (σ k 3), .int (σ k 4), .int (σ k 5), .int x]) := by unfold en; rw [hk, up2_row]; simp [ec, upd]
  have hP2 : va_P E.1 vwCl ((wl E ρ σ).set i (ad E k, .inr (4, [rv E (ρ k 0), rv E (ρ k 1), .int (σ k 2), .int (σ k 3), .int (σ k 4), .int (σ k 5), .int x]))) H1 := hP1
  rw [← hx, wl_set ρ cx.2.2.1.1 hi (fun k' h' => en_nk E ρ σ k 6 x h')] at hP2
  exact kk H1 locs1 ls hP2 hS1 hl
theorem gX5_0 (cx : Cx p s m args c E A own cc nL Ts) {k : Ky} {idx : Nat} (hin : ∀ w ∈ u_ws RX5 TX5 11, w ∈ Ts) (hf : Cond.fieldLink own idx (TX5 0).1 (TX5 0).2.1 (TX5 0).2.2.1 ∈ Ts) (hd : decode cc pc = .ok (.getfield idx, 3)) (hk : kc k = 5) (hm : k ∈ ks E) (hq : pc + 3 = q) (kk : AW p l e R s m args below meth c cells slots Q A E ρ q lv (.int (b01 (σ k 0)) :: st) σ) : AW p l e R s m args below meth c cells slots Q A E ρ pc lv (.ref (ad E k) :: st) σ := fun H locs ls hP hS hl => by
  subst hq
  obtain ⟨i, hi⟩ := ks_at hm
  have he := wl_at ρ σ hi
  unfold en at he
  rw [hk] at he
  exact va_get (T := TX5) (N := 11) (ci := 5) cx.1.1 cx.1.2.1 cx.1.2.2.2.2 hin cx.1.2.2.2.1 cx.2.1.1 hP i he rfl 0 (by decide) (cx.1.2.2.2.2 _ hf) (fun _ h => h) rfl hd (kk H locs ls hP hS hl)
theorem pX5_0 (cx : Cx p s m args c E A own cc nL Ts) {k : Ky} {idx : Nat} {x : Int32} (hin : ∀ w ∈ u_ws RX5 TX5 11, w ∈ Ts) (hf : Cond.fieldLink own idx (TX5 0).1 (TX5 0).2.1 (TX5 0).2.2.1 ∈ Ts) (hd : decode cc pc = .ok (.putfield idx, 3)) (hk : kc k = 5) (hm : k ∈ ks E) (hz : x = 0 ∨ x = 1) (hq : pc + 3 = q) (kk : AW p l e R s m args below meth c cells slots Q A E ρ q lv st (up2 σ k 0 x)) : AW p l e R s m args below meth c cells slots Q A E ρ pc lv (.int x :: .ref (ad E k) :: st) σ := fun H locs ls hP hS hl => by
  subst hq
  obtain ⟨i, hi⟩ := ks_at hm
  have he := wl_at ρ σ hi
  unfold en at he
  rw [hk] at he
  refine va_put (T := TX5) (N := 11) (ci := 5) cx.1.1 cx.1.2.1 cx.1.2.2.2.2 hin tyX5 tyX5_ok nmX5 cx.1.2.2.2.1 cx.2.1.1 hP (wl_D cx.2.2.1 cx.2.2.2 ρ σ) hS i he rfl 0 (by decide) (cx.1.2.2.2.2 _ hf) (fun _ h => h) rfl (ty := .boolean) (by decide +kernel) (by rcases hz with rfl | rfl <;> rfl) (by rcases hz with rfl | rfl <;> rfl) (Nat.le_of_ble_eq_true rfl) hd (fun H1 locs1 hP1 _ hS1 => ?_)
  have hx : en E ρ (up2 σ k 0 x) k = .inr (5, [.int x, .int (b01 (σ k 1)), .int (σ k 2), .int (σ k 3), rv E (ρ k 4), rv E (ρ k 5), .int (σ k 6), .int (σ k 7), .int (b01 (σ k 8)), .int (σ k 9), .int (σ k 10)]) := by unfold en; rw [hk, up2_row]; simp [ec, upd, b01_of hz]
  have hP2 : va_P E.1 vwCl ((wl E ρ σ).set i (ad E k, .inr (5, [.int x, .int (b01 (σ k 1)), .int (σ k 2), .int (σ k 3), rv E (ρ k 4), rv E (ρ k 5), .int (σ k 6), .int (σ k 7), .int (b01 (σ k 8)), .int (σ k 9), .int (σ k 10)]))) H1 := hP1
  rw [← hx, wl_set ρ cx.2.2.1.1 hi (fun k' h' => en_nk E ρ σ k 0 x h')] at hP2
  exact kk H1 locs1 ls hP2 hS1 hl
theorem gX5_1 (cx : Cx p s m args c E A own cc nL Ts) {k : Ky} {idx : Nat} (hin : ∀ w ∈ u_ws RX5 TX5 11, w ∈ Ts) (hf : Cond.fieldLink own idx (TX5 1).1 (TX5 1).2.1 (TX5 1).2.2.1 ∈ Ts) (hd : decode cc pc = .ok (.getfield idx, 3)) (hk : kc k = 5) (hm : k ∈ ks E) (hq : pc + 3 = q) (kk : AW p l e R s m args below meth c cells slots Q A E ρ q lv (.int (b01 (σ k 1)) :: st) σ) : AW p l e R s m args below meth c cells slots Q A E ρ pc lv (.ref (ad E k) :: st) σ := fun H locs ls hP hS hl => by
  subst hq
  obtain ⟨i, hi⟩ := ks_at hm
  have he := wl_at ρ σ hi
  unfold en at he
  rw [hk] at he
  exact va_get (T := TX5) (N := 11) (ci := 5) cx.1.1 cx.1.2.1 cx.1.2.2.2.2 hin cx.1.2.2.2.1 cx.2.1.1 hP i he rfl 1 (by decide) (cx.1.2.2.2.2 _ hf) (fun _ h => h) rfl hd (kk H locs ls hP hS hl)
theorem pX5_1 (cx : Cx p s m args c E A own cc nL Ts) {k : Ky} {idx : Nat} {x : Int32} (hin : ∀ w ∈ u_ws RX5 TX5 11, w ∈ Ts) (hf : Cond.fieldLink own idx (TX5 1).1 (TX5 1).2.1 (TX5 1).2.2.1 ∈ Ts) (hd : decode cc pc = .ok (.putfield idx, 3)) (hk : kc k = 5) (hm : k ∈ ks E) (hz : x = 0 ∨ x = 1) (hq : pc + 3 = q) (kk : AW p l e R s m args below meth c cells slots Q A E ρ q lv st (up2 σ k 1 x)) : AW p l e R s m args below meth c cells slots Q A E ρ pc lv (.int x :: .ref (ad E k) :: st) σ := fun H locs ls hP hS hl => by
  subst hq
  obtain ⟨i, hi⟩ := ks_at hm
  have he := wl_at ρ σ hi
  unfold en at he
  rw [hk] at he
  refine va_put (T := TX5) (N := 11) (ci := 5) cx.1.1 cx.1.2.1 cx.1.2.2.2.2 hin tyX5 tyX5_ok nmX5 cx.1.2.2.2.1 cx.2.1.1 hP (wl_D cx.2.2.1 cx.2.2.2 ρ σ) hS i he rfl 1 (by decide) (cx.1.2.2.2.2 _ hf) (fun _ h => h) rfl (ty := .boolean) (by decide +kernel) (by rcases hz with rfl | rfl <;> rfl) (by rcases hz with rfl | rfl <;> rfl) (Nat.le_of_ble_eq_true rfl) hd (fun H1 locs1 hP1 _ hS1 => ?_)
  have hx : en E ρ (up2 σ k 1 x) k = .inr (5, [.int (b01 (σ k 0)), .int x, .int (σ k 2), .int (σ k 3), rv E (ρ k 4), rv E (ρ k 5), .int (σ k 6), .int (σ k 7), .int (b01 (σ k 8)), .int (σ k 9), .int (σ k 10)]) := by unfold en; rw [hk, up2_row]; simp [ec, upd, b01_of hz]
  have hP2 : va_P E.1 vwCl ((wl E ρ σ).set i (ad E k, .inr (5, [.int (b01 (σ k 0)), .int x, .int (σ k 2), .int (σ k 3), rv E (ρ k 4), rv E (ρ k 5), .int (σ k 6), .int (σ k 7), .int (b01 (σ k 8)), .int (σ k 9), .int (σ k 10)]))) H1 := hP1
  rw [← hx, wl_set ρ cx.2.2.1.1 hi (fun k' h' => en_nk E ρ σ k 1 x h')] at hP2
  exact kk H1 locs1 ls hP2 hS1 hl
theorem gX5_2 (cx : Cx p s m args c E A own cc nL Ts) {k : Ky} {idx : Nat} (hin : ∀ w ∈ u_ws RX5 TX5 11, w ∈ Ts) (hf : Cond.fieldLink own idx (TX5 2).1 (TX5 2).2.1 (TX5 2).2.2.1 ∈ Ts) (hd : decode cc pc = .ok (.getfield idx, 3)) (hk : kc k = 5) (hm : k ∈ ks E) (hq : pc + 3 = q) (kk : AW p l e R s m args below meth c cells slots Q A E ρ q lv (.int (σ k 2) :: st) σ) : AW p l e R s m args below meth c cells slots Q A E ρ pc lv (.ref (ad E k) :: st) σ := fun H locs ls hP hS hl => by
  subst hq
  obtain ⟨i, hi⟩ := ks_at hm
  have he := wl_at ρ σ hi
  unfold en at he
  rw [hk] at he
  exact va_get (T := TX5) (N := 11) (ci := 5) cx.1.1 cx.1.2.1 cx.1.2.2.2.2 hin cx.1.2.2.2.1 cx.2.1.1 hP i he rfl 2 (by decide) (cx.1.2.2.2.2 _ hf) (fun _ h => h) rfl hd (kk H locs ls hP hS hl)
theorem pX5_2 (cx : Cx p s m args c E A own cc nL Ts) {k : Ky} {idx : Nat} {x : Int32} (hin : ∀ w ∈ u_ws RX5 TX5 11, w ∈ Ts) (hf : Cond.fieldLink own idx (TX5 2).1 (TX5 2).2.1 (TX5 2).2.2.1 ∈ Ts) (hd : decode cc pc = .ok (.putfield idx, 3)) (hk : kc k = 5) (hm : k ∈ ks E) (hq : pc + 3 = q) (kk : AW p l e R s m args below meth c cells slots Q A E ρ q lv st (up2 σ k 2 x)) : AW p l e R s m args below meth c cells slots Q A E ρ pc lv (.int x :: .ref (ad E k) :: st) σ := fun H locs ls hP hS hl => by
  subst hq
  obtain ⟨i, hi⟩ := ks_at hm
  have he := wl_at ρ σ hi
  unfold en at he
  rw [hk] at he
  refine va_put (T := TX5) (N := 11) (ci := 5) cx.1.1 cx.1.2.1 cx.1.2.2.2.2 hin tyX5 tyX5_ok nmX5 cx.1.2.2.2.1 cx.2.1.1 hP (wl_D cx.2.2.1 cx.2.2.2 ρ σ) hS i he rfl 2 (by decide) (cx.1.2.2.2.2 _ hf) (fun _ h => h) rfl (ty := .int) (by decide +kernel) rfl rfl (Nat.le_of_ble_eq_true rfl) hd (fun H1 locs1 hP1 _ hS1 => ?_)
  have hx : en E ρ (up2 σ k 2 x) k = .inr (5, [.int (b01 (σ k 0)), .int (b01 (σ k 1)), .int x, .int (σ k 3), rv E (ρ k 4), rv E (ρ k 5), .int (σ k 6), .int (σ k 7), .int (b01 (σ k 8)), .int (σ k 9), .int (σ k 10)]) := by unfold en; rw [hk, up2_row]; simp [ec, upd]
  have hP2 : va_P E.1 vwCl ((wl E ρ σ).set i (ad E k, .inr (5, [.int (b01 (σ k 0)), .int (b01 (σ k 1)), .int x, .int (σ k 3), rv E (ρ k 4), rv E (ρ k 5), .int (σ k 6), .int (σ k 7), .int (b01 (σ k 8)), .int (σ k 9), .int (σ k 10)]))) H1 := hP1
  rw [← hx, wl_set ρ cx.2.2.1.1 hi (fun k' h' => en_nk E ρ σ k 2 x h')] at hP2
  exact kk H1 locs1 ls hP2 hS1 hl
theorem gX5_3 (cx : Cx p s m args c E A own cc nL Ts) {k : Ky} {idx : Nat} (hin : ∀ w ∈ u_ws RX5 TX5 11, w ∈ Ts) (hf : Cond.fieldLink own idx (TX5 3).1 (TX5 3).2.1 (TX5 3).2.2.1 ∈ Ts) (hd : decode cc pc = .ok (.getfield idx, 3)) (hk : kc k = 5) (hm : k ∈ ks E) (hq : pc + 3 = q) (kk : AW p l e R s m args below meth c cells slots Q A E ρ q lv (.int (σ k 3) :: st) σ) : AW p l e R s m args below meth c cells slots Q A E ρ pc lv (.ref (ad E k) :: st) σ := fun H locs ls hP hS hl => by
  subst hq
  obtain ⟨i, hi⟩ := ks_at hm
  have he := wl_at ρ σ hi
  unfold en at he
  rw [hk] at he
  exact va_get (T := TX5) (N := 11) (ci := 5) cx.1.1 cx.1.2.1 cx.1.2.2.2.2 hin cx.1.2.2.2.1 cx.2.1.1 hP i he rfl 3 (by decide) (cx.1.2.2.2.2 _ hf) (fun _ h => h) rfl hd (kk H locs ls hP hS hl)
theorem pX5_3 (cx : Cx p s m args c E A own cc nL Ts) {k : Ky} {idx : Nat} {x : Int32} (hin : ∀ w ∈ u_ws RX5 TX5 11, w ∈ Ts) (hf : Cond.fieldLink own idx (TX5 3).1 (TX5 3).2.1 (TX5 3).2.2.1 ∈ Ts) (hd : decode cc pc = .ok (.putfield idx, 3)) (hk : kc k = 5) (hm : k ∈ ks E) (hq : pc + 3 = q) (kk : AW p l e R s m args below meth c cells slots Q A E ρ q lv st (up2 σ k 3 x)) : AW p l e R s m args below meth c cells slots Q A E ρ pc lv (.int x :: .ref (ad E k) :: st) σ := fun H locs ls hP hS hl => by
  subst hq
  obtain ⟨i, hi⟩ := ks_at hm
  have he := wl_at ρ σ hi
  unfold en at he
  rw [hk] at he
  refine va_put (T := TX5) (N := 11) (ci := 5) cx.1.1 cx.1.2.1 cx.1.2.2.2.2 hin tyX5 tyX5_ok nmX5 cx.1.2.2.2.1 cx.2.1.1 hP (wl_D cx.2.2.1 cx.2.2.2 ρ σ) hS i he rfl 3 (by decide) (cx.1.2.2.2.2 _ hf) (fun _ h => h) rfl (ty := .int) (by decide +kernel) rfl rfl (Nat.le_of_ble_eq_true rfl) hd (fun H1 locs1 hP1 _ hS1 => ?_)
  have hx : en E ρ (up2 σ k 3 x) k = .inr (5, [.int (b01 (σ k 0)), .int (b01 (σ k 1)), .int (σ k 2), .int x, rv E (ρ k 4), rv E (ρ k 5), .int (σ k 6), .int (σ k 7), .int (b01 (σ k 8)), .int (σ k 9), .int (σ k 10)]) := by unfold en; rw [hk, up2_row]; simp [ec, upd]
  have hP2 : va_P E.1 vwCl ((wl E ρ σ).set i (ad E k, .inr (5, [.int (b01 (σ k 0)), .int (b01 (σ k 1)), .int (σ k 2), .int x, rv E (ρ k 4), rv E (ρ k 5), .int (σ k 6), .int (σ k 7), .int (b01 (σ k 8)), .int (σ k 9), .int (σ k 10)]))) H1 := hP1
  rw [← hx, wl_set ρ cx.2.2.1.1 hi (fun k' h' => en_nk E ρ σ k 3 x h')] at hP2
  exact kk H1 locs1 ls hP2 hS1 hl
theorem gX5_4 (cx : Cx p s m args c E A own cc nL Ts) {k t : Ky} {idx : Nat} (hin : ∀ w ∈ u_ws RX5 TX5 11, w ∈ Ts) (hf : Cond.fieldLink own idx (TX5 4).1 (TX5 4).2.1 (TX5 4).2.2.1 ∈ Ts) (hd : decode cc pc = .ok (.getfield idx, 3)) (hk : kc k = 5) (hm : k ∈ ks E) (ht : ρ k 4 = some t) (hq : pc + 3 = q) (kk : AW p l e R s m args below meth c cells slots Q A E ρ q lv (.ref (ad E t) :: st) σ) : AW p l e R s m args below meth c cells slots Q A E ρ pc lv (.ref (ad E k) :: st) σ := fun H locs ls hP hS hl => by
  subst hq
  obtain ⟨i, hi⟩ := ks_at hm
  have he := wl_at ρ σ hi
  unfold en at he
  rw [hk] at he
  have h0 := kk H locs ls hP hS hl
  have hv : rv E (ρ k 4) = .ref (ad E t) := by rw [ht]; rfl
  rw [← hv] at h0
  exact va_get (T := TX5) (N := 11) (ci := 5) cx.1.1 cx.1.2.1 cx.1.2.2.2.2 hin cx.1.2.2.2.1 cx.2.1.1 hP i he rfl 4 (by decide) (cx.1.2.2.2.2 _ hf) (fun _ h => h) rfl hd h0
theorem gX5_5 (cx : Cx p s m args c E A own cc nL Ts) {k t : Ky} {idx : Nat} (hin : ∀ w ∈ u_ws RX5 TX5 11, w ∈ Ts) (hf : Cond.fieldLink own idx (TX5 5).1 (TX5 5).2.1 (TX5 5).2.2.1 ∈ Ts) (hd : decode cc pc = .ok (.getfield idx, 3)) (hk : kc k = 5) (hm : k ∈ ks E) (ht : ρ k 5 = some t) (hq : pc + 3 = q) (kk : AW p l e R s m args below meth c cells slots Q A E ρ q lv (.ref (ad E t) :: st) σ) : AW p l e R s m args below meth c cells slots Q A E ρ pc lv (.ref (ad E k) :: st) σ := fun H locs ls hP hS hl => by
  subst hq
  obtain ⟨i, hi⟩ := ks_at hm
  have he := wl_at ρ σ hi
  unfold en at he
  rw [hk] at he
  have h0 := kk H locs ls hP hS hl
  have hv : rv E (ρ k 5) = .ref (ad E t) := by rw [ht]; rfl
  rw [← hv] at h0
  exact va_get (T := TX5) (N := 11) (ci := 5) cx.1.1 cx.1.2.1 cx.1.2.2.2.2 hin cx.1.2.2.2.1 cx.2.1.1 hP i he rfl 5 (by decide) (cx.1.2.2.2.2 _ hf) (fun _ h => h) rfl hd h0
theorem gX5_6 (cx : Cx p s m args c E A own cc nL Ts) {k : Ky} {idx : Nat} (hin : ∀ w ∈ u_ws RX5 TX5 11, w ∈ Ts) (hf : Cond.fieldLink own idx (TX5 6).1 (TX5 6).2.1 (TX5 6).2.2.1 ∈ Ts) (hd : decode cc pc = .ok (.getfield idx, 3)) (hk : kc k = 5) (hm : k ∈ ks E) (hq : pc + 3 = q) (kk : AW p l e R s m args below meth c cells slots Q A E ρ q lv (.int (σ k 6) :: st) σ) : AW p l e R s m args below meth c cells slots Q A E ρ pc lv (.ref (ad E k) :: st) σ := fun H locs ls hP hS hl => by
  subst hq
  obtain ⟨i, hi⟩ := ks_at hm
  have he := wl_at ρ σ hi
  unfold en at he
  rw [hk] at he
  exact va_get (T := TX5) (N := 11) (ci := 5) cx.1.1 cx.1.2.1 cx.1.2.2.2.2 hin cx.1.2.2.2.1 cx.2.1.1 hP i he rfl 6 (by decide) (cx.1.2.2.2.2 _ hf) (fun _ h => h) rfl hd (kk H locs ls hP hS hl)
theorem pX5_6 (cx : Cx p s m args c E A own cc nL Ts) {k : Ky} {idx : Nat} {x : Int32} (hin : ∀ w ∈ u_ws RX5 TX5 11, w ∈ Ts) (hf : Cond.fieldLink own idx (TX5 6).1 (TX5 6).2.1 (TX5 6).2.2.1 ∈ Ts) (hd : decode cc pc = .ok (.putfield idx, 3)) (hk : kc k = 5) (hm : k ∈ ks E) (hq : pc + 3 = q) (kk : AW p l e R s m args below meth c cells slots Q A E ρ q lv st (up2 σ k 6 x)) : AW p l e R s m args below meth c cells slots Q A E ρ pc lv (.int x :: .ref (ad E k) :: st) σ := fun H locs ls hP hS hl => by
  subst hq
  obtain ⟨i, hi⟩ := ks_at hm
  have he := wl_at ρ σ hi
  unfold en at he
  rw [hk] at he
  refine va_put (T := TX5) (N := 11) (ci := 5) cx.1.1 cx.1.2.1 cx.1.2.2.2.2 hin tyX5 tyX5_ok nmX5 cx.1.2.2.2.1 cx.2.1.1 hP (wl_D cx.2.2.1 cx.2.2.2 ρ σ) hS i he rfl 6 (by decide) (cx.1.2.2.2.2 _ hf) (fun _ h => h) rfl (ty := .int) (by decide +kernel) rfl rfl (Nat.le_of_ble_eq_true rfl) hd (fun H1 locs1 hP1 _ hS1 => ?_)
  have hx : en E ρ (up2 σ k 6 x) k = .inr (5, [.int (b01 (σ k 0)), .int (b01 (σ k 1)), .int (σ k 2), .int (σ k 3), rv E (ρ k 4), rv E (ρ k 5), .int x, .int (σ k 7), .int (b01 (σ k 8)), .int (σ k 9), .int (σ k 10)]) := by unfold en; rw [hk, up2_row]; simp [ec, upd]
  have hP2 : va_P E.1 vwCl ((wl E ρ σ).set i (ad E k, .inr (5, [.int (b01 (σ k 0)), .int (b01 (σ k 1)), .int (σ k 2), .int (σ k 3), rv E (ρ k 4), rv E (ρ k 5), .int x, .int (σ k 7), .int (b01 (σ k 8)), .int (σ k 9), .int (σ k 10)]))) H1 := hP1
  rw [← hx, wl_set ρ cx.2.2.1.1 hi (fun k' h' => en_nk E ρ σ k 6 x h')] at hP2
  exact kk H1 locs1 ls hP2 hS1 hl
theorem gX5_7 (cx : Cx p s m args c E A own cc nL Ts) {k : Ky} {idx : Nat} (hin : ∀ w ∈ u_ws RX5 TX5 11, w ∈ Ts) (hf : Cond.fieldLink own idx (TX5 7).1 (TX5 7).2.1 (TX5 7).2.2.1 ∈ Ts) (hd : decode cc pc = .ok (.getfield idx, 3)) (hk : kc k = 5) (hm : k ∈ ks E) (hq : pc + 3 = q) (kk : AW p l e R s m args below meth c cells slots Q A E ρ q lv (.int (σ k 7) :: st) σ) : AW p l e R s m args below meth c cells slots Q A E ρ pc lv (.ref (ad E k) :: st) σ := fun H locs ls hP hS hl => by
  subst hq
  obtain ⟨i, hi⟩ := ks_at hm
  have he := wl_at ρ σ hi
  unfold en at he
  rw [hk] at he
  exact va_get (T := TX5) (N := 11) (ci := 5) cx.1.1 cx.1.2.1 cx.1.2.2.2.2 hin cx.1.2.2.2.1 cx.2.1.1 hP i he rfl 7 (by decide) (cx.1.2.2.2.2 _ hf) (fun _ h => h) rfl hd (kk H locs ls hP hS hl)
theorem pX5_7 (cx : Cx p s m args c E A own cc nL Ts) {k : Ky} {idx : Nat} {x : Int32} (hin : ∀ w ∈ u_ws RX5 TX5 11, w ∈ Ts) (hf : Cond.fieldLink own idx (TX5 7).1 (TX5 7).2.1 (TX5 7).2.2.1 ∈ Ts) (hd : decode cc pc = .ok (.putfield idx, 3)) (hk : kc k = 5) (hm : k ∈ ks E) (hq : pc + 3 = q) (kk : AW p l e R s m args below meth c cells slots Q A E ρ q lv st (up2 σ k 7 x)) : AW p l e R s m args below meth c cells slots Q A E ρ pc lv (.int x :: .ref (ad E k) :: st) σ := fun H locs ls hP hS hl => by
  subst hq
  obtain ⟨i, hi⟩ := ks_at hm
  have he := wl_at ρ σ hi
  unfold en at he
  rw [hk] at he
  refine va_put (T := TX5) (N := 11) (ci := 5) cx.1.1 cx.1.2.1 cx.1.2.2.2.2 hin tyX5 tyX5_ok nmX5 cx.1.2.2.2.1 cx.2.1.1 hP (wl_D cx.2.2.1 cx.2.2.2 ρ σ) hS i he rfl 7 (by decide) (cx.1.2.2.2.2 _ hf) (fun _ h => h) rfl (ty := .int) (by decide +kernel) rfl rfl (Nat.le_of_ble_eq_true rfl) hd (fun H1 locs1 hP1 _ hS1 => ?_)
  have hx : en E ρ (up2 σ k 7 x) k = .inr (5, [.int (b01 (σ k 0)), .int (b01 (σ k 1)), .int (σ k 2), .int (σ k 3), rv E (ρ k 4), rv E (ρ k 5), .int (σ k 6), .int x, .int (b01 (σ k 8)), .int (σ k 9), .int (σ k 10)]) := by unfold en; rw [hk, up2_row]; simp [ec, upd]
  have hP2 : va_P E.1 vwCl ((wl E ρ σ).set i (ad E k, .inr (5, [.int (b01 (σ k 0)), .int (b01 (σ k 1)), .int (σ k 2), .int (σ k 3), rv E (ρ k 4), rv E (ρ k 5), .int (σ k 6), .int x, .int (b01 (σ k 8)), .int (σ k 9), .int (σ k 10)]))) H1 := hP1
  rw [← hx, wl_set ρ cx.2.2.1.1 hi (fun k' h' => en_nk E ρ σ k 7 x h')] at hP2
  exact kk H1 locs1 ls hP2 hS1 hl
theorem gX5_8 (cx : Cx p s m args c E A own cc nL Ts) {k : Ky} {idx : Nat} (hin : ∀ w ∈ u_ws RX5 TX5 11, w ∈ Ts) (hf : Cond.fieldLink own idx (TX5 8).1 (TX5 8).2.1 (TX5 8).2.2.1 ∈ Ts) (hd : decode cc pc = .ok (.getfield idx, 3)) (hk : kc k = 5) (hm : k ∈ ks E) (hq : pc + 3 = q) (kk : AW p l e R s m args below meth c cells slots Q A E ρ q lv (.int (b01 (σ k 8)) :: st) σ) : AW p l e R s m args below meth c cells slots Q A E ρ pc lv (.ref (ad E k) :: st) σ := fun H locs ls hP hS hl => by
  subst hq
  obtain ⟨i, hi⟩ := ks_at hm
  have he := wl_at ρ σ hi
  unfold en at he
  rw [hk] at he
  exact va_get (T := TX5) (N := 11) (ci := 5) cx.1.1 cx.1.2.1 cx.1.2.2.2.2 hin cx.1.2.2.2.1 cx.2.1.1 hP i he rfl 8 (by decide) (cx.1.2.2.2.2 _ hf) (fun _ h => h) rfl hd (kk H locs ls hP hS hl)
theorem pX5_8 (cx : Cx p s m args c E A own cc nL Ts) {k : Ky} {idx : Nat} {x : Int32} (hin : ∀ w ∈ u_ws RX5 TX5 11, w ∈ Ts) (hf : Cond.fieldLink own idx (TX5 8).1 (TX5 8).2.1 (TX5 8).2.2.1 ∈ Ts) (hd : decode cc pc = .ok (.putfield idx, 3)) (hk : kc k = 5) (hm : k ∈ ks E) (hz : x = 0 ∨ x = 1) (hq : pc + 3 = q) (kk : AW p l e R s m args below meth c cells slots Q A E ρ q lv st (up2 σ k 8 x)) : AW p l e R s m args below meth c cells slots Q A E ρ pc lv (.int x :: .ref (ad E k) :: st) σ := fun H locs ls hP hS hl => by
  subst hq
  obtain ⟨i, hi⟩ := ks_at hm
  have he := wl_at ρ σ hi
  unfold en at he
  rw [hk] at he
  refine va_put (T := TX5) (N := 11) (ci := 5) cx.1.1 cx.1.2.1 cx.1.2.2.2.2 hin tyX5 tyX5_ok nmX5 cx.1.2.2.2.1 cx.2.1.1 hP (wl_D cx.2.2.1 cx.2.2.2 ρ σ) hS i he rfl 8 (by decide) (cx.1.2.2.2.2 _ hf) (fun _ h => h) rfl (ty := .boolean) (by decide +kernel) (by rcases hz with rfl | rfl <;> rfl) (by rcases hz with rfl | rfl <;> rfl) (Nat.le_of_ble_eq_true rfl) hd (fun H1 locs1 hP1 _ hS1 => ?_)
  have hx : en E ρ (up2 σ k 8 x) k = .inr (5, [.int (b01 (σ k 0)), .int (b01 (σ k 1)), .int (σ k 2), .int (σ k 3), rv E (ρ k 4), rv E (ρ k 5), .int (σ k 6), .int (σ k 7), .int x, .int (σ k 9), .int (σ k 10)]) := by unfold en; rw [hk, up2_row]; simp [ec, upd, b01_of hz]
  have hP2 : va_P E.1 vwCl ((wl E ρ σ).set i (ad E k, .inr (5, [.int (b01 (σ k 0)), .int (b01 (σ k 1)), .int (σ k 2), .int (σ k 3), rv E (ρ k 4), rv E (ρ k 5), .int (σ k 6), .int (σ k 7), .int x, .int (σ k 9), .int (σ k 10)]))) H1 := hP1
  rw [← hx, wl_set ρ cx.2.2.1.1 hi (fun k' h' => en_nk E ρ σ k 8 x h')] at hP2
  exact kk H1 locs1 ls hP2 hS1 hl
theorem gX5_9 (cx : Cx p s m args c E A own cc nL Ts) {k : Ky} {idx : Nat} (hin : ∀ w ∈ u_ws RX5 TX5 11, w ∈ Ts) (hf : Cond.fieldLink own idx (TX5 9).1 (TX5 9).2.1 (TX5 9).2.2.1 ∈ Ts) (hd : decode cc pc = .ok (.getfield idx, 3)) (hk : kc k = 5) (hm : k ∈ ks E) (hq : pc + 3 = q) (kk : AW p l e R s m args below meth c cells slots Q A E ρ q lv (.int (σ k 9) :: st) σ) : AW p l e R s m args below meth c cells slots Q A E ρ pc lv (.ref (ad E k) :: st) σ := fun H locs ls hP hS hl => by
  subst hq
  obtain ⟨i, hi⟩ := ks_at hm
  have he := wl_at ρ σ hi
  unfold en at he
  rw [hk] at he
  exact va_get (T := TX5) (N := 11) (ci := 5) cx.1.1 cx.1.2.1 cx.1.2.2.2.2 hin cx.1.2.2.2.1 cx.2.1.1 hP i he rfl 9 (by decide) (cx.1.2.2.2.2 _ hf) (fun _ h => h) rfl hd (kk H locs ls hP hS hl)
theorem pX5_9 (cx : Cx p s m args c E A own cc nL Ts) {k : Ky} {idx : Nat} {x : Int32} (hin : ∀ w ∈ u_ws RX5 TX5 11, w ∈ Ts) (hf : Cond.fieldLink own idx (TX5 9).1 (TX5 9).2.1 (TX5 9).2.2.1 ∈ Ts) (hd : decode cc pc = .ok (.putfield idx, 3)) (hk : kc k = 5) (hm : k ∈ ks E) (hq : pc + 3 = q) (kk : AW p l e R s m args below meth c cells slots Q A E ρ q lv st (up2 σ k 9 x)) : AW p l e R s m args below meth c cells slots Q A E ρ pc lv (.int x :: .ref (ad E k) :: st) σ := fun H locs ls hP hS hl => by
  subst hq
  obtain ⟨i, hi⟩ := ks_at hm
  have he := wl_at ρ σ hi
  unfold en at he
  rw [hk] at he
  refine va_put (T := TX5) (N := 11) (ci := 5) cx.1.1 cx.1.2.1 cx.1.2.2.2.2 hin tyX5 tyX5_ok nmX5 cx.1.2.2.2.1 cx.2.1.1 hP (wl_D cx.2.2.1 cx.2.2.2 ρ σ) hS i he rfl 9 (by decide) (cx.1.2.2.2.2 _ hf) (fun _ h => h) rfl (ty := .int) (by decide +kernel) rfl rfl (Nat.le_of_ble_eq_true rfl) hd (fun H1 locs1 hP1 _ hS1 => ?_)
  have hx : en E ρ (up2 σ k 9 x) k = .inr (5, [.int (b01 (σ k 0)), .int (b01 (σ k 1)), .int (σ k 2), .int (σ k 3), rv E (ρ k 4), rv E (ρ k 5), .int (σ k 6), .int (σ k 7), .int (b01 (σ k 8)), .int x, .int (σ k 10)]) := by unfold en; rw [hk, up2_row]; simp [ec, upd]
  have hP2 : va_P E.1 vwCl ((wl E ρ σ).set i (ad E k, .inr (5, [.int (b01 (σ k 0)), .int (b01 (σ k 1)), .int (σ k 2), .int (σ k 3), rv E (ρ k 4), rv E (ρ k 5), .int (σ k 6), .int (σ k 7), .int (b01 (σ k 8)), .int x, .int (σ k 10)]))) H1 := hP1
  rw [← hx, wl_set ρ cx.2.2.1.1 hi (fun k' h' => en_nk E ρ σ k 9 x h')] at hP2
  exact kk H1 locs1 ls hP2 hS1 hl
theorem gX5_10 (cx : Cx p s m args c E A own cc nL Ts) {k : Ky} {idx : Nat} (hin : ∀ w ∈ u_ws RX5 TX5 11, w ∈ Ts) (hf : Cond.fieldLink own idx (TX5 10).1 (TX5 10).2.1 (TX5 10).2.2.1 ∈ Ts) (hd : decode cc pc = .ok (.getfield idx, 3)) (hk : kc k = 5) (hm : k ∈ ks E) (hq : pc + 3 = q) (kk : AW p l e R s m args below meth c cells slots Q A E ρ q lv (.int (σ k 10) :: st) σ) : AW p l e R s m args below meth c cells slots Q A E ρ pc lv (.ref (ad E k) :: st) σ := fun H locs ls hP hS hl => by
  subst hq
  obtain ⟨i, hi⟩ := ks_at hm
  have he := wl_at ρ σ hi
  unfold en at he
  rw [hk] at he
  exact va_get (T := TX5) (N := 11) (ci := 5) cx.1.1 cx.1.2.1 cx.1.2.2.2.2 hin cx.1.2.2.2.1 cx.2.1.1 hP i he rfl 10 (by decide) (cx.1.2.2.2.2 _ hf) (fun _ h => h) rfl hd (kk H locs ls hP hS hl)
theorem pX5_10 (cx : Cx p s m args c E A own cc nL Ts) {k : Ky} {idx : Nat} {x : Int32} (hin : ∀ w ∈ u_ws RX5 TX5 11, w ∈ Ts) (hf : Cond.fieldLink own idx (TX5 10).1 (TX5 10).2.1 (TX5 10).2.2.1 ∈ Ts) (hd : decode cc pc = .ok (.putfield idx, 3)) (hk : kc k = 5) (hm : k ∈ ks E) (hq : pc + 3 = q) (kk : AW p l e R s m args below meth c cells slots Q A E ρ q lv st (up2 σ k 10 x)) : AW p l e R s m args below meth c cells slots Q A E ρ pc lv (.int x :: .ref (ad E k) :: st) σ := fun H locs ls hP hS hl => by
  subst hq
  obtain ⟨i, hi⟩ := ks_at hm
  have he := wl_at ρ σ hi
  unfold en at he
  rw [hk] at he
  refine va_put (T := TX5) (N := 11) (ci := 5) cx.1.1 cx.1.2.1 cx.1.2.2.2.2 hin tyX5 tyX5_ok nmX5 cx.1.2.2.2.1 cx.2.1.1 hP (wl_D cx.2.2.1 cx.2.2.2 ρ σ) hS i he rfl 10 (by decide) (cx.1.2.2.2.2 _ hf) (fun _ h => h) rfl (ty := .int) (by decide +kernel) rfl rfl (Nat.le_of_ble_eq_true rfl) hd (fun H1 locs1 hP1 _ hS1 => ?_)
  have hx : en E ρ (up2 σ k 10 x) k = .inr (5, [.int (b01 (σ k 0)), .int (b01 (σ k 1)), .int (σ k 2), .int (σ k 3), rv E (ρ k 4), rv E (ρ k 5), .int (σ k 6), .int (σ k 7), .int (b01 (σ k 8)), .int (σ k 9), .int x]) := by unfold en; rw [hk, up2_row]; simp [ec, upd]
  have hP2 : va_P E.1 vwCl ((wl E ρ σ).set i (ad E k, .inr (5, [.int (b01 (σ k 0)), .int (b01 (σ k 1)), .int (σ k 2), .int (σ k 3), rv E (ρ k 4), rv E (ρ k 5), .int (σ k 6), .int (σ k 7), .int (b01 (σ k 8)), .int (σ k 9), .int x]))) H1 := hP1
  rw [← hx, wl_set ρ cx.2.2.1.1 hi (fun k' h' => en_nk E ρ σ k 10 x h')] at hP2
  exact kk H1 locs1 ls hP2 hS1 hl
theorem gX6_0 (cx : Cx p s m args c E A own cc nL Ts) {k t : Ky} {idx : Nat} (hin : ∀ w ∈ u_ws RX6 TX6 2, w ∈ Ts) (hf : Cond.fieldLink own idx (TX6 0).1 (TX6 0).2.1 (TX6 0).2.2.1 ∈ Ts) (hd : decode cc pc = .ok (.getfield idx, 3)) (hk : kc k = 6) (hm : k ∈ ks E) (ht : ρ k 0 = some t) (hq : pc + 3 = q) (kk : AW p l e R s m args below meth c cells slots Q A E ρ q lv (.ref (ad E t) :: st) σ) : AW p l e R s m args below meth c cells slots Q A E ρ pc lv (.ref (ad E k) :: st) σ := fun H locs ls hP hS hl => by
  subst hq
  obtain ⟨i, hi⟩ := ks_at hm
  have he := wl_at ρ σ hi
  unfold en at he
  rw [hk] at he
  have h0 := kk H locs ls hP hS hl
  have hv : rv E (ρ k 0) = .ref (ad E t) := by rw [ht]; rfl
  rw [← hv] at h0
  exact va_get (T := TX6) (N := 2) (ci := 6) cx.1.1 cx.1.2.1 cx.1.2.2.2.2 hin cx.1.2.2.2.1 cx.2.1.1 hP i he rfl 0 (by decide) (cx.1.2.2.2.2 _ hf) (fun _ h => h) rfl hd h0
theorem gX6_1 (cx : Cx p s m args c E A own cc nL Ts) {k : Ky} {idx : Nat} (hin : ∀ w ∈ u_ws RX6 TX6 2, w ∈ Ts) (hf : Cond.fieldLink own idx (TX6 1).1 (TX6 1).2.1 (TX6 1).2.2.1 ∈ Ts) (hd : decode cc pc = .ok (.getfield idx, 3)) (hk : kc k = 6) (hm : k ∈ ks E) (hq : pc + 3 = q) (kk : AW p l e R s m args below meth c cells slots Q A E ρ q lv (.int (σ k 1) :: st) σ) : AW p l e R s m args below meth c cells slots Q A E ρ pc lv (.ref (ad E k) :: st) σ := fun H locs ls hP hS hl => by
  subst hq
  obtain ⟨i, hi⟩ := ks_at hm
  have he := wl_at ρ σ hi
  unfold en at he
  rw [hk] at he
  exact va_get (T := TX6) (N := 2) (ci := 6) cx.1.1 cx.1.2.1 cx.1.2.2.2.2 hin cx.1.2.2.2.1 cx.2.1.1 hP i he rfl 1 (by decide) (cx.1.2.2.2.2 _ hf) (fun _ h => h) rfl hd (kk H locs ls hP hS hl)
theorem pX6_1 (cx : Cx p s m args c E A own cc nL Ts) {k : Ky} {idx : Nat} {x : Int32} (hin : ∀ w ∈ u_ws RX6 TX6 2, w ∈ Ts) (hf : Cond.fieldLink own idx (TX6 1).1 (TX6 1).2.1 (TX6 1).2.2.1 ∈ Ts) (hd : decode cc pc = .ok (.putfield idx, 3)) (hk : kc k = 6) (hm : k ∈ ks E) (hq : pc + 3 = q) (kk : AW p l e R s m args below meth c cells slots Q A E ρ q lv st (up2 σ k 1 x)) : AW p l e R s m args below meth c cells slots Q A E ρ pc lv (.int x :: .ref (ad E k) :: st) σ := fun H locs ls hP hS hl => by
  subst hq
  obtain ⟨i, hi⟩ := ks_at hm
  have he := wl_at ρ σ hi
  unfold en at he
  rw [hk] at he
  refine va_put (T := TX6) (N := 2) (ci := 6) cx.1.1 cx.1.2.1 cx.1.2.2.2.2 hin tyX6 tyX6_ok nmX6 cx.1.2.2.2.1 cx.2.1.1 hP (wl_D cx.2.2.1 cx.2.2.2 ρ σ) hS i he rfl 1 (by decide) (cx.1.2.2.2.2 _ hf) (fun _ h => h) rfl (ty := .int) (by decide +kernel) rfl rfl (Nat.le_of_ble_eq_true rfl) hd (fun H1 locs1 hP1 _ hS1 => ?_)
  have hx : en E ρ (up2 σ k 1 x) k = .inr (6, [rv E (ρ k 0), .int x]) := by unfold en; rw [hk, up2_row]; simp [ec, upd]
  have hP2 : va_P E.1 vwCl ((wl E ρ σ).set i (ad E k, .inr (6, [rv E (ρ k 0), .int x]))) H1 := hP1
  rw [← hx, wl_set ρ cx.2.2.1.1 hi (fun k' h' => en_nk E ρ σ k 1 x h')] at hP2
  exact kk H1 locs1 ls hP2 hS1 hl
theorem gX7_0 (cx : Cx p s m args c E A own cc nL Ts) {k t : Ky} {idx : Nat} (hin : ∀ w ∈ u_ws RX7 TX7 6, w ∈ Ts) (hf : Cond.fieldLink own idx (TX7 0).1 (TX7 0).2.1 (TX7 0).2.2.1 ∈ Ts) (hd : decode cc pc = .ok (.getfield idx, 3)) (hk : kc k = 7) (hm : k ∈ ks E) (ht : ρ k 0 = some t) (hq : pc + 3 = q) (kk : AW p l e R s m args below meth c cells slots Q A E ρ q lv (.ref (ad E t) :: st) σ) : AW p l e R s m args below meth c cells slots Q A E ρ pc lv (.ref (ad E k) :: st) σ := fun H locs ls hP hS hl => by
  subst hq
  obtain ⟨i, hi⟩ := ks_at hm
  have he := wl_at ρ σ hi
  unfold en at he
  rw [hk] at he
  have h0 := kk H locs ls hP hS hl
  have hv : rv E (ρ k 0) = .ref (ad E t) := by rw [ht]; rfl
  rw [← hv] at h0
  exact va_get (T := TX7) (N := 6) (ci := 7) cx.1.1 cx.1.2.1 cx.1.2.2.2.2 hin cx.1.2.2.2.1 cx.2.1.1 hP i he rfl 0 (by decide) (cx.1.2.2.2.2 _ hf) (fun _ h => h) rfl hd h0
theorem gX7_1 (cx : Cx p s m args c E A own cc nL Ts) {k t : Ky} {idx : Nat} (hin : ∀ w ∈ u_ws RX7 TX7 6, w ∈ Ts) (hf : Cond.fieldLink own idx (TX7 1).1 (TX7 1).2.1 (TX7 1).2.2.1 ∈ Ts) (hd : decode cc pc = .ok (.getfield idx, 3)) (hk : kc k = 7) (hm : k ∈ ks E) (ht : ρ k 1 = some t) (hq : pc + 3 = q) (kk : AW p l e R s m args below meth c cells slots Q A E ρ q lv (.ref (ad E t) :: st) σ) : AW p l e R s m args below meth c cells slots Q A E ρ pc lv (.ref (ad E k) :: st) σ := fun H locs ls hP hS hl => by
  subst hq
  obtain ⟨i, hi⟩ := ks_at hm
  have he := wl_at ρ σ hi
  unfold en at he
  rw [hk] at he
  have h0 := kk H locs ls hP hS hl
  have hv : rv E (ρ k 1) = .ref (ad E t) := by rw [ht]; rfl
  rw [← hv] at h0
  exact va_get (T := TX7) (N := 6) (ci := 7) cx.1.1 cx.1.2.1 cx.1.2.2.2.2 hin cx.1.2.2.2.1 cx.2.1.1 hP i he rfl 1 (by decide) (cx.1.2.2.2.2 _ hf) (fun _ h => h) rfl hd h0
theorem gX7_2 (cx : Cx p s m args c E A own cc nL Ts) {k t : Ky} {idx : Nat} (hin : ∀ w ∈ u_ws RX7 TX7 6, w ∈ Ts) (hf : Cond.fieldLink own idx (TX7 2).1 (TX7 2).2.1 (TX7 2).2.2.1 ∈ Ts) (hd : decode cc pc = .ok (.getfield idx, 3)) (hk : kc k = 7) (hm : k ∈ ks E) (ht : ρ k 2 = some t) (hq : pc + 3 = q) (kk : AW p l e R s m args below meth c cells slots Q A E ρ q lv (.ref (ad E t) :: st) σ) : AW p l e R s m args below meth c cells slots Q A E ρ pc lv (.ref (ad E k) :: st) σ := fun H locs ls hP hS hl => by
  subst hq
  obtain ⟨i, hi⟩ := ks_at hm
  have he := wl_at ρ σ hi
  unfold en at he
  rw [hk] at he
  have h0 := kk H locs ls hP hS hl
  have hv : rv E (ρ k 2) = .ref (ad E t) := by rw [ht]; rfl
  rw [← hv] at h0
  exact va_get (T := TX7) (N := 6) (ci := 7) cx.1.1 cx.1.2.1 cx.1.2.2.2.2 hin cx.1.2.2.2.1 cx.2.1.1 hP i he rfl 2 (by decide) (cx.1.2.2.2.2 _ hf) (fun _ h => h) rfl hd h0
theorem gX7_3 (cx : Cx p s m args c E A own cc nL Ts) {k t : Ky} {idx : Nat} (hin : ∀ w ∈ u_ws RX7 TX7 6, w ∈ Ts) (hf : Cond.fieldLink own idx (TX7 3).1 (TX7 3).2.1 (TX7 3).2.2.1 ∈ Ts) (hd : decode cc pc = .ok (.getfield idx, 3)) (hk : kc k = 7) (hm : k ∈ ks E) (ht : ρ k 3 = some t) (hq : pc + 3 = q) (kk : AW p l e R s m args below meth c cells slots Q A E ρ q lv (.ref (ad E t) :: st) σ) : AW p l e R s m args below meth c cells slots Q A E ρ pc lv (.ref (ad E k) :: st) σ := fun H locs ls hP hS hl => by
  subst hq
  obtain ⟨i, hi⟩ := ks_at hm
  have he := wl_at ρ σ hi
  unfold en at he
  rw [hk] at he
  have h0 := kk H locs ls hP hS hl
  have hv : rv E (ρ k 3) = .ref (ad E t) := by rw [ht]; rfl
  rw [← hv] at h0
  exact va_get (T := TX7) (N := 6) (ci := 7) cx.1.1 cx.1.2.1 cx.1.2.2.2.2 hin cx.1.2.2.2.1 cx.2.1.1 hP i he rfl 3 (by decide) (cx.1.2.2.2.2 _ hf) (fun _ h => h) rfl hd h0
theorem gX7_4 (cx : Cx p s m args c E A own cc nL Ts) {k t : Ky} {idx : Nat} (hin : ∀ w ∈ u_ws RX7 TX7 6, w ∈ Ts) (hf : Cond.fieldLink own idx (TX7 4).1 (TX7 4).2.1 (TX7 4).2.2.1 ∈ Ts) (hd : decode cc pc = .ok (.getfield idx, 3)) (hk : kc k = 7) (hm : k ∈ ks E) (ht : ρ k 4 = some t) (hq : pc + 3 = q) (kk : AW p l e R s m args below meth c cells slots Q A E ρ q lv (.ref (ad E t) :: st) σ) : AW p l e R s m args below meth c cells slots Q A E ρ pc lv (.ref (ad E k) :: st) σ := fun H locs ls hP hS hl => by
  subst hq
  obtain ⟨i, hi⟩ := ks_at hm
  have he := wl_at ρ σ hi
  unfold en at he
  rw [hk] at he
  have h0 := kk H locs ls hP hS hl
  have hv : rv E (ρ k 4) = .ref (ad E t) := by rw [ht]; rfl
  rw [← hv] at h0
  exact va_get (T := TX7) (N := 6) (ci := 7) cx.1.1 cx.1.2.1 cx.1.2.2.2.2 hin cx.1.2.2.2.1 cx.2.1.1 hP i he rfl 4 (by decide) (cx.1.2.2.2.2 _ hf) (fun _ h => h) rfl hd h0
theorem gX7_5 (cx : Cx p s m args c E A own cc nL Ts) {k t : Ky} {idx : Nat} (hin : ∀ w ∈ u_ws RX7 TX7 6, w ∈ Ts) (hf : Cond.fieldLink own idx (TX7 5).1 (TX7 5).2.1 (TX7 5).2.2.1 ∈ Ts) (hd : decode cc pc = .ok (.getfield idx, 3)) (hk : kc k = 7) (hm : k ∈ ks E) (ht : ρ k 5 = some t) (hq : pc + 3 = q) (kk : AW p l e R s m args below meth c cells slots Q A E ρ q lv (.ref (ad E t) :: st) σ) : AW p l e R s m args below meth c cells slots Q A E ρ pc lv (.ref (ad E k) :: st) σ := fun H locs ls hP hS hl => by
  subst hq
  obtain ⟨i, hi⟩ := ks_at hm
  have he := wl_at ρ σ hi
  unfold en at he
  rw [hk] at he
  have h0 := kk H locs ls hP hS hl
  have hv : rv E (ρ k 5) = .ref (ad E t) := by rw [ht]; rfl
  rw [← hv] at h0
  exact va_get (T := TX7) (N := 6) (ci := 7) cx.1.1 cx.1.2.1 cx.1.2.2.2.2 hin cx.1.2.2.2.1 cx.2.1.1 hP i he rfl 5 (by decide) (cx.1.2.2.2.2 _ hf) (fun _ h => h) rfl hd h0
theorem gX8_0 (cx : Cx p s m args c E A own cc nL Ts) {k : Ky} {idx : Nat} (hin : ∀ w ∈ u_ws RX8 TX8 18, w ∈ Ts) (hf : Cond.fieldLink own idx (TX8 0).1 (TX8 0).2.1 (TX8 0).2.2.1 ∈ Ts) (hd : decode cc pc = .ok (.getfield idx, 3)) (hk : kc k = 8) (hm : k ∈ ks E) (hq : pc + 3 = q) (kk : AW p l e R s m args below meth c cells slots Q A E ρ q lv (.int (σ k 0) :: st) σ) : AW p l e R s m args below meth c cells slots Q A E ρ pc lv (.ref (ad E k) :: st) σ := fun H locs ls hP hS hl => by
  subst hq
  obtain ⟨i, hi⟩ := ks_at hm
  have he := wl_at ρ σ hi
  unfold en at he
  rw [hk] at he
  exact va_get (T := TX8) (N := 18) (ci := 8) cx.1.1 cx.1.2.1 cx.1.2.2.2.2 hin cx.1.2.2.2.1 cx.2.1.1 hP i he rfl 0 (by decide) (cx.1.2.2.2.2 _ hf) (fun _ h => h) rfl hd (kk H locs ls hP hS hl)
theorem pX8_0 (cx : Cx p s m args c E A own cc nL Ts) {k : Ky} {idx : Nat} {x : Int32} (hin : ∀ w ∈ u_ws RX8 TX8 18, w ∈ Ts) (hf : Cond.fieldLink own idx (TX8 0).1 (TX8 0).2.1 (TX8 0).2.2.1 ∈ Ts) (hd : decode cc pc = .ok (.putfield idx, 3)) (hk : kc k = 8) (hm : k ∈ ks E) (hq : pc + 3 = q) (kk : AW p l e R s m args below meth c cells slots Q A E ρ q lv st (up2 σ k 0 x)) : AW p l e R s m args below meth c cells slots Q A E ρ pc lv (.int x :: .ref (ad E k) :: st) σ := fun H locs ls hP hS hl => by
  subst hq
  obtain ⟨i, hi⟩ := ks_at hm
  have he := wl_at ρ σ hi
  unfold en at he
  rw [hk] at he
  refine va_put (T := TX8) (N := 18) (ci := 8) cx.1.1 cx.1.2.1 cx.1.2.2.2.2 hin tyX8 tyX8_ok nmX8 cx.1.2.2.2.1 cx.2.1.1 hP (wl_D cx.2.2.1 cx.2.2.2 ρ σ) hS i he rfl 0 (by decide) (cx.1.2.2.2.2 _ hf) (fun _ h => h) rfl (ty := .int) (by decide +kernel) rfl rfl (Nat.le_of_ble_eq_true rfl) hd (fun H1 locs1 hP1 _ hS1 => ?_)
  have hx : en E ρ (up2 σ k 0 x) k = .inr (8, [.int x, .int (σ k 1), .int (σ k 2), rv E (ρ k 3), rv E (ρ k 4), rv E (ρ k 5), .int (σ k 6), rv E (ρ k 7), rv E (ρ k 8), .int (σ k 9), .int (σ k 10), rv E (ρ k 11), rv E (ρ k 12), rv E (ρ k 13), rv E (ρ k 14), .int (σ k 15), rv E (ρ k 16), rv E (ρ k 17)]) := by unfold en; rw [hk, up2_row]; simp [ec, upd]
  have hP2 : va_P E.1 vwCl ((wl E ρ σ).set i (ad E k, .inr (8, [.int x, .int (σ k 1), .int (σ k 2), rv E (ρ k 3), rv E (ρ k 4), rv E (ρ k 5), .int (σ k 6), rv E (ρ k 7), rv E (ρ k 8), .int (σ k 9), .int (σ k 10), rv E (ρ k 11), rv E (ρ k 12), rv E (ρ k 13), rv E (ρ k 14), .int (σ k 15), rv E (ρ k 16), rv E (ρ k 17)]))) H1 := hP1
  rw [← hx, wl_set ρ cx.2.2.1.1 hi (fun k' h' => en_nk E ρ σ k 0 x h')] at hP2
  exact kk H1 locs1 ls hP2 hS1 hl
theorem gX8_1 (cx : Cx p s m args c E A own cc nL Ts) {k : Ky} {idx : Nat} (hin : ∀ w ∈ u_ws RX8 TX8 18, w ∈ Ts) (hf : Cond.fieldLink own idx (TX8 1).1 (TX8 1).2.1 (TX8 1).2.2.1 ∈ Ts) (hd : decode cc pc = .ok (.getfield idx, 3)) (hk : kc k = 8) (hm : k ∈ ks E) (hq : pc + 3 = q) (kk : AW p l e R s m args below meth c cells slots Q A E ρ q lv (.int (σ k 1) :: st) σ) : AW p l e R s m args below meth c cells slots Q A E ρ pc lv (.ref (ad E k) :: st) σ := fun H locs ls hP hS hl => by
  subst hq
  obtain ⟨i, hi⟩ := ks_at hm
  have he := wl_at ρ σ hi
  unfold en at he
  rw [hk] at he
  exact va_get (T := TX8) (N := 18) (ci := 8) cx.1.1 cx.1.2.1 cx.1.2.2.2.2 hin cx.1.2.2.2.1 cx.2.1.1 hP i he rfl 1 (by decide) (cx.1.2.2.2.2 _ hf) (fun _ h => h) rfl hd (kk H locs ls hP hS hl)
theorem pX8_1 (cx : Cx p s m args c E A own cc nL Ts) {k : Ky} {idx : Nat} {x : Int32} (hin : ∀ w ∈ u_ws RX8 TX8 18, w ∈ Ts) (hf : Cond.fieldLink own idx (TX8 1).1 (TX8 1).2.1 (TX8 1).2.2.1 ∈ Ts) (hd : decode cc pc = .ok (.putfield idx, 3)) (hk : kc k = 8) (hm : k ∈ ks E) (hq : pc + 3 = q) (kk : AW p l e R s m args below meth c cells slots Q A E ρ q lv st (up2 σ k 1 x)) : AW p l e R s m args below meth c cells slots Q A E ρ pc lv (.int x :: .ref (ad E k) :: st) σ := fun H locs ls hP hS hl => by
  subst hq
  obtain ⟨i, hi⟩ := ks_at hm
  have he := wl_at ρ σ hi
  unfold en at he
  rw [hk] at he
  refine va_put (T := TX8) (N := 18) (ci := 8) cx.1.1 cx.1.2.1 cx.1.2.2.2.2 hin tyX8 tyX8_ok nmX8 cx.1.2.2.2.1 cx.2.1.1 hP (wl_D cx.2.2.1 cx.2.2.2 ρ σ) hS i he rfl 1 (by decide) (cx.1.2.2.2.2 _ hf) (fun _ h => h) rfl (ty := .int) (by decide +kernel) rfl rfl (Nat.le_of_ble_eq_true rfl) hd (fun H1 locs1 hP1 _ hS1 => ?_)
  have hx : en E ρ (up2 σ k 1 x) k = .inr (8, [.int (σ k 0), .int x, .int (σ k 2), rv E (ρ k 3), rv E (ρ k 4), rv E (ρ k 5), .int (σ k 6), rv E (ρ k 7), rv E (ρ k 8), .int (σ k 9), .int (σ k 10), rv E (ρ k 11), rv E (ρ k 12), rv E (ρ k 13), rv E (ρ k 14), .int (σ k 15), rv E (ρ k 16), rv E (ρ k 17)]) := by unfold en; rw [hk, up2_row]; simp [ec, upd]
  have hP2 : va_P E.1 vwCl ((wl E ρ σ).set i (ad E k, .inr (8, [.int (σ k 0), .int x, .int (σ k 2), rv E (ρ k 3), rv E (ρ k 4), rv E (ρ k 5), .int (σ k 6), rv E (ρ k 7), rv E (ρ k 8), .int (σ k 9), .int (σ k 10), rv E (ρ k 11), rv E (ρ k 12), rv E (ρ k 13), rv E (ρ k 14), .int (σ k 15), rv E (ρ k 16), rv E (ρ k 17)]))) H1 := hP1
  rw [← hx, wl_set ρ cx.2.2.1.1 hi (fun k' h' => en_nk E ρ σ k 1 x h')] at hP2
  exact kk H1 locs1 ls hP2 hS1 hl
theorem gX8_2 (cx : Cx p s m args c E A own cc nL Ts) {k : Ky} {idx : Nat} (hin : ∀ w ∈ u_ws RX8 TX8 18, w ∈ Ts) (hf : Cond.fieldLink own idx (TX8 2).1 (TX8 2).2.1 (TX8 2).2.2.1 ∈ Ts) (hd : decode cc pc = .ok (.getfield idx, 3)) (hk : kc k = 8) (hm : k ∈ ks E) (hq : pc + 3 = q) (kk : AW p l e R s m args below meth c cells slots Q A E ρ q lv (.int (σ k 2) :: st) σ) : AW p l e R s m args below meth c cells slots Q A E ρ pc lv (.ref (ad E k) :: st) σ := fun H locs ls hP hS hl => by
  subst hq
  obtain ⟨i, hi⟩ := ks_at hm
  have he := wl_at ρ σ hi
  unfold en at he
  rw [hk] at he
  exact va_get (T := TX8) (N := 18) (ci := 8) cx.1.1 cx.1.2.1 cx.1.2.2.2.2 hin cx.1.2.2.2.1 cx.2.1.1 hP i he rfl 2 (by decide) (cx.1.2.2.2.2 _ hf) (fun _ h => h) rfl hd (kk H locs ls hP hS hl)
theorem pX8_2 (cx : Cx p s m args c E A own cc nL Ts) {k : Ky} {idx : Nat} {x : Int32} (hin : ∀ w ∈ u_ws RX8 TX8 18, w ∈ Ts) (hf : Cond.fieldLink own idx (TX8 2).1 (TX8 2).2.1 (TX8 2).2.2.1 ∈ Ts) (hd : decode cc pc = .ok (.putfield idx, 3)) (hk : kc k = 8) (hm : k ∈ ks E) (hq : pc + 3 = q) (kk : AW p l e R s m args below meth c cells slots Q A E ρ q lv st (up2 σ k 2 x)) : AW p l e R s m args below meth c cells slots Q A E ρ pc lv (.int x :: .ref (ad E k) :: st) σ := fun H locs ls hP hS hl => by
  subst hq
  obtain ⟨i, hi⟩ := ks_at hm
  have he := wl_at ρ σ hi
  unfold en at he
  rw [hk] at he
  refine va_put (T := TX8) (N := 18) (ci := 8) cx.1.1 cx.1.2.1 cx.1.2.2.2.2 hin tyX8 tyX8_ok nmX8 cx.1.2.2.2.1 cx.2.1.1 hP (wl_D cx.2.2.1 cx.2.2.2 ρ σ) hS i he rfl 2 (by decide) (cx.1.2.2.2.2 _ hf) (fun _ h => h) rfl (ty := .int) (by decide +kernel) rfl rfl (Nat.le_of_ble_eq_true rfl) hd (fun H1 locs1 hP1 _ hS1 => ?_)
  have hx : en E ρ (up2 σ k 2 x) k = .inr (8, [.int (σ k 0), .int (σ k 1), .int x, rv E (ρ k 3), rv E (ρ k 4), rv E (ρ k 5), .int (σ k 6), rv E (ρ k 7), rv E (ρ k 8), .int (σ k 9), .int (σ k 10), rv E (ρ k 11), rv E (ρ k 12), rv E (ρ k 13), rv E (ρ k 14), .int (σ k 15), rv E (ρ k 16), rv E (ρ k 17)]) := by unfold en; rw [hk, up2_row]; simp [ec, upd]
  have hP2 : va_P E.1 vwCl ((wl E ρ σ).set i (ad E k, .inr (8, [.int (σ k 0), .int (σ k 1), .int x, rv E (ρ k 3), rv E (ρ k 4), rv E (ρ k 5), .int (σ k 6), rv E (ρ k 7), rv E (ρ k 8), .int (σ k 9), .int (σ k 10), rv E (ρ k 11), rv E (ρ k 12), rv E (ρ k 13), rv E (ρ k 14), .int (σ k 15), rv E (ρ k 16), rv E (ρ k 17)]))) H1 := hP1
  rw [← hx, wl_set ρ cx.2.2.1.1 hi (fun k' h' => en_nk E ρ σ k 2 x h')] at hP2
  exact kk H1 locs1 ls hP2 hS1 hl
theorem gX8_3 (cx : Cx p s m args c E A own cc nL Ts) {k t : Ky} {idx : Nat} (hin : ∀ w ∈ u_ws RX8 TX8 18, w ∈ Ts) (hf : Cond.fieldLink own idx (TX8 3).1 (TX8 3).2.1 (TX8 3).2.2.1 ∈ Ts) (hd : decode cc pc = .ok (.getfield idx, 3)) (hk : kc k = 8) (hm : k ∈ ks E) (ht : ρ k 3 = some t) (hq : pc + 3 = q) (kk : AW p l e R s m args below meth c cells slots Q A E ρ q lv (.ref (ad E t) :: st) σ) : AW p l e R s m args below meth c cells slots Q A E ρ pc lv (.ref (ad E k) :: st) σ := fun H locs ls hP hS hl => by
  subst hq
  obtain ⟨i, hi⟩ := ks_at hm
  have he := wl_at ρ σ hi
  unfold en at he
  rw [hk] at he
  have h0 := kk H locs ls hP hS hl
  have hv : rv E (ρ k 3) = .ref (ad E t) := by rw [ht]; rfl
  rw [← hv] at h0
  exact va_get (T := TX8) (N := 18) (ci := 8) cx.1.1 cx.1.2.1 cx.1.2.2.2.2 hin cx.1.2.2.2.1 cx.2.1.1 hP i he rfl 3 (by decide) (cx.1.2.2.2.2 _ hf) (fun _ h => h) rfl hd h0
theorem gX8_4 (cx : Cx p s m args c E A own cc nL Ts) {k t : Ky} {idx : Nat} (hin : ∀ w ∈ u_ws RX8 TX8 18, w ∈ Ts) (hf : Cond.fieldLink own idx (TX8 4).1 (TX8 4).2.1 (TX8 4).2.2.1 ∈ Ts) (hd : decode cc pc = .ok (.getfield idx, 3)) (hk : kc k = 8) (hm : k ∈ ks E) (ht : ρ k 4 = some t) (hq : pc + 3 = q) (kk : AW p l e R s m args below meth c cells slots Q A E ρ q lv (.ref (ad E t) :: st) σ) : AW p l e R s m args below meth c cells slots Q A E ρ pc lv (.ref (ad E k) :: st) σ := fun H locs ls hP hS hl => by
  subst hq
  obtain ⟨i, hi⟩ := ks_at hm
  have he := wl_at ρ σ hi
  unfold en at he
  rw [hk] at he
  have h0 := kk H locs ls hP hS hl
  have hv : rv E (ρ k 4) = .ref (ad E t) := by rw [ht]; rfl
  rw [← hv] at h0
  exact va_get (T := TX8) (N := 18) (ci := 8) cx.1.1 cx.1.2.1 cx.1.2.2.2.2 hin cx.1.2.2.2.1 cx.2.1.1 hP i he rfl 4 (by decide) (cx.1.2.2.2.2 _ hf) (fun _ h => h) rfl hd h0
theorem gX8_5 (cx : Cx p s m args c E A own cc nL Ts) {k t : Ky} {idx : Nat} (hin : ∀ w ∈ u_ws RX8 TX8 18, w ∈ Ts) (hf : Cond.fieldLink own idx (TX8 5).1 (TX8 5).2.1 (TX8 5).2.2.1 ∈ Ts) (hd : decode cc pc = .ok (.getfield idx, 3)) (hk : kc k = 8) (hm : k ∈ ks E) (ht : ρ k 5 = some t) (hq : pc + 3 = q) (kk : AW p l e R s m args below meth c cells slots Q A E ρ q lv (.ref (ad E t) :: st) σ) : AW p l e R s m args below meth c cells slots Q A E ρ pc lv (.ref (ad E k) :: st) σ := fun H locs ls hP hS hl => by
  subst hq
  obtain ⟨i, hi⟩ := ks_at hm
  have he := wl_at ρ σ hi
  unfold en at he
  rw [hk] at he
  have h0 := kk H locs ls hP hS hl
  have hv : rv E (ρ k 5) = .ref (ad E t) := by rw [ht]; rfl
  rw [← hv] at h0
  exact va_get (T := TX8) (N := 18) (ci := 8) cx.1.1 cx.1.2.1 cx.1.2.2.2.2 hin cx.1.2.2.2.1 cx.2.1.1 hP i he rfl 5 (by decide) (cx.1.2.2.2.2 _ hf) (fun _ h => h) rfl hd h0
theorem gX8_6 (cx : Cx p s m args c E A own cc nL Ts) {k : Ky} {idx : Nat} (hin : ∀ w ∈ u_ws RX8 TX8 18, w ∈ Ts) (hf : Cond.fieldLink own idx (TX8 6).1 (TX8 6).2.1 (TX8 6).2.2.1 ∈ Ts) (hd : decode cc pc = .ok (.getfield idx, 3)) (hk : kc k = 8) (hm : k ∈ ks E) (hq : pc + 3 = q) (kk : AW p l e R s m args below meth c cells slots Q A E ρ q lv (.int (σ k 6) :: st) σ) : AW p l e R s m args below meth c cells slots Q A E ρ pc lv (.ref (ad E k) :: st) σ := fun H locs ls hP hS hl => by
  subst hq
  obtain ⟨i, hi⟩ := ks_at hm
  have he := wl_at ρ σ hi
  unfold en at he
  rw [hk] at he
  exact va_get (T := TX8) (N := 18) (ci := 8) cx.1.1 cx.1.2.1 cx.1.2.2.2.2 hin cx.1.2.2.2.1 cx.2.1.1 hP i he rfl 6 (by decide) (cx.1.2.2.2.2 _ hf) (fun _ h => h) rfl hd (kk H locs ls hP hS hl)
theorem pX8_6 (cx : Cx p s m args c E A own cc nL Ts) {k : Ky} {idx : Nat} {x : Int32} (hin : ∀ w ∈ u_ws RX8 TX8 18, w ∈ Ts) (hf : Cond.fieldLink own idx (TX8 6).1 (TX8 6).2.1 (TX8 6).2.2.1 ∈ Ts) (hd : decode cc pc = .ok (.putfield idx, 3)) (hk : kc k = 8) (hm : k ∈ ks E) (hq : pc + 3 = q) (kk : AW p l e R s m args below meth c cells slots Q A E ρ q lv st (up2 σ k 6 x)) : AW p l e R s m args below meth c cells slots Q A E ρ pc lv (.int x :: .ref (ad E k) :: st) σ := fun H locs ls hP hS hl => by
  subst hq
  obtain ⟨i, hi⟩ := ks_at hm
  have he := wl_at ρ σ hi
  unfold en at he
  rw [hk] at he
  refine va_put (T := TX8) (N := 18) (ci := 8) cx.1.1 cx.1.2.1 cx.1.2.2.2.2 hin tyX8 tyX8_ok nmX8 cx.1.2.2.2.1 cx.2.1.1 hP (wl_D cx.2.2.1 cx.2.2.2 ρ σ) hS i he rfl 6 (by decide) (cx.1.2.2.2.2 _ hf) (fun _ h => h) rfl (ty := .int) (by decide +kernel) rfl rfl (Nat.le_of_ble_eq_true rfl) hd (fun H1 locs1 hP1 _ hS1 => ?_)
  have hx : en E ρ (up2 σ k 6 x) k = .inr (8, [.int (σ k 0), .int (σ k 1), .int (σ k 2), rv E (ρ k 3), rv E (ρ k 4), rv E (ρ k 5), .int x, rv E (ρ k 7), rv E (ρ k 8), .int (σ k 9), .int (σ k 10), rv E (ρ k 11), rv E (ρ k 12), rv E (ρ k 13), rv E (ρ k 14), .int (σ k 15), rv E (ρ k 16), rv E (ρ k 17)]) := by unfold en; rw [hk, up2_row]; simp [ec, upd]
  have hP2 : va_P E.1 vwCl ((wl E ρ σ).set i (ad E k, .inr (8, [.int (σ k 0), .int (σ k 1), .int (σ k 2), rv E (ρ k 3), rv E (ρ k 4), rv E (ρ k 5), .int x, rv E (ρ k 7), rv E (ρ k 8), .int (σ k 9), .int (σ k 10), rv E (ρ k 11), rv E (ρ k 12), rv E (ρ k 13), rv E (ρ k 14), .int (σ k 15), rv E (ρ k 16), rv E (ρ k 17)]))) H1 := hP1
  rw [← hx, wl_set ρ cx.2.2.1.1 hi (fun k' h' => en_nk E ρ σ k 6 x h')] at hP2
  exact kk H1 locs1 ls hP2 hS1 hl
theorem gX8_7 (cx : Cx p s m args c E A own cc nL Ts) {k t : Ky} {idx : Nat} (hin : ∀ w ∈ u_ws RX8 TX8 18, w ∈ Ts) (hf : Cond.fieldLink own idx (TX8 7).1 (TX8 7).2.1 (TX8 7).2.2.1 ∈ Ts) (hd : decode cc pc = .ok (.getfield idx, 3)) (hk : kc k = 8) (hm : k ∈ ks E) (ht : ρ k 7 = some t) (hq : pc + 3 = q) (kk : AW p l e R s m args below meth c cells slots Q A E ρ q lv (.ref (ad E t) :: st) σ) : AW p l e R s m args below meth c cells slots Q A E ρ pc lv (.ref (ad E k) :: st) σ := fun H locs ls hP hS hl => by
  subst hq
  obtain ⟨i, hi⟩ := ks_at hm
  have he := wl_at ρ σ hi
  unfold en at he
  rw [hk] at he
  have h0 := kk H locs ls hP hS hl
  have hv : rv E (ρ k 7) = .ref (ad E t) := by rw [ht]; rfl
  rw [← hv] at h0
  exact va_get (T := TX8) (N := 18) (ci := 8) cx.1.1 cx.1.2.1 cx.1.2.2.2.2 hin cx.1.2.2.2.1 cx.2.1.1 hP i he rfl 7 (by decide) (cx.1.2.2.2.2 _ hf) (fun _ h => h) rfl hd h0
theorem gX8_8 (cx : Cx p s m args c E A own cc nL Ts) {k t : Ky} {idx : Nat} (hin : ∀ w ∈ u_ws RX8 TX8 18, w ∈ Ts) (hf : Cond.fieldLink own idx (TX8 8).1 (TX8 8).2.1 (TX8 8).2.2.1 ∈ Ts) (hd : decode cc pc = .ok (.getfield idx, 3)) (hk : kc k = 8) (hm : k ∈ ks E) (ht : ρ k 8 = some t) (hq : pc + 3 = q) (kk : AW p l e R s m args below meth c cells slots Q A E ρ q lv (.ref (ad E t) :: st) σ) : AW p l e R s m args below meth c cells slots Q A E ρ pc lv (.ref (ad E k) :: st) σ := fun H locs ls hP hS hl => by
  subst hq
  obtain ⟨i, hi⟩ := ks_at hm
  have he := wl_at ρ σ hi
  unfold en at he
  rw [hk] at he
  have h0 := kk H locs ls hP hS hl
  have hv : rv E (ρ k 8) = .ref (ad E t) := by rw [ht]; rfl
  rw [← hv] at h0
  exact va_get (T := TX8) (N := 18) (ci := 8) cx.1.1 cx.1.2.1 cx.1.2.2.2.2 hin cx.1.2.2.2.1 cx.2.1.1 hP i he rfl 8 (by decide) (cx.1.2.2.2.2 _ hf) (fun _ h => h) rfl hd h0
theorem gX8_9 (cx : Cx p s m args c E A own cc nL Ts) {k : Ky} {idx : Nat} (hin : ∀ w ∈ u_ws RX8 TX8 18, w ∈ Ts) (hf : Cond.fieldLink own idx (TX8 9).1 (TX8 9).2.1 (TX8 9).2.2.1 ∈ Ts) (hd : decode cc pc = .ok (.getfield idx, 3)) (hk : kc k = 8) (hm : k ∈ ks E) (hq : pc + 3 = q) (kk : AW p l e R s m args below meth c cells slots Q A E ρ q lv (.int (σ k 9) :: st) σ) : AW p l e R s m args below meth c cells slots Q A E ρ pc lv (.ref (ad E k) :: st) σ := fun H locs ls hP hS hl => by
  subst hq
  obtain ⟨i, hi⟩ := ks_at hm
  have he := wl_at ρ σ hi
  unfold en at he
  rw [hk] at he
  exact va_get (T := TX8) (N := 18) (ci := 8) cx.1.1 cx.1.2.1 cx.1.2.2.2.2 hin cx.1.2.2.2.1 cx.2.1.1 hP i he rfl 9 (by decide) (cx.1.2.2.2.2 _ hf) (fun _ h => h) rfl hd (kk H locs ls hP hS hl)
theorem pX8_9 (cx : Cx p s m args c E A own cc nL Ts) {k : Ky} {idx : Nat} {x : Int32} (hin : ∀ w ∈ u_ws RX8 TX8 18, w ∈ Ts) (hf : Cond.fieldLink own idx (TX8 9).1 (TX8 9).2.1 (TX8 9).2.2.1 ∈ Ts) (hd : decode cc pc = .ok (.putfield idx, 3)) (hk : kc k = 8) (hm : k ∈ ks E) (hq : pc + 3 = q) (kk : AW p l e R s m args below meth c cells slots Q A E ρ q lv st (up2 σ k 9 x)) : AW p l e R s m args below meth c cells slots Q A E ρ pc lv (.int x :: .ref (ad E k) :: st) σ := fun H locs ls hP hS hl => by
  subst hq
  obtain ⟨i, hi⟩ := ks_at hm
  have he := wl_at ρ σ hi
  unfold en at he
  rw [hk] at he
  refine va_put (T := TX8) (N := 18) (ci := 8) cx.1.1 cx.1.2.1 cx.1.2.2.2.2 hin tyX8 tyX8_ok nmX8 cx.1.2.2.2.1 cx.2.1.1 hP (wl_D cx.2.2.1 cx.2.2.2 ρ σ) hS i he rfl 9 (by decide) (cx.1.2.2.2.2 _ hf) (fun _ h => h) rfl (ty := .int) (by decide +kernel) rfl rfl (Nat.le_of_ble_eq_true rfl) hd (fun H1 locs1 hP1 _ hS1 => ?_)
  have hx : en E ρ (up2 σ k 9 x) k = .inr (8, [.int (σ k 0), .int (σ k 1), .int (σ k 2), rv E (ρ k 3), rv E (ρ k 4), rv E (ρ k 5), .int (σ k 6), rv E (ρ k 7), rv E (ρ k 8), .int x, .int (σ k 10), rv E (ρ k 11), rv E (ρ k 12), rv E (ρ k 13), rv E (ρ k 14), .int (σ k 15), rv E (ρ k 16), rv E (ρ k 17)]) := by unfold en; rw [hk, up2_row]; simp [ec, upd]
  have hP2 : va_P E.1 vwCl ((wl E ρ σ).set i (ad E k, .inr (8, [.int (σ k 0), .int (σ k 1), .int (σ k 2), rv E (ρ k 3), rv E (ρ k 4), rv E (ρ k 5), .int (σ k 6), rv E (ρ k 7), rv E (ρ k 8), .int x, .int (σ k 10), rv E (ρ k 11), rv E (ρ k 12), rv E (ρ k 13), rv E (ρ k 14), .int (σ k 15), rv E (ρ k 16), rv E (ρ k 17)]))) H1 := hP1
  rw [← hx, wl_set ρ cx.2.2.1.1 hi (fun k' h' => en_nk E ρ σ k 9 x h')] at hP2
  exact kk H1 locs1 ls hP2 hS1 hl
theorem gX8_10 (cx : Cx p s m args c E A own cc nL Ts) {k : Ky} {idx : Nat} (hin : ∀ w ∈ u_ws RX8 TX8 18, w ∈ Ts) (hf : Cond.fieldLink own idx (TX8 10).1 (TX8 10).2.1 (TX8 10).2.2.1 ∈ Ts) (hd : decode cc pc = .ok (.getfield idx, 3)) (hk : kc k = 8) (hm : k ∈ ks E) (hq : pc + 3 = q) (kk : AW p l e R s m args below meth c cells slots Q A E ρ q lv (.int (σ k 10) :: st) σ) : AW p l e R s m args below meth c cells slots Q A E ρ pc lv (.ref (ad E k) :: st) σ := fun H locs ls hP hS hl => by
  subst hq
  obtain ⟨i, hi⟩ := ks_at hm
  have he := wl_at ρ σ hi
  unfold en at he
  rw [hk] at he
  exact va_get (T := TX8) (N := 18) (ci := 8) cx.1.1 cx.1.2.1 cx.1.2.2.2.2 hin cx.1.2.2.2.1 cx.2.1.1 hP i he rfl 10 (by decide) (cx.1.2.2.2.2 _ hf) (fun _ h => h) rfl hd (kk H locs ls hP hS hl)
theorem pX8_10 (cx : Cx p s m args c E A own cc nL Ts) {k : Ky} {idx : Nat} {x : Int32} (hin : ∀ w ∈ u_ws RX8 TX8 18, w ∈ Ts) (hf : Cond.fieldLink own idx (TX8 10).1 (TX8 10).2.1 (TX8 10).2.2.1 ∈ Ts) (hd : decode cc pc = .ok (.putfield idx, 3)) (hk : kc k = 8) (hm : k ∈ ks E) (hq : pc + 3 = q) (kk : AW p l e R s m args below meth c cells slots Q A E ρ q lv st (up2 σ k 10 x)) : AW p l e R s m args below meth c cells slots Q A E ρ pc lv (.int x :: .ref (ad E k) :: st) σ := fun H locs ls hP hS hl => by
  subst hq
  obtain ⟨i, hi⟩ := ks_at hm
  have he := wl_at ρ σ hi
  unfold en at he
  rw [hk] at he
  refine va_put (T := TX8) (N := 18) (ci := 8) cx.1.1 cx.1.2.1 cx.1.2.2.2.2 hin tyX8 tyX8_ok nmX8 cx.1.2.2.2.1 cx.2.1.1 hP (wl_D cx.2.2.1 cx.2.2.2 ρ σ) hS i he rfl 10 (by decide) (cx.1.2.2.2.2 _ hf) (fun _ h => h) rfl (ty := .int) (by decide +kernel) rfl rfl (Nat.le_of_ble_eq_true rfl) hd (fun H1 locs1 hP1 _ hS1 => ?_)
  have hx : en E ρ (up2 σ k 10 x) k = .inr (8, [.int (σ k 0), .int (σ k 1), .int (σ k 2), rv E (ρ k 3), rv E (ρ k 4), rv E (ρ k 5), .int (σ k 6), rv E (ρ k 7), rv E (ρ k 8), .int (σ k 9), .int x, rv E (ρ k 11), rv E (ρ k 12), rv E (ρ k 13), rv E (ρ k 14), .int (σ k 15), rv E (ρ k 16), rv E (ρ k 17)]) := by unfold en; rw [hk, up2_row]; simp [ec, upd]
  have hP2 : va_P E.1 vwCl ((wl E ρ σ).set i (ad E k, .inr (8, [.int (σ k 0), .int (σ k 1), .int (σ k 2), rv E (ρ k 3), rv E (ρ k 4), rv E (ρ k 5), .int (σ k 6), rv E (ρ k 7), rv E (ρ k 8), .int (σ k 9), .int x, rv E (ρ k 11), rv E (ρ k 12), rv E (ρ k 13), rv E (ρ k 14), .int (σ k 15), rv E (ρ k 16), rv E (ρ k 17)]))) H1 := hP1
  rw [← hx, wl_set ρ cx.2.2.1.1 hi (fun k' h' => en_nk E ρ σ k 10 x h')] at hP2
  exact kk H1 locs1 ls hP2 hS1 hl
theorem gX8_11 (cx : Cx p s m args c E A own cc nL Ts) {k t : Ky} {idx : Nat} (hin : ∀ w ∈ u_ws RX8 TX8 18, w ∈ Ts) (hf : Cond.fieldLink own idx (TX8 11).1 (TX8 11).2.1 (TX8 11).2.2.1 ∈ Ts) (hd : decode cc pc = .ok (.getfield idx, 3)) (hk : kc k = 8) (hm : k ∈ ks E) (ht : ρ k 11 = some t) (hq : pc + 3 = q) (kk : AW p l e R s m args below meth c cells slots Q A E ρ q lv (.ref (ad E t) :: st) σ) : AW p l e R s m args below meth c cells slots Q A E ρ pc lv (.ref (ad E k) :: st) σ := fun H locs ls hP hS hl => by
  subst hq
  obtain ⟨i, hi⟩ := ks_at hm
  have he := wl_at ρ σ hi
  unfold en at he
  rw [hk] at he
  have h0 := kk H locs ls hP hS hl
  have hv : rv E (ρ k 11) = .ref (ad E t) := by rw [ht]; rfl
  rw [← hv] at h0
  exact va_get (T := TX8) (N := 18) (ci := 8) cx.1.1 cx.1.2.1 cx.1.2.2.2.2 hin cx.1.2.2.2.1 cx.2.1.1 hP i he rfl 11 (by decide) (cx.1.2.2.2.2 _ hf) (fun _ h => h) rfl hd h0
theorem gX8_12 (cx : Cx p s m args c E A own cc nL Ts) {k t : Ky} {idx : Nat} (hin : ∀ w ∈ u_ws RX8 TX8 18, w ∈ Ts) (hf : Cond.fieldLink own idx (TX8 12).1 (TX8 12).2.1 (TX8 12).2.2.1 ∈ Ts) (hd : decode cc pc = .ok (.getfield idx, 3)) (hk : kc k = 8) (hm : k ∈ ks E) (ht : ρ k 12 = some t) (hq : pc + 3 = q) (kk : AW p l e R s m args below meth c cells slots Q A E ρ q lv (.ref (ad E t) :: st) σ) : AW p l e R s m args below meth c cells slots Q A E ρ pc lv (.ref (ad E k) :: st) σ := fun H locs ls hP hS hl => by
  subst hq
  obtain ⟨i, hi⟩ := ks_at hm
  have he := wl_at ρ σ hi
  unfold en at he
  rw [hk] at he
  have h0 := kk H locs ls hP hS hl
  have hv : rv E (ρ k 12) = .ref (ad E t) := by rw [ht]; rfl
  rw [← hv] at h0
  exact va_get (T := TX8) (N := 18) (ci := 8) cx.1.1 cx.1.2.1 cx.1.2.2.2.2 hin cx.1.2.2.2.1 cx.2.1.1 hP i he rfl 12 (by decide) (cx.1.2.2.2.2 _ hf) (fun _ h => h) rfl hd h0
theorem gX8_13 (cx : Cx p s m args c E A own cc nL Ts) {k t : Ky} {idx : Nat} (hin : ∀ w ∈ u_ws RX8 TX8 18, w ∈ Ts) (hf : Cond.fieldLink own idx (TX8 13).1 (TX8 13).2.1 (TX8 13).2.2.1 ∈ Ts) (hd : decode cc pc = .ok (.getfield idx, 3)) (hk : kc k = 8) (hm : k ∈ ks E) (ht : ρ k 13 = some t) (hq : pc + 3 = q) (kk : AW p l e R s m args below meth c cells slots Q A E ρ q lv (.ref (ad E t) :: st) σ) : AW p l e R s m args below meth c cells slots Q A E ρ pc lv (.ref (ad E k) :: st) σ := fun H locs ls hP hS hl => by
  subst hq
  obtain ⟨i, hi⟩ := ks_at hm
  have he := wl_at ρ σ hi
  unfold en at he
  rw [hk] at he
  have h0 := kk H locs ls hP hS hl
  have hv : rv E (ρ k 13) = .ref (ad E t) := by rw [ht]; rfl
  rw [← hv] at h0
  exact va_get (T := TX8) (N := 18) (ci := 8) cx.1.1 cx.1.2.1 cx.1.2.2.2.2 hin cx.1.2.2.2.1 cx.2.1.1 hP i he rfl 13 (by decide) (cx.1.2.2.2.2 _ hf) (fun _ h => h) rfl hd h0
theorem gX8_14 (cx : Cx p s m args c E A own cc nL Ts) {k t : Ky} {idx : Nat} (hin : ∀ w ∈ u_ws RX8 TX8 18, w ∈ Ts) (hf : Cond.fieldLink own idx (TX8 14).1 (TX8 14).2.1 (TX8 14).2.2.1 ∈ Ts) (hd : decode cc pc = .ok (.getfield idx, 3)) (hk : kc k = 8) (hm : k ∈ ks E) (ht : ρ k 14 = some t) (hq : pc + 3 = q) (kk : AW p l e R s m args below meth c cells slots Q A E ρ q lv (.ref (ad E t) :: st) σ) : AW p l e R s m args below meth c cells slots Q A E ρ pc lv (.ref (ad E k) :: st) σ := fun H locs ls hP hS hl => by
  subst hq
  obtain ⟨i, hi⟩ := ks_at hm
  have he := wl_at ρ σ hi
  unfold en at he
  rw [hk] at he
  have h0 := kk H locs ls hP hS hl
  have hv : rv E (ρ k 14) = .ref (ad E t) := by rw [ht]; rfl
  rw [← hv] at h0
  exact va_get (T := TX8) (N := 18) (ci := 8) cx.1.1 cx.1.2.1 cx.1.2.2.2.2 hin cx.1.2.2.2.1 cx.2.1.1 hP i he rfl 14 (by decide) (cx.1.2.2.2.2 _ hf) (fun _ h => h) rfl hd h0
theorem gX8_15 (cx : Cx p s m args c E A own cc nL Ts) {k : Ky} {idx : Nat} (hin : ∀ w ∈ u_ws RX8 TX8 18, w ∈ Ts) (hf : Cond.fieldLink own idx (TX8 15).1 (TX8 15).2.1 (TX8 15).2.2.1 ∈ Ts) (hd : decode cc pc = .ok (.getfield idx, 3)) (hk : kc k = 8) (hm : k ∈ ks E) (hq : pc + 3 = q) (kk : AW p l e R s m args below meth c cells slots Q A E ρ q lv (.int (σ k 15) :: st) σ) : AW p l e R s m args below meth c cells slots Q A E ρ pc lv (.ref (ad E k) :: st) σ := fun H locs ls hP hS hl => by
  subst hq
  obtain ⟨i, hi⟩ := ks_at hm
  have he := wl_at ρ σ hi
  unfold en at he
  rw [hk] at he
  exact va_get (T := TX8) (N := 18) (ci := 8) cx.1.1 cx.1.2.1 cx.1.2.2.2.2 hin cx.1.2.2.2.1 cx.2.1.1 hP i he rfl 15 (by decide) (cx.1.2.2.2.2 _ hf) (fun _ h => h) rfl hd (kk H locs ls hP hS hl)
theorem pX8_15 (cx : Cx p s m args c E A own cc nL Ts) {k : Ky} {idx : Nat} {x : Int32} (hin : ∀ w ∈ u_ws RX8 TX8 18, w ∈ Ts) (hf : Cond.fieldLink own idx (TX8 15).1 (TX8 15).2.1 (TX8 15).2.2.1 ∈ Ts) (hd : decode cc pc = .ok (.putfield idx, 3)) (hk : kc k = 8) (hm : k ∈ ks E) (hq : pc + 3 = q) (kk : AW p l e R s m args below meth c cells slots Q A E ρ q lv st (up2 σ k 15 x)) : AW p l e R s m args below meth c cells slots Q A E ρ pc lv (.int x :: .ref (ad E k) :: st) σ := fun H locs ls hP hS hl => by
  subst hq
  obtain ⟨i, hi⟩ := ks_at hm
  have he := wl_at ρ σ hi
  unfold en at he
  rw [hk] at he
  refine va_put (T := TX8) (N := 18) (ci := 8) cx.1.1 cx.1.2.1 cx.1.2.2.2.2 hin tyX8 tyX8_ok nmX8 cx.1.2.2.2.1 cx.2.1.1 hP (wl_D cx.2.2.1 cx.2.2.2 ρ σ) hS i he rfl 15 (by decide) (cx.1.2.2.2.2 _ hf) (fun _ h => h) rfl (ty := .int) (by decide +kernel) rfl rfl (Nat.le_of_ble_eq_true rfl) hd (fun H1 locs1 hP1 _ hS1 => ?_)
  have hx : en E ρ (up2 σ k 15 x) k = .inr (8, [.int (σ k 0), .int (σ k 1), .int (σ k 2), rv E (ρ k 3), rv E (ρ k 4), rv E (ρ k 5), .int (σ k 6), rv E (ρ k 7), rv E (ρ k 8), .int (σ k 9), .int (σ k 10), rv E (ρ k 11), rv E (ρ k 12), rv E (ρ k 13), rv E (ρ k 14), .int x, rv E (ρ k 16), rv E (ρ k 17)]) := by unfold en; rw [hk, up2_row]; simp [ec, upd]
  have hP2 : va_P E.1 vwCl ((wl E ρ σ).set i (ad E k, .inr (8, [.int (σ k 0), .int (σ k 1), .int (σ k 2), rv E (ρ k 3), rv E (ρ k 4), rv E (ρ k 5), .int (σ k 6), rv E (ρ k 7), rv E (ρ k 8), .int (σ k 9), .int (σ k 10), rv E (ρ k 11), rv E (ρ k 12), rv E (ρ k 13), rv E (ρ k 14), .int x, rv E (ρ k 16), rv E (ρ k 17)]))) H1 := hP1
  rw [← hx, wl_set ρ cx.2.2.1.1 hi (fun k' h' => en_nk E ρ σ k 15 x h')] at hP2
  exact kk H1 locs1 ls hP2 hS1 hl
theorem gX8_16 (cx : Cx p s m args c E A own cc nL Ts) {k t : Ky} {idx : Nat} (hin : ∀ w ∈ u_ws RX8 TX8 18, w ∈ Ts) (hf : Cond.fieldLink own idx (TX8 16).1 (TX8 16).2.1 (TX8 16).2.2.1 ∈ Ts) (hd : decode cc pc = .ok (.getfield idx, 3)) (hk : kc k = 8) (hm : k ∈ ks E) (ht : ρ k 16 = some t) (hq : pc + 3 = q) (kk : AW p l e R s m args below meth c cells slots Q A E ρ q lv (.ref (ad E t) :: st) σ) : AW p l e R s m args below meth c cells slots Q A E ρ pc lv (.ref (ad E k) :: st) σ := fun H locs ls hP hS hl => by
  subst hq
  obtain ⟨i, hi⟩ := ks_at hm
  have he := wl_at ρ σ hi
  unfold en at he
  rw [hk] at he
  have h0 := kk H locs ls hP hS hl
  have hv : rv E (ρ k 16) = .ref (ad E t) := by rw [ht]; rfl
  rw [← hv] at h0
  exact va_get (T := TX8) (N := 18) (ci := 8) cx.1.1 cx.1.2.1 cx.1.2.2.2.2 hin cx.1.2.2.2.1 cx.2.1.1 hP i he rfl 16 (by decide) (cx.1.2.2.2.2 _ hf) (fun _ h => h) rfl hd h0
theorem gX8_17 (cx : Cx p s m args c E A own cc nL Ts) {k t : Ky} {idx : Nat} (hin : ∀ w ∈ u_ws RX8 TX8 18, w ∈ Ts) (hf : Cond.fieldLink own idx (TX8 17).1 (TX8 17).2.1 (TX8 17).2.2.1 ∈ Ts) (hd : decode cc pc = .ok (.getfield idx, 3)) (hk : kc k = 8) (hm : k ∈ ks E) (ht : ρ k 17 = some t) (hq : pc + 3 = q) (kk : AW p l e R s m args below meth c cells slots Q A E ρ q lv (.ref (ad E t) :: st) σ) : AW p l e R s m args below meth c cells slots Q A E ρ pc lv (.ref (ad E k) :: st) σ := fun H locs ls hP hS hl => by
  subst hq
  obtain ⟨i, hi⟩ := ks_at hm
  have he := wl_at ρ σ hi
  unfold en at he
  rw [hk] at he
  have h0 := kk H locs ls hP hS hl
  have hv : rv E (ρ k 17) = .ref (ad E t) := by rw [ht]; rfl
  rw [← hv] at h0
  exact va_get (T := TX8) (N := 18) (ci := 8) cx.1.1 cx.1.2.1 cx.1.2.2.2.2 hin cx.1.2.2.2.1 cx.2.1.1 hP i he rfl 17 (by decide) (cx.1.2.2.2.2 _ hf) (fun _ h => h) rfl hd h0
end RULES
end
section
theorem lg_len : ∀ {as : List Value}, argsOk as → (lg_sl as).length = as.length
  | [], _ => rfl
  | a :: as, hc => by
    have ha : ¬ a.category = 2 := by rw [hc a List.mem_cons_self]; decide
    have h2 := lg_len (as := as) (fun v h => hc v (List.mem_cons_of_mem _ h))
    show (lg_sl ([a] ++ as)).length = as.length + 1
    unfold lg_sl at h2 ⊢
    rw [List.flatMap_append, List.length_append, h2]
    simp [ha]
    omega
theorem met_of {l : Launch} {y : MethodName} {ws ws' : List Cond} {fr lc : Nat} {E : Ev} {ρ : Rh} {as : List Value} {σ : Sg} {Qc : Array Value → State → Outcome → State → Prop} {cc : ByteArray} {maxL : Nat} {ret : Option FieldType} {lv : List (Option Value)} (own : String) (hy : plainName y.cls = true) (ho : y.cls = own) (hlv : lv0 as maxL = lv) (hw : ws = Cond.code y cc maxL ret :: ws') (hE : okE E) (hc : argsOk as) (hn : as.length ≤ maxL)
    (body : ∀ (p : Program) (e : Env) (s : State) (m : MethodId) (below : List Frame) (meth : Method) (c : Code), Cx p s m as.toArray c E (AL E) own cc maxL ws → meth.locks = false → meth.sig.returnType = ret → AW p l e (rmm fr lc) s m as.toArray below meth c 0 0 (MQ below Qc as.toArray s 0 0 (AL E)) (AL E) E ρ 0 lv [] σ) : Met l y ws (rmm fr lc) (PW E ρ σ as) Qc 0 0 (AL E) := by
  have hl : (lg_sl as).length ≤ maxL := by rw [lg_len hc]; exact hn
  refine Met.ofW (cc := cc) (maxL := maxL) (ret := ret) hy hw ?_
  intro p e s m args below meth c s₁ B hml hv
  obtain ⟨rfl, hP, hsw⟩ := hv
  subst ho hlv
  rw [lg_entry_eq]
  exact body p e s m below meth c ⟨⟨B.exec, B.bytes, hml, findClass_of_methodNamed B.named, atoms_spec (ws := ws) B.pre⟩, hsw, hE, fun k hk => ⟨k, hk, rfl⟩⟩ B.notSynchronized B.returns s.heap [] _ hP va_S.rf (hs_entry hc hn hl)
theorem ok0 : argsOk [] := fun _ h => absurd h List.not_mem_nil
theorem ok1 {a1 : Value} (h1 : a1.category = 1) : argsOk [a1] := List.forall_mem_cons.mpr ⟨h1, fun _ h => absurd h List.not_mem_nil⟩
theorem ok2 {a1 a2 : Value} (h1 : a1.category = 1) (h2 : a2.category = 1) : argsOk [a1, a2] := List.forall_mem_cons.mpr ⟨h1, List.forall_mem_cons.mpr ⟨h2, fun _ h => absurd h List.not_mem_nil⟩⟩
theorem ok3 {a1 a2 a3 : Value} (h1 : a1.category = 1) (h2 : a2.category = 1) (h3 : a3.category = 1) : argsOk [a1, a2, a3] := List.forall_mem_cons.mpr ⟨h1, List.forall_mem_cons.mpr ⟨h2, List.forall_mem_cons.mpr ⟨h3, fun _ h => absurd h List.not_mem_nil⟩⟩⟩
theorem ok4 {a1 a2 a3 a4 : Value} (h1 : a1.category = 1) (h2 : a2.category = 1) (h3 : a3.category = 1) (h4 : a4.category = 1) : argsOk [a1, a2, a3, a4] := List.forall_mem_cons.mpr ⟨h1, List.forall_mem_cons.mpr ⟨h2, List.forall_mem_cons.mpr ⟨h3, List.forall_mem_cons.mpr ⟨h4, fun _ h => absurd h List.not_mem_nil⟩⟩⟩⟩
theorem ok5 {a1 a2 a3 a4 a5 : Value} (h1 : a1.category = 1) (h2 : a2.category = 1) (h3 : a3.category = 1) (h4 : a4.category = 1) (h5 : a5.category = 1) : argsOk [a1, a2, a3, a4, a5] := List.forall_mem_cons.mpr ⟨h1, List.forall_mem_cons.mpr ⟨h2, List.forall_mem_cons.mpr ⟨h3, List.forall_mem_cons.mpr ⟨h4, List.forall_mem_cons.mpr ⟨h5, fun _ h => absurd h List.not_mem_nil⟩⟩⟩⟩⟩
section CALLS
variable {p : Program} {l : Launch} {e : Env} {R : Room} {s : State} {m : MethodId} {args : Array Value} {below : List Frame} {meth : Method} {c : Code} {cells slots : Nat} {Q : State → Prop} {A : Nat → Prop} {E : Ev} {ρ : Rh} {own : String} {cc : ByteArray} {nL : Nat} {Ts : List Cond} {pc q : Nat} {lv lv' : List (Option Value)} {st : List Value} {σ σ' : Sg}
variable {y : MethodName} {ws : List Cond} {fr lc : Nat} {Qc : Array Value → State → Outcome → State → Prop} {idx maxL n ci : Nat} {C : String} {T : u_T} {N : Nat} {bytes : ByteArray} {ret : Option FieldType}
theorem A_iret (cx : Cx p s m args c E (AL E) own cc nL Ts) (hlk : meth.locks = false) (hr : meth.sig.returnType = some .int) (hd : decode cc pc = .ok (.ireturn, 1)) {x r : Int32} (h1 : x = r) (h2 : σ = σ') : AW p l e R s m args below meth c 0 0 (MQ below (QI E ρ r σ') args s 0 0 (AL E)) (AL E) E ρ pc lv [.int x] σ := by
  subst h1 h2
  intro H locs ls hP hS hl
  exact W.iret cx.1.1 cx.1.2.1 hr (fun t ht hW => ⟨⟨x, σ, rfl, ⟨rfl, rfl⟩, by show va_P _ _ _ t.heap; rw [ht]; exact hP⟩, hS.F ht⟩) hS.2.2 hd hlk
theorem A_zret (cx : Cx p s m args c E (AL E) own cc nL Ts) (hlk : meth.locks = false) (hr : meth.sig.returnType = some .boolean) (hd : decode cc pc = .ok (.ireturn, 1)) {x r : Int32} (hz : x = 0 ∨ x = 1) (h1 : x = r) (h2 : σ = σ') : AW p l e R s m args below meth c 0 0 (MQ below (QI E ρ r σ') args s 0 0 (AL E)) (AL E) E ρ pc lv [.int x] σ := by
  subst h1 h2
  intro H locs ls hP hS hl
  exact W.zret cx.1.1 cx.1.2.1 hr (by rcases hz with rfl | rfl <;> rfl) (fun t ht hW => ⟨⟨x, σ, rfl, ⟨rfl, rfl⟩, by show va_P _ _ _ t.heap; rw [ht]; exact hP⟩, hS.F ht⟩) hS.2.2 hd hlk
theorem A_vret (cx : Cx p s m args c E (AL E) own cc nL Ts) (hlk : meth.locks = false) (hr : meth.sig.returnType = none) (hd : decode cc pc = .ok (.return_, 1)) (h2 : σ = σ') : AW p l e R s m args below meth c 0 0 (MQ below (QV E ρ σ') args s 0 0 (AL E)) (AL E) E ρ pc lv [] σ := by
  subst h2
  intro H locs ls hP hS hl
  exact W.vret cx.1.1 cx.1.2.1 hr (fun t ht hW => ⟨⟨σ, rfl, rfl, by show va_P _ _ _ t.heap; rw [ht]; exact hP⟩, hS.F ht⟩) hS.2.2 hd hlk
theorem A_aret (cx : Cx p s m args c E (AL E) own cc nL Ts) (hlk : meth.locks = false) {cn : String} (hr : meth.sig.returnType = some (.object cn)) (hd : decode cc pc = .ok (.areturn, 1)) {v : Value} {r : Option Ky} (h1 : v = rv E r) (h2 : σ = σ') : AW p l e R s m args below meth c 0 0 (MQ below (QQ E ρ r σ') args s 0 0 (AL E)) (AL E) E ρ pc lv [v] σ := by
  subst h1 h2
  intro H locs ls hP hS hl
  exact W.aret cx.1.1 cx.1.2.1 hr (Or.inl ⟨cn, rfl⟩) (isR_of (isR_rv E r)) (fun t ht hW => ⟨⟨r.map (ad E), σ, rfl, ⟨rfl, rfl⟩, by show va_P _ _ _ t.heap; rw [ht]; exact hP⟩, hS.F ht⟩) hS.2.2 hd hlk
theorem pw_blind (E : Ev) (ρ : Rh) (σ : Sg) (as : List Value) : FrameBlind (PW E ρ σ as) := by
  intro a U g mk h
  obtain ⟨h1, h2, h3, h4, h5⟩ := h
  exact ⟨h1, h2, va_K.moved (u := U) (U := U.calling g mk a) (Vm.Alike.refl U.vm) h3, va_Nw.same rfl rfl h4, va_Nw.same rfl rfl h5⟩
theorem ec_obj (E : Ev) (n : Nat) (r : Nat → Option Ky) (f : Nat → Int32) {ci : Nat} (h : ci < 9) : ∃ fs, ec E n r f ci = .inr (ci, fs) := by
  match ci, h with
  | 0, _ | 1, _ | 2, _ | 3, _ | 4, _ | 5, _ | 6, _ | 7, _ | 8, _ => exact ⟨_, rfl⟩
theorem vw_lt {ci : Nat} {q : vw_C} (h : vwCl[ci]? = some q) : ci < 9 := (List.getElem?_eq_some_iff.mp h).1
theorem runV0 (cx : Cx p s m args c E A own cc nL Ts) {k : Ky} (hM : Met l y ws (rmm fr lc) (PW E ρ σ [.ref (ad E k)]) Qc 0 0 (AL E)) (cw : CallW R s args own C idx y bytes maxL ret ws (rmm fr lc) 0 0 0) (hd : decode cc pc = .ok (.invokevirtual idx, 3)) (hk : kc k = ci) (hci : vwCl[ci]? = some (C, T, N)) (hm : k ∈ ks E) (hlv : lv.length = nL) (hcat : (st.map fun v => v.category).sum ≤ 8) (hcs : cells ≤ R.cells ∧ slots ≤ R.slots) (H : Heap) (locs : List Loc) (ls : Array Slot) (hP : va_P E.1 vwCl (wl E ρ σ) H) (hl : hs ls lv) : va_Run p l e R s m args below meth c H locs cells slots 0 0 (F0 m pc ls (.ref (ad E k) :: st)) st (Qc [.ref (ad E k)].toArray) (AL E) := by
  obtain ⟨i, hi⟩ := ks_at hm
  have he := wl_at ρ σ hi
  unfold en at he
  obtain ⟨fs, hfs⟩ := ec_obj E (al k) (ρ k) (σ k) (vw_lt hci)
  rw [hk, hfs] at he
  exact va_runV (As := []) (rest := st) cx.1 hM cw ⟨pw_blind E ρ σ _, va_recv cx.2.1.1 hP hci he, fun U hU hW => ⟨rfl, by rw [hU]; exact hP, cx.2.1.warm hW⟩⟩ rfl rfl (hl.1.trans hlv) rfl (lv_room hcat) hd hcs
theorem runS0 (cx : Cx p s m args c E A own cc nL Ts) (hM : Met l y ws (rmm fr lc) (PW E ρ σ []) Qc 0 0 (AL E)) (cw : CallB R s args own idx y bytes maxL ret ws (rmm fr lc) 0 0 0 ∧ (Cond.static y).before args s = true) (hd : decode cc pc = .ok (.invokestatic idx, 3)) (hlv : lv.length = nL) (hcat : (st.map fun v => v.category).sum ≤ 8) (hcs : cells ≤ R.cells ∧ slots ≤ R.slots) (H : Heap) (locs : List Loc) (ls : Array Slot) (hP : va_P E.1 vwCl (wl E ρ σ) H) (hl : hs ls lv) : va_Run p l e R s m args below meth c H locs cells slots 0 0 (F0 m pc ls (st)) st (Qc [].toArray) (AL E) :=
  va_runS (As := []) (rest := st) cx.1 hM cw ⟨pw_blind E ρ σ _, fun U hU hW => ⟨rfl, by rw [hU]; exact hP, cx.2.1.warm hW⟩⟩ rfl rfl (hl.1.trans hlv) rfl (lv_room hcat) hd hcs
theorem runSN0 (cx : Cx p s m args c E A own cc nL Ts) {host : String} (hM : Met l y ws (rmm fr lc) (PW E ρ σ []) Qc 0 0 (AL E)) (cw : va_CN R s args own idx y host bytes maxL ret ws (rmm fr lc) 0 0 0 ∧ (Cond.static y).before args s = true ∧ True) (hd : decode cc pc = .ok (.invokestatic idx, 3)) (hlv : lv.length = nL) (hcat : (st.map fun v => v.category).sum ≤ 8) (hcs : cells ≤ R.cells ∧ slots ≤ R.slots) (H : Heap) (locs : List Loc) (ls : Array Slot) (hP : va_P E.1 vwCl (wl E ρ σ) H) (hl : hs ls lv) : va_Run p l e R s m args below meth c H locs cells slots 0 0 (F0 m pc ls (st)) st (Qc [].toArray) (AL E) :=
  va_runSN (As := []) (rest := st) cx.1 hM cw ⟨pw_blind E ρ σ _, fun U hU hW => ⟨rfl, by rw [hU]; exact hP, cx.2.1.warm hW⟩⟩ rfl rfl (hl.1.trans hlv) rfl (lv_room hcat) hd hcs
theorem runV1 (cx : Cx p s m args c E A own cc nL Ts) {a1 : Value} {k : Ky} (hM : Met l y ws (rmm fr lc) (PW E ρ σ [.ref (ad E k), a1]) Qc 0 0 (AL E)) (cw : CallW R s args own C idx y bytes maxL ret ws (rmm fr lc) 0 0 1) (hd : decode cc pc = .ok (.invokevirtual idx, 3)) (hk : kc k = ci) (hci : vwCl[ci]? = some (C, T, N)) (hm : k ∈ ks E) (hlv : lv.length = nL) (hcat : (st.map fun v => v.category).sum ≤ 8) (hcs : cells ≤ R.cells ∧ slots ≤ R.slots) (H : Heap) (locs : List Loc) (ls : Array Slot) (hP : va_P E.1 vwCl (wl E ρ σ) H) (hl : hs ls lv) : va_Run p l e R s m args below meth c H locs cells slots 0 0 (F0 m pc ls (a1 :: .ref (ad E k) :: st)) st (Qc [.ref (ad E k), a1].toArray) (AL E) := by
  obtain ⟨i, hi⟩ := ks_at hm
  have he := wl_at ρ σ hi
  unfold en at he
  obtain ⟨fs, hfs⟩ := ec_obj E (al k) (ρ k) (σ k) (vw_lt hci)
  rw [hk, hfs] at he
  exact va_runV (As := [a1]) (rest := st) cx.1 hM cw ⟨pw_blind E ρ σ _, va_recv cx.2.1.1 hP hci he, fun U hU hW => ⟨rfl, by rw [hU]; exact hP, cx.2.1.warm hW⟩⟩ rfl rfl (hl.1.trans hlv) rfl (lv_room hcat) hd hcs
theorem runS1 (cx : Cx p s m args c E A own cc nL Ts) {a1 : Value} (hM : Met l y ws (rmm fr lc) (PW E ρ σ [a1]) Qc 0 0 (AL E)) (cw : CallB R s args own idx y bytes maxL ret ws (rmm fr lc) 0 0 1 ∧ (Cond.static y).before args s = true) (hd : decode cc pc = .ok (.invokestatic idx, 3)) (hlv : lv.length = nL) (hcat : (st.map fun v => v.category).sum ≤ 8) (hcs : cells ≤ R.cells ∧ slots ≤ R.slots) (H : Heap) (locs : List Loc) (ls : Array Slot) (hP : va_P E.1 vwCl (wl E ρ σ) H) (hl : hs ls lv) : va_Run p l e R s m args below meth c H locs cells slots 0 0 (F0 m pc ls (a1 :: st)) st (Qc [a1].toArray) (AL E) :=
  va_runS (As := [a1]) (rest := st) cx.1 hM cw ⟨pw_blind E ρ σ _, fun U hU hW => ⟨rfl, by rw [hU]; exact hP, cx.2.1.warm hW⟩⟩ rfl rfl (hl.1.trans hlv) rfl (lv_room hcat) hd hcs
theorem runSN1 (cx : Cx p s m args c E A own cc nL Ts) {host : String} {a1 : Value} (hM : Met l y ws (rmm fr lc) (PW E ρ σ [a1]) Qc 0 0 (AL E)) (cw : va_CN R s args own idx y host bytes maxL ret ws (rmm fr lc) 0 0 1 ∧ (Cond.static y).before args s = true ∧ True) (hd : decode cc pc = .ok (.invokestatic idx, 3)) (hlv : lv.length = nL) (hcat : (st.map fun v => v.category).sum ≤ 8) (hcs : cells ≤ R.cells ∧ slots ≤ R.slots) (H : Heap) (locs : List Loc) (ls : Array Slot) (hP : va_P E.1 vwCl (wl E ρ σ) H) (hl : hs ls lv) : va_Run p l e R s m args below meth c H locs cells slots 0 0 (F0 m pc ls (a1 :: st)) st (Qc [a1].toArray) (AL E) :=
  va_runSN (As := [a1]) (rest := st) cx.1 hM cw ⟨pw_blind E ρ σ _, fun U hU hW => ⟨rfl, by rw [hU]; exact hP, cx.2.1.warm hW⟩⟩ rfl rfl (hl.1.trans hlv) rfl (lv_room hcat) hd hcs
theorem runV2 (cx : Cx p s m args c E A own cc nL Ts) {a1 a2 : Value} {k : Ky} (hM : Met l y ws (rmm fr lc) (PW E ρ σ [.ref (ad E k), a1, a2]) Qc 0 0 (AL E)) (cw : CallW R s args own C idx y bytes maxL ret ws (rmm fr lc) 0 0 2) (hd : decode cc pc = .ok (.invokevirtual idx, 3)) (hk : kc k = ci) (hci : vwCl[ci]? = some (C, T, N)) (hm : k ∈ ks E) (hlv : lv.length = nL) (hcat : (st.map fun v => v.category).sum ≤ 8) (hcs : cells ≤ R.cells ∧ slots ≤ R.slots) (H : Heap) (locs : List Loc) (ls : Array Slot) (hP : va_P E.1 vwCl (wl E ρ σ) H) (hl : hs ls lv) : va_Run p l e R s m args below meth c H locs cells slots 0 0 (F0 m pc ls (a2 :: a1 :: .ref (ad E k) :: st)) st (Qc [.ref (ad E k), a1, a2].toArray) (AL E) := by
  obtain ⟨i, hi⟩ := ks_at hm
  have he := wl_at ρ σ hi
  unfold en at he
  obtain ⟨fs, hfs⟩ := ec_obj E (al k) (ρ k) (σ k) (vw_lt hci)
  rw [hk, hfs] at he
  exact va_runV (As := [a1, a2]) (rest := st) cx.1 hM cw ⟨pw_blind E ρ σ _, va_recv cx.2.1.1 hP hci he, fun U hU hW => ⟨rfl, by rw [hU]; exact hP, cx.2.1.warm hW⟩⟩ rfl rfl (hl.1.trans hlv) rfl (lv_room hcat) hd hcs
theorem runS2 (cx : Cx p s m args c E A own cc nL Ts) {a1 a2 : Value} (hM : Met l y ws (rmm fr lc) (PW E ρ σ [a1, a2]) Qc 0 0 (AL E)) (cw : CallB R s args own idx y bytes maxL ret ws (rmm fr lc) 0 0 2 ∧ (Cond.static y).before args s = true) (hd : decode cc pc = .ok (.invokestatic idx, 3)) (hlv : lv.length = nL) (hcat : (st.map fun v => v.category).sum ≤ 8) (hcs : cells ≤ R.cells ∧ slots ≤ R.slots) (H : Heap) (locs : List Loc) (ls : Array Slot) (hP : va_P E.1 vwCl (wl E ρ σ) H) (hl : hs ls lv) : va_Run p l e R s m args below meth c H locs cells slots 0 0 (F0 m pc ls (a2 :: a1 :: st)) st (Qc [a1, a2].toArray) (AL E) :=
  va_runS (As := [a1, a2]) (rest := st) cx.1 hM cw ⟨pw_blind E ρ σ _, fun U hU hW => ⟨rfl, by rw [hU]; exact hP, cx.2.1.warm hW⟩⟩ rfl rfl (hl.1.trans hlv) rfl (lv_room hcat) hd hcs
theorem runSN2 (cx : Cx p s m args c E A own cc nL Ts) {host : String} {a1 a2 : Value} (hM : Met l y ws (rmm fr lc) (PW E ρ σ [a1, a2]) Qc 0 0 (AL E)) (cw : va_CN R s args own idx y host bytes maxL ret ws (rmm fr lc) 0 0 2 ∧ (Cond.static y).before args s = true ∧ True) (hd : decode cc pc = .ok (.invokestatic idx, 3)) (hlv : lv.length = nL) (hcat : (st.map fun v => v.category).sum ≤ 8) (hcs : cells ≤ R.cells ∧ slots ≤ R.slots) (H : Heap) (locs : List Loc) (ls : Array Slot) (hP : va_P E.1 vwCl (wl E ρ σ) H) (hl : hs ls lv) : va_Run p l e R s m args below meth c H locs cells slots 0 0 (F0 m pc ls (a2 :: a1 :: st)) st (Qc [a1, a2].toArray) (AL E) :=
  va_runSN (As := [a1, a2]) (rest := st) cx.1 hM cw ⟨pw_blind E ρ σ _, fun U hU hW => ⟨rfl, by rw [hU]; exact hP, cx.2.1.warm hW⟩⟩ rfl rfl (hl.1.trans hlv) rfl (lv_room hcat) hd hcs
theorem runV3 (cx : Cx p s m args c E A own cc nL Ts) {a1 a2 a3 : Value} {k : Ky} (hM : Met l y ws (rmm fr lc) (PW E ρ σ [.ref (ad E k), a1, a2, a3]) Qc 0 0 (AL E)) (cw : CallW R s args own C idx y bytes maxL ret ws (rmm fr lc) 0 0 3) (hd : decode cc pc = .ok (.invokevirtual idx, 3)) (hk : kc k = ci) (hci : vwCl[ci]? = some (C, T, N)) (hm : k ∈ ks E) (hlv : lv.length = nL) (hcat : (st.map fun v => v.category).sum ≤ 8) (hcs : cells ≤ R.cells ∧ slots ≤ R.slots) (H : Heap) (locs : List Loc) (ls : Array Slot) (hP : va_P E.1 vwCl (wl E ρ σ) H) (hl : hs ls lv) : va_Run p l e R s m args below meth c H locs cells slots 0 0 (F0 m pc ls (a3 :: a2 :: a1 :: .ref (ad E k) :: st)) st (Qc [.ref (ad E k), a1, a2, a3].toArray) (AL E) := by
  obtain ⟨i, hi⟩ := ks_at hm
  have he := wl_at ρ σ hi
  unfold en at he
  obtain ⟨fs, hfs⟩ := ec_obj E (al k) (ρ k) (σ k) (vw_lt hci)
  rw [hk, hfs] at he
  exact va_runV (As := [a1, a2, a3]) (rest := st) cx.1 hM cw ⟨pw_blind E ρ σ _, va_recv cx.2.1.1 hP hci he, fun U hU hW => ⟨rfl, by rw [hU]; exact hP, cx.2.1.warm hW⟩⟩ rfl rfl (hl.1.trans hlv) rfl (lv_room hcat) hd hcs
theorem runS3 (cx : Cx p s m args c E A own cc nL Ts) {a1 a2 a3 : Value} (hM : Met l y ws (rmm fr lc) (PW E ρ σ [a1, a2, a3]) Qc 0 0 (AL E)) (cw : CallB R s args own idx y bytes maxL ret ws (rmm fr lc) 0 0 3 ∧ (Cond.static y).before args s = true) (hd : decode cc pc = .ok (.invokestatic idx, 3)) (hlv : lv.length = nL) (hcat : (st.map fun v => v.category).sum ≤ 8) (hcs : cells ≤ R.cells ∧ slots ≤ R.slots) (H : Heap) (locs : List Loc) (ls : Array Slot) (hP : va_P E.1 vwCl (wl E ρ σ) H) (hl : hs ls lv) : va_Run p l e R s m args below meth c H locs cells slots 0 0 (F0 m pc ls (a3 :: a2 :: a1 :: st)) st (Qc [a1, a2, a3].toArray) (AL E) :=
  va_runS (As := [a1, a2, a3]) (rest := st) cx.1 hM cw ⟨pw_blind E ρ σ _, fun U hU hW => ⟨rfl, by rw [hU]; exact hP, cx.2.1.warm hW⟩⟩ rfl rfl (hl.1.trans hlv) rfl (lv_room hcat) hd hcs
theorem runSN3 (cx : Cx p s m args c E A own cc nL Ts) {host : String} {a1 a2 a3 : Value} (hM : Met l y ws (rmm fr lc) (PW E ρ σ [a1, a2, a3]) Qc 0 0 (AL E)) (cw : va_CN R s args own idx y host bytes maxL ret ws (rmm fr lc) 0 0 3 ∧ (Cond.static y).before args s = true ∧ True) (hd : decode cc pc = .ok (.invokestatic idx, 3)) (hlv : lv.length = nL) (hcat : (st.map fun v => v.category).sum ≤ 8) (hcs : cells ≤ R.cells ∧ slots ≤ R.slots) (H : Heap) (locs : List Loc) (ls : Array Slot) (hP : va_P E.1 vwCl (wl E ρ σ) H) (hl : hs ls lv) : va_Run p l e R s m args below meth c H locs cells slots 0 0 (F0 m pc ls (a3 :: a2 :: a1 :: st)) st (Qc [a1, a2, a3].toArray) (AL E) :=
  va_runSN (As := [a1, a2, a3]) (rest := st) cx.1 hM cw ⟨pw_blind E ρ σ _, fun U hU hW => ⟨rfl, by rw [hU]; exact hP, cx.2.1.warm hW⟩⟩ rfl rfl (hl.1.trans hlv) rfl (lv_room hcat) hd hcs
theorem runV4 (cx : Cx p s m args c E A own cc nL Ts) {a1 a2 a3 a4 : Value} {k : Ky} (hM : Met l y ws (rmm fr lc) (PW E ρ σ [.ref (ad E k), a1, a2, a3, a4]) Qc 0 0 (AL E)) (cw : CallW R s args own C idx y bytes maxL ret ws (rmm fr lc) 0 0 4) (hd : decode cc pc = .ok (.invokevirtual idx, 3)) (hk : kc k = ci) (hci : vwCl[ci]? = some (C, T, N)) (hm : k ∈ ks E) (hlv : lv.length = nL) (hcat : (st.map fun v => v.category).sum ≤ 8) (hcs : cells ≤ R.cells ∧ slots ≤ R.slots) (H : Heap) (locs : List Loc) (ls : Array Slot) (hP : va_P E.1 vwCl (wl E ρ σ) H) (hl : hs ls lv) : va_Run p l e R s m args below meth c H locs cells slots 0 0 (F0 m pc ls (a4 :: a3 :: a2 :: a1 :: .ref (ad E k) :: st)) st (Qc [.ref (ad E k), a1, a2, a3, a4].toArray) (AL E) := by
  obtain ⟨i, hi⟩ := ks_at hm
  have he := wl_at ρ σ hi
  unfold en at he
  obtain ⟨fs, hfs⟩ := ec_obj E (al k) (ρ k) (σ k) (vw_lt hci)
  rw [hk, hfs] at he
  exact va_runV (As := [a1, a2, a3, a4]) (rest := st) cx.1 hM cw ⟨pw_blind E ρ σ _, va_recv cx.2.1.1 hP hci he, fun U hU hW => ⟨rfl, by rw [hU]; exact hP, cx.2.1.warm hW⟩⟩ rfl rfl (hl.1.trans hlv) rfl (lv_room hcat) hd hcs
theorem runS4 (cx : Cx p s m args c E A own cc nL Ts) {a1 a2 a3 a4 : Value} (hM : Met l y ws (rmm fr lc) (PW E ρ σ [a1, a2, a3, a4]) Qc 0 0 (AL E)) (cw : CallB R s args own idx y bytes maxL ret ws (rmm fr lc) 0 0 4 ∧ (Cond.static y).before args s = true) (hd : decode cc pc = .ok (.invokestatic idx, 3)) (hlv : lv.length = nL) (hcat : (st.map fun v => v.category).sum ≤ 8) (hcs : cells ≤ R.cells ∧ slots ≤ R.slots) (H : Heap) (locs : List Loc) (ls : Array Slot) (hP : va_P E.1 vwCl (wl E ρ σ) H) (hl : hs ls lv) : va_Run p l e R s m args below meth c H locs cells slots 0 0 (F0 m pc ls (a4 :: a3 :: a2 :: a1 :: st)) st (Qc [a1, a2, a3, a4].toArray) (AL E) :=
  va_runS (As := [a1, a2, a3, a4]) (rest := st) cx.1 hM cw ⟨pw_blind E ρ σ _, fun U hU hW => ⟨rfl, by rw [hU]; exact hP, cx.2.1.warm hW⟩⟩ rfl rfl (hl.1.trans hlv) rfl (lv_room hcat) hd hcs
theorem runSN4 (cx : Cx p s m args c E A own cc nL Ts) {host : String} {a1 a2 a3 a4 : Value} (hM : Met l y ws (rmm fr lc) (PW E ρ σ [a1, a2, a3, a4]) Qc 0 0 (AL E)) (cw : va_CN R s args own idx y host bytes maxL ret ws (rmm fr lc) 0 0 4 ∧ (Cond.static y).before args s = true ∧ True) (hd : decode cc pc = .ok (.invokestatic idx, 3)) (hlv : lv.length = nL) (hcat : (st.map fun v => v.category).sum ≤ 8) (hcs : cells ≤ R.cells ∧ slots ≤ R.slots) (H : Heap) (locs : List Loc) (ls : Array Slot) (hP : va_P E.1 vwCl (wl E ρ σ) H) (hl : hs ls lv) : va_Run p l e R s m args below meth c H locs cells slots 0 0 (F0 m pc ls (a4 :: a3 :: a2 :: a1 :: st)) st (Qc [a1, a2, a3, a4].toArray) (AL E) :=
  va_runSN (As := [a1, a2, a3, a4]) (rest := st) cx.1 hM cw ⟨pw_blind E ρ σ _, fun U hU hW => ⟨rfl, by rw [hU]; exact hP, cx.2.1.warm hW⟩⟩ rfl rfl (hl.1.trans hlv) rfl (lv_room hcat) hd hcs
theorem al_sub (cx : Cx p s m args c E A own cc nL Ts) : ∀ q, AL E q → A q := by
  rintro q ⟨k, hk, rfl⟩
  exact cx.2.2.2 k hk
theorem A_callI (cx : Cx p s m args c E A own cc nL Ts) {r : Int32} {a : Array Value} {st0 : List Value} (hr : ∀ (H : Heap) (locs : List Loc) (ls : Array Slot), va_P E.1 vwCl (wl E ρ σ) H → hs ls lv → va_Run p l e R s m args below meth c H locs cells slots 0 0 (F0 m pc ls st0) st (QI E ρ r σ' a) (AL E)) (hq : pc + 3 = q) (kk : AW p l e R s m args below meth c cells slots Q A E ρ q lv (.int r :: st) σ') : AW p l e R s m args below meth c cells slots Q A E ρ pc lv st0 σ := by
  subst hq
  intro H locs ls hP hS hl
  refine va_calli (hr H locs ls hP hl) hS (fun q _ h => al_sub cx q h) (al_sub cx) (fun r' u t H1 locs1 ht hvm hw hB hz hk hS1 => ?_)
  obtain ⟨rfl, rfl⟩ := hw
  rw [ht] at hB
  exact kk H1 locs1 ls hB hS1 hl
theorem A_callV (cx : Cx p s m args c E A own cc nL Ts) {a : Array Value} {st0 : List Value} (hr : ∀ (H : Heap) (locs : List Loc) (ls : Array Slot), va_P E.1 vwCl (wl E ρ σ) H → hs ls lv → va_Run p l e R s m args below meth c H locs cells slots 0 0 (F0 m pc ls st0) st (QV E ρ σ' a) (AL E)) (hq : pc + 3 = q) (kk : AW p l e R s m args below meth c cells slots Q A E ρ q lv st σ') : AW p l e R s m args below meth c cells slots Q A E ρ pc lv st0 σ := by
  subst hq
  intro H locs ls hP hS hl
  refine va_callv (hr H locs ls hP hl) hS (fun q _ h => al_sub cx q h) (al_sub cx) (fun u t H1 locs1 ht hvm hw hB hz hk hS1 => ?_)
  obtain rfl := hw
  rw [ht] at hB
  exact kk H1 locs1 ls hB hS1 hl
theorem A_callQ (cx : Cx p s m args c E A own cc nL Ts) {r : Option Ky} {a : Array Value} {st0 : List Value} (hr : ∀ (H : Heap) (locs : List Loc) (ls : Array Slot), va_P E.1 vwCl (wl E ρ σ) H → hs ls lv → va_Run p l e R s m args below meth c H locs cells slots 0 0 (F0 m pc ls st0) st (QQ E ρ r σ' a) (AL E)) (hq : pc + 3 = q) (kk : AW p l e R s m args below meth c cells slots Q A E ρ q lv (rv E r :: st) σ') : AW p l e R s m args below meth c cells slots Q A E ρ pc lv st0 σ := by
  subst hq
  intro H locs ls hP hS hl
  refine va_callq (hr H locs ls hP hl) hS (fun q _ h => al_sub cx q h) (al_sub cx) (fun r' u t H1 locs1 ht hvm hw hB hz hk hS1 => ?_)
  obtain ⟨rfl, rfl⟩ := hw
  rw [ht] at hB
  exact kk H1 locs1 ls hB hS1 hl
theorem VI0 (cx : Cx p s m args c E A own cc nL Ts) {k : Ky} {r : Int32} (hM : CI l y ws fr lc E ρ [.ref (ad E k)] σ r σ') (cw : CallW R s args own C idx y bytes maxL ret ws (rmm fr lc) 0 0 0) (hd : decode cc pc = .ok (.invokevirtual idx, 3)) (hk : kc k = ci) (hci : vwCl[ci]? = some (C, T, N)) (hm : k ∈ ks E) (hlv : lv.length = nL) (hcat : (st.map fun v => v.category).sum ≤ 8) (hcs : cells ≤ R.cells ∧ slots ≤ R.slots) (hq : pc + 3 = q) (kk : AW p l e R s m args below meth c cells slots Q A E ρ q lv (.int r :: st) σ') : AW p l e R s m args below meth c cells slots Q A E ρ pc lv (.ref (ad E k) :: st) σ := A_callI cx (fun H locs ls hP hl => runV0 cx hM cw hd hk hci hm hlv hcat hcs H locs ls hP hl) hq kk
theorem SI0 (cx : Cx p s m args c E A own cc nL Ts) {r : Int32} (hM : CI l y ws fr lc E ρ [] σ r σ') (cw : CallB R s args own idx y bytes maxL ret ws (rmm fr lc) 0 0 0 ∧ (Cond.static y).before args s = true) (hd : decode cc pc = .ok (.invokestatic idx, 3)) (hlv : lv.length = nL) (hcat : (st.map fun v => v.category).sum ≤ 8) (hcs : cells ≤ R.cells ∧ slots ≤ R.slots) (hq : pc + 3 = q) (kk : AW p l e R s m args below meth c cells slots Q A E ρ q lv (.int r :: st) σ') : AW p l e R s m args below meth c cells slots Q A E ρ pc lv (st) σ := A_callI cx (fun H locs ls hP hl => runS0 cx hM cw hd hlv hcat hcs H locs ls hP hl) hq kk
theorem NI0 (cx : Cx p s m args c E A own cc nL Ts) {host : String} {r : Int32} (hM : CI l y ws fr lc E ρ [] σ r σ') (cw : va_CN R s args own idx y host bytes maxL ret ws (rmm fr lc) 0 0 0 ∧ (Cond.static y).before args s = true ∧ True) (hd : decode cc pc = .ok (.invokestatic idx, 3)) (hlv : lv.length = nL) (hcat : (st.map fun v => v.category).sum ≤ 8) (hcs : cells ≤ R.cells ∧ slots ≤ R.slots) (hq : pc + 3 = q) (kk : AW p l e R s m args below meth c cells slots Q A E ρ q lv (.int r :: st) σ') : AW p l e R s m args below meth c cells slots Q A E ρ pc lv (st) σ := A_callI cx (fun H locs ls hP hl => runSN0 cx hM cw hd hlv hcat hcs H locs ls hP hl) hq kk
theorem VV0 (cx : Cx p s m args c E A own cc nL Ts) {k : Ky} (hM : CV l y ws fr lc E ρ [.ref (ad E k)] σ σ') (cw : CallW R s args own C idx y bytes maxL ret ws (rmm fr lc) 0 0 0) (hd : decode cc pc = .ok (.invokevirtual idx, 3)) (hk : kc k = ci) (hci : vwCl[ci]? = some (C, T, N)) (hm : k ∈ ks E) (hlv : lv.length = nL) (hcat : (st.map fun v => v.category).sum ≤ 8) (hcs : cells ≤ R.cells ∧ slots ≤ R.slots) (hq : pc + 3 = q) (kk : AW p l e R s m args below meth c cells slots Q A E ρ q lv st σ') : AW p l e R s m args below meth c cells slots Q A E ρ pc lv (.ref (ad E k) :: st) σ := A_callV cx (fun H locs ls hP hl => runV0 cx hM cw hd hk hci hm hlv hcat hcs H locs ls hP hl) hq kk
theorem SV0 (cx : Cx p s m args c E A own cc nL Ts) (hM : CV l y ws fr lc E ρ [] σ σ') (cw : CallB R s args own idx y bytes maxL ret ws (rmm fr lc) 0 0 0 ∧ (Cond.static y).before args s = true) (hd : decode cc pc = .ok (.invokestatic idx, 3)) (hlv : lv.length = nL) (hcat : (st.map fun v => v.category).sum ≤ 8) (hcs : cells ≤ R.cells ∧ slots ≤ R.slots) (hq : pc + 3 = q) (kk : AW p l e R s m args below meth c cells slots Q A E ρ q lv st σ') : AW p l e R s m args below meth c cells slots Q A E ρ pc lv (st) σ := A_callV cx (fun H locs ls hP hl => runS0 cx hM cw hd hlv hcat hcs H locs ls hP hl) hq kk
theorem VQ0 (cx : Cx p s m args c E A own cc nL Ts) {k : Ky} {r : Option Ky} (hM : CQ l y ws fr lc E ρ [.ref (ad E k)] σ r σ') (cw : CallW R s args own C idx y bytes maxL ret ws (rmm fr lc) 0 0 0) (hd : decode cc pc = .ok (.invokevirtual idx, 3)) (hk : kc k = ci) (hci : vwCl[ci]? = some (C, T, N)) (hm : k ∈ ks E) (hlv : lv.length = nL) (hcat : (st.map fun v => v.category).sum ≤ 8) (hcs : cells ≤ R.cells ∧ slots ≤ R.slots) (hq : pc + 3 = q) (kk : AW p l e R s m args below meth c cells slots Q A E ρ q lv (rv E r :: st) σ') : AW p l e R s m args below meth c cells slots Q A E ρ pc lv (.ref (ad E k) :: st) σ := A_callQ cx (fun H locs ls hP hl => runV0 cx hM cw hd hk hci hm hlv hcat hcs H locs ls hP hl) hq kk
theorem VI1 (cx : Cx p s m args c E A own cc nL Ts) {a1 : Value} {k : Ky} {r : Int32} (hM : CI l y ws fr lc E ρ [.ref (ad E k), a1] σ r σ') (cw : CallW R s args own C idx y bytes maxL ret ws (rmm fr lc) 0 0 1) (hd : decode cc pc = .ok (.invokevirtual idx, 3)) (hk : kc k = ci) (hci : vwCl[ci]? = some (C, T, N)) (hm : k ∈ ks E) (hlv : lv.length = nL) (hcat : (st.map fun v => v.category).sum ≤ 8) (hcs : cells ≤ R.cells ∧ slots ≤ R.slots) (hq : pc + 3 = q) (kk : AW p l e R s m args below meth c cells slots Q A E ρ q lv (.int r :: st) σ') : AW p l e R s m args below meth c cells slots Q A E ρ pc lv (a1 :: .ref (ad E k) :: st) σ := A_callI cx (fun H locs ls hP hl => runV1 cx hM cw hd hk hci hm hlv hcat hcs H locs ls hP hl) hq kk
theorem SI1 (cx : Cx p s m args c E A own cc nL Ts) {a1 : Value} {r : Int32} (hM : CI l y ws fr lc E ρ [a1] σ r σ') (cw : CallB R s args own idx y bytes maxL ret ws (rmm fr lc) 0 0 1 ∧ (Cond.static y).before args s = true) (hd : decode cc pc = .ok (.invokestatic idx, 3)) (hlv : lv.length = nL) (hcat : (st.map fun v => v.category).sum ≤ 8) (hcs : cells ≤ R.cells ∧ slots ≤ R.slots) (hq : pc + 3 = q) (kk : AW p l e R s m args below meth c cells slots Q A E ρ q lv (.int r :: st) σ') : AW p l e R s m args below meth c cells slots Q A E ρ pc lv (a1 :: st) σ := A_callI cx (fun H locs ls hP hl => runS1 cx hM cw hd hlv hcat hcs H locs ls hP hl) hq kk
theorem NI1 (cx : Cx p s m args c E A own cc nL Ts) {host : String} {a1 : Value} {r : Int32} (hM : CI l y ws fr lc E ρ [a1] σ r σ') (cw : va_CN R s args own idx y host bytes maxL ret ws (rmm fr lc) 0 0 1 ∧ (Cond.static y).before args s = true ∧ True) (hd : decode cc pc = .ok (.invokestatic idx, 3)) (hlv : lv.length = nL) (hcat : (st.map fun v => v.category).sum ≤ 8) (hcs : cells ≤ R.cells ∧ slots ≤ R.slots) (hq : pc + 3 = q) (kk : AW p l e R s m args below meth c cells slots Q A E ρ q lv (.int r :: st) σ') : AW p l e R s m args below meth c cells slots Q A E ρ pc lv (a1 :: st) σ := A_callI cx (fun H locs ls hP hl => runSN1 cx hM cw hd hlv hcat hcs H locs ls hP hl) hq kk
theorem VV1 (cx : Cx p s m args c E A own cc nL Ts) {a1 : Value} {k : Ky} (hM : CV l y ws fr lc E ρ [.ref (ad E k), a1] σ σ') (cw : CallW R s args own C idx y bytes maxL ret ws (rmm fr lc) 0 0 1) (hd : decode cc pc = .ok (.invokevirtual idx, 3)) (hk : kc k = ci) (hci : vwCl[ci]? = some (C, T, N)) (hm : k ∈ ks E) (hlv : lv.length = nL) (hcat : (st.map fun v => v.category).sum ≤ 8) (hcs : cells ≤ R.cells ∧ slots ≤ R.slots) (hq : pc + 3 = q) (kk : AW p l e R s m args below meth c cells slots Q A E ρ q lv st σ') : AW p l e R s m args below meth c cells slots Q A E ρ pc lv (a1 :: .ref (ad E k) :: st) σ := A_callV cx (fun H locs ls hP hl => runV1 cx hM cw hd hk hci hm hlv hcat hcs H locs ls hP hl) hq kk
theorem SV1 (cx : Cx p s m args c E A own cc nL Ts) {a1 : Value} (hM : CV l y ws fr lc E ρ [a1] σ σ') (cw : CallB R s args own idx y bytes maxL ret ws (rmm fr lc) 0 0 1 ∧ (Cond.static y).before args s = true) (hd : decode cc pc = .ok (.invokestatic idx, 3)) (hlv : lv.length = nL) (hcat : (st.map fun v => v.category).sum ≤ 8) (hcs : cells ≤ R.cells ∧ slots ≤ R.slots) (hq : pc + 3 = q) (kk : AW p l e R s m args below meth c cells slots Q A E ρ q lv st σ') : AW p l e R s m args below meth c cells slots Q A E ρ pc lv (a1 :: st) σ := A_callV cx (fun H locs ls hP hl => runS1 cx hM cw hd hlv hcat hcs H locs ls hP hl) hq kk
theorem VQ1 (cx : Cx p s m args c E A own cc nL Ts) {a1 : Value} {k : Ky} {r : Option Ky} (hM : CQ l y ws fr lc E ρ [.ref (ad E k), a1] σ r σ') (cw : CallW R s args own C idx y bytes maxL ret ws (rmm fr lc) 0 0 1) (hd : decode cc pc = .ok (.invokevirtual idx, 3)) (hk : kc k = ci) (hci : vwCl[ci]? = some (C, T, N)) (hm : k ∈ ks E) (hlv : lv.length = nL) (hcat : (st.map fun v => v.category).sum ≤ 8) (hcs : cells ≤ R.cells ∧ slots ≤ R.slots) (hq : pc + 3 = q) (kk : AW p l e R s m args below meth c cells slots Q A E ρ q lv (rv E r :: st) σ') : AW p l e R s m args below meth c cells slots Q A E ρ pc lv (a1 :: .ref (ad E k) :: st) σ := A_callQ cx (fun H locs ls hP hl => runV1 cx hM cw hd hk hci hm hlv hcat hcs H locs ls hP hl) hq kk
theorem VI2 (cx : Cx p s m args c E A own cc nL Ts) {a1 a2 : Value} {k : Ky} {r : Int32} (hM : CI l y ws fr lc E ρ [.ref (ad E k), a1, a2] σ r σ') (cw : CallW R s args own C idx y bytes maxL ret ws (rmm fr lc) 0 0 2) (hd : decode cc pc = .ok (.invokevirtual idx, 3)) (hk : kc k = ci) (hci : vwCl[ci]? = some (C, T, N)) (hm : k ∈ ks E) (hlv : lv.length = nL) (hcat : (st.map fun v => v.category).sum ≤ 8) (hcs : cells ≤ R.cells ∧ slots ≤ R.slots) (hq : pc + 3 = q) (kk : AW p l e R s m args below meth c cells slots Q A E ρ q lv (.int r :: st) σ') : AW p l e R s m args below meth c cells slots Q A E ρ pc lv (a2 :: a1 :: .ref (ad E k) :: st) σ := A_callI cx (fun H locs ls hP hl => runV2 cx hM cw hd hk hci hm hlv hcat hcs H locs ls hP hl) hq kk
theorem SI2 (cx : Cx p s m args c E A own cc nL Ts) {a1 a2 : Value} {r : Int32} (hM : CI l y ws fr lc E ρ [a1, a2] σ r σ') (cw : CallB R s args own idx y bytes maxL ret ws (rmm fr lc) 0 0 2 ∧ (Cond.static y).before args s = true) (hd : decode cc pc = .ok (.invokestatic idx, 3)) (hlv : lv.length = nL) (hcat : (st.map fun v => v.category).sum ≤ 8) (hcs : cells ≤ R.cells ∧ slots ≤ R.slots) (hq : pc + 3 = q) (kk : AW p l e R s m args below meth c cells slots Q A E ρ q lv (.int r :: st) σ') : AW p l e R s m args below meth c cells slots Q A E ρ pc lv (a2 :: a1 :: st) σ := A_callI cx (fun H locs ls hP hl => runS2 cx hM cw hd hlv hcat hcs H locs ls hP hl) hq kk
theorem NI2 (cx : Cx p s m args c E A own cc nL Ts) {host : String} {a1 a2 : Value} {r : Int32} (hM : CI l y ws fr lc E ρ [a1, a2] σ r σ') (cw : va_CN R s args own idx y host bytes maxL ret ws (rmm fr lc) 0 0 2 ∧ (Cond.static y).before args s = true ∧ True) (hd : decode cc pc = .ok (.invokestatic idx, 3)) (hlv : lv.length = nL) (hcat : (st.map fun v => v.category).sum ≤ 8) (hcs : cells ≤ R.cells ∧ slots ≤ R.slots) (hq : pc + 3 = q) (kk : AW p l e R s m args below meth c cells slots Q A E ρ q lv (.int r :: st) σ') : AW p l e R s m args below meth c cells slots Q A E ρ pc lv (a2 :: a1 :: st) σ := A_callI cx (fun H locs ls hP hl => runSN2 cx hM cw hd hlv hcat hcs H locs ls hP hl) hq kk
theorem VV2 (cx : Cx p s m args c E A own cc nL Ts) {a1 a2 : Value} {k : Ky} (hM : CV l y ws fr lc E ρ [.ref (ad E k), a1, a2] σ σ') (cw : CallW R s args own C idx y bytes maxL ret ws (rmm fr lc) 0 0 2) (hd : decode cc pc = .ok (.invokevirtual idx, 3)) (hk : kc k = ci) (hci : vwCl[ci]? = some (C, T, N)) (hm : k ∈ ks E) (hlv : lv.length = nL) (hcat : (st.map fun v => v.category).sum ≤ 8) (hcs : cells ≤ R.cells ∧ slots ≤ R.slots) (hq : pc + 3 = q) (kk : AW p l e R s m args below meth c cells slots Q A E ρ q lv st σ') : AW p l e R s m args below meth c cells slots Q A E ρ pc lv (a2 :: a1 :: .ref (ad E k) :: st) σ := A_callV cx (fun H locs ls hP hl => runV2 cx hM cw hd hk hci hm hlv hcat hcs H locs ls hP hl) hq kk
theorem SV2 (cx : Cx p s m args c E A own cc nL Ts) {a1 a2 : Value} (hM : CV l y ws fr lc E ρ [a1, a2] σ σ') (cw : CallB R s args own idx y bytes maxL ret ws (rmm fr lc) 0 0 2 ∧ (Cond.static y).before args s = true) (hd : decode cc pc = .ok (.invokestatic idx, 3)) (hlv : lv.length = nL) (hcat : (st.map fun v => v.category).sum ≤ 8) (hcs : cells ≤ R.cells ∧ slots ≤ R.slots) (hq : pc + 3 = q) (kk : AW p l e R s m args below meth c cells slots Q A E ρ q lv st σ') : AW p l e R s m args below meth c cells slots Q A E ρ pc lv (a2 :: a1 :: st) σ := A_callV cx (fun H locs ls hP hl => runS2 cx hM cw hd hlv hcat hcs H locs ls hP hl) hq kk
theorem VQ2 (cx : Cx p s m args c E A own cc nL Ts) {a1 a2 : Value} {k : Ky} {r : Option Ky} (hM : CQ l y ws fr lc E ρ [.ref (ad E k), a1, a2] σ r σ') (cw : CallW R s args own C idx y bytes maxL ret ws (rmm fr lc) 0 0 2) (hd : decode cc pc = .ok (.invokevirtual idx, 3)) (hk : kc k = ci) (hci : vwCl[ci]? = some (C, T, N)) (hm : k ∈ ks E) (hlv : lv.length = nL) (hcat : (st.map fun v => v.category).sum ≤ 8) (hcs : cells ≤ R.cells ∧ slots ≤ R.slots) (hq : pc + 3 = q) (kk : AW p l e R s m args below meth c cells slots Q A E ρ q lv (rv E r :: st) σ') : AW p l e R s m args below meth c cells slots Q A E ρ pc lv (a2 :: a1 :: .ref (ad E k) :: st) σ := A_callQ cx (fun H locs ls hP hl => runV2 cx hM cw hd hk hci hm hlv hcat hcs H locs ls hP hl) hq kk
theorem VI3 (cx : Cx p s m args c E A own cc nL Ts) {a1 a2 a3 : Value} {k : Ky} {r : Int32} (hM : CI l y ws fr lc E ρ [.ref (ad E k), a1, a2, a3] σ r σ') (cw : CallW R s args own C idx y bytes maxL ret ws (rmm fr lc) 0 0 3) (hd : decode cc pc = .ok (.invokevirtual idx, 3)) (hk : kc k = ci) (hci : vwCl[ci]? = some (C, T, N)) (hm : k ∈ ks E) (hlv : lv.length = nL) (hcat : (st.map fun v => v.category).sum ≤ 8) (hcs : cells ≤ R.cells ∧ slots ≤ R.slots) (hq : pc + 3 = q) (kk : AW p l e R s m args below meth c cells slots Q A E ρ q lv (.int r :: st) σ') : AW p l e R s m args below meth c cells slots Q A E ρ pc lv (a3 :: a2 :: a1 :: .ref (ad E k) :: st) σ := A_callI cx (fun H locs ls hP hl => runV3 cx hM cw hd hk hci hm hlv hcat hcs H locs ls hP hl) hq kk
theorem SI3 (cx : Cx p s m args c E A own cc nL Ts) {a1 a2 a3 : Value} {r : Int32} (hM : CI l y ws fr lc E ρ [a1, a2, a3] σ r σ') (cw : CallB R s args own idx y bytes maxL ret ws (rmm fr lc) 0 0 3 ∧ (Cond.static y).before args s = true) (hd : decode cc pc = .ok (.invokestatic idx, 3)) (hlv : lv.length = nL) (hcat : (st.map fun v => v.category).sum ≤ 8) (hcs : cells ≤ R.cells ∧ slots ≤ R.slots) (hq : pc + 3 = q) (kk : AW p l e R s m args below meth c cells slots Q A E ρ q lv (.int r :: st) σ') : AW p l e R s m args below meth c cells slots Q A E ρ pc lv (a3 :: a2 :: a1 :: st) σ := A_callI cx (fun H locs ls hP hl => runS3 cx hM cw hd hlv hcat hcs H locs ls hP hl) hq kk
theorem NI3 (cx : Cx p s m args c E A own cc nL Ts) {host : String} {a1 a2 a3 : Value} {r : Int32} (hM : CI l y ws fr lc E ρ [a1, a2, a3] σ r σ') (cw : va_CN R s args own idx y host bytes maxL ret ws (rmm fr lc) 0 0 3 ∧ (Cond.static y).before args s = true ∧ True) (hd : decode cc pc = .ok (.invokestatic idx, 3)) (hlv : lv.length = nL) (hcat : (st.map fun v => v.category).sum ≤ 8) (hcs : cells ≤ R.cells ∧ slots ≤ R.slots) (hq : pc + 3 = q) (kk : AW p l e R s m args below meth c cells slots Q A E ρ q lv (.int r :: st) σ') : AW p l e R s m args below meth c cells slots Q A E ρ pc lv (a3 :: a2 :: a1 :: st) σ := A_callI cx (fun H locs ls hP hl => runSN3 cx hM cw hd hlv hcat hcs H locs ls hP hl) hq kk
theorem VV3 (cx : Cx p s m args c E A own cc nL Ts) {a1 a2 a3 : Value} {k : Ky} (hM : CV l y ws fr lc E ρ [.ref (ad E k), a1, a2, a3] σ σ') (cw : CallW R s args own C idx y bytes maxL ret ws (rmm fr lc) 0 0 3) (hd : decode cc pc = .ok (.invokevirtual idx, 3)) (hk : kc k = ci) (hci : vwCl[ci]? = some (C, T, N)) (hm : k ∈ ks E) (hlv : lv.length = nL) (hcat : (st.map fun v => v.category).sum ≤ 8) (hcs : cells ≤ R.cells ∧ slots ≤ R.slots) (hq : pc + 3 = q) (kk : AW p l e R s m args below meth c cells slots Q A E ρ q lv st σ') : AW p l e R s m args below meth c cells slots Q A E ρ pc lv (a3 :: a2 :: a1 :: .ref (ad E k) :: st) σ := A_callV cx (fun H locs ls hP hl => runV3 cx hM cw hd hk hci hm hlv hcat hcs H locs ls hP hl) hq kk
theorem SV3 (cx : Cx p s m args c E A own cc nL Ts) {a1 a2 a3 : Value} (hM : CV l y ws fr lc E ρ [a1, a2, a3] σ σ') (cw : CallB R s args own idx y bytes maxL ret ws (rmm fr lc) 0 0 3 ∧ (Cond.static y).before args s = true) (hd : decode cc pc = .ok (.invokestatic idx, 3)) (hlv : lv.length = nL) (hcat : (st.map fun v => v.category).sum ≤ 8) (hcs : cells ≤ R.cells ∧ slots ≤ R.slots) (hq : pc + 3 = q) (kk : AW p l e R s m args below meth c cells slots Q A E ρ q lv st σ') : AW p l e R s m args below meth c cells slots Q A E ρ pc lv (a3 :: a2 :: a1 :: st) σ := A_callV cx (fun H locs ls hP hl => runS3 cx hM cw hd hlv hcat hcs H locs ls hP hl) hq kk
theorem VQ3 (cx : Cx p s m args c E A own cc nL Ts) {a1 a2 a3 : Value} {k : Ky} {r : Option Ky} (hM : CQ l y ws fr lc E ρ [.ref (ad E k), a1, a2, a3] σ r σ') (cw : CallW R s args own C idx y bytes maxL ret ws (rmm fr lc) 0 0 3) (hd : decode cc pc = .ok (.invokevirtual idx, 3)) (hk : kc k = ci) (hci : vwCl[ci]? = some (C, T, N)) (hm : k ∈ ks E) (hlv : lv.length = nL) (hcat : (st.map fun v => v.category).sum ≤ 8) (hcs : cells ≤ R.cells ∧ slots ≤ R.slots) (hq : pc + 3 = q) (kk : AW p l e R s m args below meth c cells slots Q A E ρ q lv (rv E r :: st) σ') : AW p l e R s m args below meth c cells slots Q A E ρ pc lv (a3 :: a2 :: a1 :: .ref (ad E k) :: st) σ := A_callQ cx (fun H locs ls hP hl => runV3 cx hM cw hd hk hci hm hlv hcat hcs H locs ls hP hl) hq kk
theorem VI4 (cx : Cx p s m args c E A own cc nL Ts) {a1 a2 a3 a4 : Value} {k : Ky} {r : Int32} (hM : CI l y ws fr lc E ρ [.ref (ad E k), a1, a2, a3, a4] σ r σ') (cw : CallW R s args own C idx y bytes maxL ret ws (rmm fr lc) 0 0 4) (hd : decode cc pc = .ok (.invokevirtual idx, 3)) (hk : kc k = ci) (hci : vwCl[ci]? = some (C, T, N)) (hm : k ∈ ks E) (hlv : lv.length = nL) (hcat : (st.map fun v => v.category).sum ≤ 8) (hcs : cells ≤ R.cells ∧ slots ≤ R.slots) (hq : pc + 3 = q) (kk : AW p l e R s m args below meth c cells slots Q A E ρ q lv (.int r :: st) σ') : AW p l e R s m args below meth c cells slots Q A E ρ pc lv (a4 :: a3 :: a2 :: a1 :: .ref (ad E k) :: st) σ := A_callI cx (fun H locs ls hP hl => runV4 cx hM cw hd hk hci hm hlv hcat hcs H locs ls hP hl) hq kk
theorem SI4 (cx : Cx p s m args c E A own cc nL Ts) {a1 a2 a3 a4 : Value} {r : Int32} (hM : CI l y ws fr lc E ρ [a1, a2, a3, a4] σ r σ') (cw : CallB R s args own idx y bytes maxL ret ws (rmm fr lc) 0 0 4 ∧ (Cond.static y).before args s = true) (hd : decode cc pc = .ok (.invokestatic idx, 3)) (hlv : lv.length = nL) (hcat : (st.map fun v => v.category).sum ≤ 8) (hcs : cells ≤ R.cells ∧ slots ≤ R.slots) (hq : pc + 3 = q) (kk : AW p l e R s m args below meth c cells slots Q A E ρ q lv (.int r :: st) σ') : AW p l e R s m args below meth c cells slots Q A E ρ pc lv (a4 :: a3 :: a2 :: a1 :: st) σ := A_callI cx (fun H locs ls hP hl => runS4 cx hM cw hd hlv hcat hcs H locs ls hP hl) hq kk
theorem NI4 (cx : Cx p s m args c E A own cc nL Ts) {host : String} {a1 a2 a3 a4 : Value} {r : Int32} (hM : CI l y ws fr lc E ρ [a1, a2, a3, a4] σ r σ') (cw : va_CN R s args own idx y host bytes maxL ret ws (rmm fr lc) 0 0 4 ∧ (Cond.static y).before args s = true ∧ True) (hd : decode cc pc = .ok (.invokestatic idx, 3)) (hlv : lv.length = nL) (hcat : (st.map fun v => v.category).sum ≤ 8) (hcs : cells ≤ R.cells ∧ slots ≤ R.slots) (hq : pc + 3 = q) (kk : AW p l e R s m args below meth c cells slots Q A E ρ q lv (.int r :: st) σ') : AW p l e R s m args below meth c cells slots Q A E ρ pc lv (a4 :: a3 :: a2 :: a1 :: st) σ := A_callI cx (fun H locs ls hP hl => runSN4 cx hM cw hd hlv hcat hcs H locs ls hP hl) hq kk
theorem VV4 (cx : Cx p s m args c E A own cc nL Ts) {a1 a2 a3 a4 : Value} {k : Ky} (hM : CV l y ws fr lc E ρ [.ref (ad E k), a1, a2, a3, a4] σ σ') (cw : CallW R s args own C idx y bytes maxL ret ws (rmm fr lc) 0 0 4) (hd : decode cc pc = .ok (.invokevirtual idx, 3)) (hk : kc k = ci) (hci : vwCl[ci]? = some (C, T, N)) (hm : k ∈ ks E) (hlv : lv.length = nL) (hcat : (st.map fun v => v.category).sum ≤ 8) (hcs : cells ≤ R.cells ∧ slots ≤ R.slots) (hq : pc + 3 = q) (kk : AW p l e R s m args below meth c cells slots Q A E ρ q lv st σ') : AW p l e R s m args below meth c cells slots Q A E ρ pc lv (a4 :: a3 :: a2 :: a1 :: .ref (ad E k) :: st) σ := A_callV cx (fun H locs ls hP hl => runV4 cx hM cw hd hk hci hm hlv hcat hcs H locs ls hP hl) hq kk
theorem SV4 (cx : Cx p s m args c E A own cc nL Ts) {a1 a2 a3 a4 : Value} (hM : CV l y ws fr lc E ρ [a1, a2, a3, a4] σ σ') (cw : CallB R s args own idx y bytes maxL ret ws (rmm fr lc) 0 0 4 ∧ (Cond.static y).before args s = true) (hd : decode cc pc = .ok (.invokestatic idx, 3)) (hlv : lv.length = nL) (hcat : (st.map fun v => v.category).sum ≤ 8) (hcs : cells ≤ R.cells ∧ slots ≤ R.slots) (hq : pc + 3 = q) (kk : AW p l e R s m args below meth c cells slots Q A E ρ q lv st σ') : AW p l e R s m args below meth c cells slots Q A E ρ pc lv (a4 :: a3 :: a2 :: a1 :: st) σ := A_callV cx (fun H locs ls hP hl => runS4 cx hM cw hd hlv hcat hcs H locs ls hP hl) hq kk
theorem VQ4 (cx : Cx p s m args c E A own cc nL Ts) {a1 a2 a3 a4 : Value} {k : Ky} {r : Option Ky} (hM : CQ l y ws fr lc E ρ [.ref (ad E k), a1, a2, a3, a4] σ r σ') (cw : CallW R s args own C idx y bytes maxL ret ws (rmm fr lc) 0 0 4) (hd : decode cc pc = .ok (.invokevirtual idx, 3)) (hk : kc k = ci) (hci : vwCl[ci]? = some (C, T, N)) (hm : k ∈ ks E) (hlv : lv.length = nL) (hcat : (st.map fun v => v.category).sum ≤ 8) (hcs : cells ≤ R.cells ∧ slots ≤ R.slots) (hq : pc + 3 = q) (kk : AW p l e R s m args below meth c cells slots Q A E ρ q lv (rv E r :: st) σ') : AW p l e R s m args below meth c cells slots Q A E ρ pc lv (a4 :: a3 :: a2 :: a1 :: .ref (ad E k) :: st) σ := A_callQ cx (fun H locs ls hP hl => runV4 cx hM cw hd hk hci hm hlv hcat hcs H locs ls hP hl) hq kk
end CALLS
end
section
/-! THE LAYOUT: which cells there are, and how they point to one another (nets: 0 the net, 1 to 6 the history's, 7 trial, 8 mark). -/
def rh0 : Rh := fun k j => match k with
  | (0, n, e, _) => (match j with | 2 => some (13, n, e, 0) | _ => some (11, n, e, 0))
  | (2, _) => some (12, 0, 0, 0)
  | (4, n, _) => (match j with | 0 => some (0, n, 0, 0) | _ => some (0, n, 1, 0))
  | (5, n, e, l) => (match j with | 4 => some (3, n, e, l) | _ => some (14, n, e, l))
  | (6, _) => some (9, 0, 0, 0)
  | (7, _) => (match j with | 0 => some (6, 0, 0, 0) | 1 => some (4, 0, 0, 0) | 2 => some (2, 0, 0, 0) | 3 => some (9, 1, 0, 0) | 4 => some (4, 7, 0, 0) | _ => some (4, 8, 0, 0))
  | (8, _) => (match j with | 3 => some (9, 2, 0, 0) | 4 => some (9, 3, 0, 0) | 5 => some (9, 4, 0, 0) | 7 => some (9, 5, 0, 0) | 8 => some (9, 6, 0, 0) | 11 => some (9, 7, 0, 0) | 12 => some (9, 8, 0, 0) | 13 => some (9, 9, 0, 0) | 14 => some (9, 10, 0, 0) | 16 => some (10, 0, 0, 0) | _ => some (9, 11, 0, 0))
  | (11, n, e, _) => some (1, n, e, j)
  | (12, _) => some (4, j + 1, 0, 0)
  | (13, n, e, _) => some (5, n, e, j)
  | _ => none
def kvX (k : Ky) : Prop := match k with
  | (0, n, e, l) => n < 9 ∧ e < 2 ∧ l = 0
  | (1, n, e, f) => n < 9 ∧ e < 2 ∧ f < 8
  | (2, n, e, l) => n = 0 ∧ e = 0 ∧ l = 0
  | (3, n, e, l) => n < 9 ∧ e < 2 ∧ l < 6
  | (4, n, e, l) => n < 9 ∧ e = 0 ∧ l = 0
  | (5, n, e, l) => n < 9 ∧ e < 2 ∧ l < 6
  | (6, n, e, l) => n = 0 ∧ e = 0 ∧ l = 0
  | (7, n, e, l) => n = 0 ∧ e = 0 ∧ l = 0
  | (9, n, e, l) => n < 2 ∧ e = 0 ∧ l = 0
  | (11, n, e, l) => n < 9 ∧ e < 2 ∧ l = 0
  | (12, n, e, l) => n = 0 ∧ e = 0 ∧ l = 0
  | (13, n, e, l) => n < 9 ∧ e < 2 ∧ l = 0
  | (14, n, e, l) => n < 9 ∧ e < 2 ∧ l < 6
  | _ => False
def kvM (k : Ky) : Prop := match k with
  | (8, n, e, l) => n = 0 ∧ e = 0 ∧ l = 0
  | (9, n, e, l) => (2 ≤ n ∧ n < 12) ∧ e = 0 ∧ l = 0
  | (10, n, e, l) => n = 0 ∧ e = 0 ∧ l = 0
  | _ => False
def xin (E : Ev) : Prop := ∀ k, kvX k → k ∈ ks E
def yin (E : Ev) : Prop := ∀ k, kvM k → k ∈ ks E
theorem in0 {E : Ev} (hX : xin E) {n e : Nat} (h : n < 9 ∧ e < 2) : (0, n, e, 0) ∈ ks E := hX _ ⟨h.1, h.2, rfl⟩
theorem in1 {E : Ev} (hX : xin E) {n e l : Nat} (h : n < 9 ∧ e < 2 ∧ l < 8) : (1, n, e, l) ∈ ks E := hX _ h
theorem in2 {E : Ev} (hX : xin E) : (2, 0, 0, 0) ∈ ks E := hX _ ⟨rfl, rfl, rfl⟩
theorem in3 {E : Ev} (hX : xin E) {n e l : Nat} (h : n < 9 ∧ e < 2 ∧ l < 6) : (3, n, e, l) ∈ ks E := hX _ h
theorem in4 {E : Ev} (hX : xin E) {n : Nat} (h : n < 9) : (4, n, 0, 0) ∈ ks E := hX _ ⟨h, rfl, rfl⟩
theorem in5 {E : Ev} (hX : xin E) {n e l : Nat} (h : n < 9 ∧ e < 2 ∧ l < 6) : (5, n, e, l) ∈ ks E := hX _ h
theorem in6 {E : Ev} (hX : xin E) : (6, 0, 0, 0) ∈ ks E := hX _ ⟨rfl, rfl, rfl⟩
theorem in7 {E : Ev} (hX : xin E) : (7, 0, 0, 0) ∈ ks E := hX _ ⟨rfl, rfl, rfl⟩
theorem in90 {E : Ev} (hX : xin E) : (9, 0, 0, 0) ∈ ks E := hX _ ⟨by decide, rfl, rfl⟩
theorem in91 {E : Ev} (hX : xin E) : (9, 1, 0, 0) ∈ ks E := hX _ ⟨by decide, rfl, rfl⟩
theorem in11 {E : Ev} (hX : xin E) {n e : Nat} (h : n < 9 ∧ e < 2) : (11, n, e, 0) ∈ ks E := hX _ ⟨h.1, h.2, rfl⟩
theorem in12 {E : Ev} (hX : xin E) : (12, 0, 0, 0) ∈ ks E := hX _ ⟨rfl, rfl, rfl⟩
theorem in13 {E : Ev} (hX : xin E) {n e : Nat} (h : n < 9 ∧ e < 2) : (13, n, e, 0) ∈ ks E := hX _ ⟨h.1, h.2, rfl⟩
theorem in14 {E : Ev} (hX : xin E) {n e l : Nat} (h : n < 9 ∧ e < 2 ∧ l < 6) : (14, n, e, l) ∈ ks E := hX _ h
theorem in8 {E : Ev} (hX : yin E) : (8, 0, 0, 0) ∈ ks E := hX _ ⟨rfl, rfl, rfl⟩
theorem in9 {E : Ev} (hX : yin E) {i : Nat} (h : 2 ≤ i ∧ i < 12) : (9, i, 0, 0) ∈ ks E := hX _ ⟨h, rfl, rfl⟩
theorem in10 {E : Ev} (hX : yin E) : (10, 0, 0, 0) ∈ ks E := hX _ ⟨rfl, rfl, rfl⟩
/-! small rows of numbers -/
theorem not_ge {i b : Nat} (h : i < b) (hb : b < 2 ^ 31) : ¬ nI b ≤ nI i := nI_ge h hb
end
