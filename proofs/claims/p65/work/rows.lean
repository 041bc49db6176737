section
-- ===== PART A: goes FIRST, ahead of the names: the tables' words, and 'selects' of the private methods out of them =====
/-- a private method of a class that the tables say can be made, by its rows of tables_1 -/
def lw_okq (q : MethodName × Nat) : Prop := (q.1.cls ≠ "java/lang/invoke/MethodHandle" ∧ q.1.cls ≠ "java/lang/invoke/VarHandle") ∧ Cond.instantiable q.1.cls q.2 ∈ tables_1 ∧ Cond.privateMethod q.1 ∈ tables_1 ∧ Cond.instanceMethod q.1 ∈ tables_1
theorem lw_p0 : lw_okq (⟨"PackedTable", "checkLength", "(I)V"⟩, 11) := ⟨⟨by decide +kernel, by decide +kernel⟩, List.mem_of_getElem? (i := 33) (by decide +kernel), List.mem_of_getElem? (i := 333) (by decide +kernel), List.mem_of_getElem? (i := 334) (by decide +kernel)⟩
theorem lw_p1 : lw_okq (⟨"java/lang/Throwable", "fillInStackTrace", "(I)Ljava/lang/Throwable;"⟩, 6) := ⟨⟨by decide +kernel, by decide +kernel⟩, List.mem_of_getElem? (i := 379) (by decide +kernel), List.mem_of_getElem? (i := 377) (by decide +kernel), List.mem_of_getElem? (i := 378) (by decide +kernel)⟩
theorem lw_p2 : lw_okq (⟨"PackedTable$Parser", "start", "(I)V"⟩, 9) := ⟨⟨by decide +kernel, by decide +kernel⟩, List.mem_of_getElem? (i := 155) (by decide +kernel), List.mem_of_getElem? (i := 412) (by decide +kernel), List.mem_of_getElem? (i := 413) (by decide +kernel)⟩
theorem lw_p3 : lw_okq (⟨"PackedTable$Input", "kindAt", "(I)I"⟩, 7) := ⟨⟨by decide +kernel, by decide +kernel⟩, List.mem_of_getElem? (i := 126) (by decide +kernel), List.mem_of_getElem? (i := 425) (by decide +kernel), List.mem_of_getElem? (i := 426) (by decide +kernel)⟩
theorem lw_p4 : lw_okq (⟨"PackedTable$Parser", "takeHead", "()Z"⟩, 9) := ⟨⟨by decide +kernel, by decide +kernel⟩, List.mem_of_getElem? (i := 155) (by decide +kernel), List.mem_of_getElem? (i := 430) (by decide +kernel), List.mem_of_getElem? (i := 431) (by decide +kernel)⟩
theorem lw_p5 : lw_okq (⟨"PackedTable$Parser", "takeWord", "(Ljava/lang/String;)Z"⟩, 9) := ⟨⟨by decide +kernel, by decide +kernel⟩, List.mem_of_getElem? (i := 155) (by decide +kernel), List.mem_of_getElem? (i := 435) (by decide +kernel), List.mem_of_getElem? (i := 436) (by decide +kernel)⟩
theorem lw_p6 : lw_okq (⟨"PackedTable$Parser", "fail", "(I)Z"⟩, 9) := ⟨⟨by decide +kernel, by decide +kernel⟩, List.mem_of_getElem? (i := 155) (by decide +kernel), List.mem_of_getElem? (i := 491) (by decide +kernel), List.mem_of_getElem? (i := 492) (by decide +kernel)⟩
theorem lw_p7 : lw_okq (⟨"PackedTable$Parser", "takeNumber", "(II)Z"⟩, 9) := ⟨⟨by decide +kernel, by decide +kernel⟩, List.mem_of_getElem? (i := 155) (by decide +kernel), List.mem_of_getElem? (i := 500) (by decide +kernel), List.mem_of_getElem? (i := 501) (by decide +kernel)⟩
theorem lw_p8 : lw_okq (⟨"PackedTable$Parser", "takeSemicolon", "()Z"⟩, 9) := ⟨⟨by decide +kernel, by decide +kernel⟩, List.mem_of_getElem? (i := 155) (by decide +kernel), List.mem_of_getElem? (i := 512) (by decide +kernel), List.mem_of_getElem? (i := 513) (by decide +kernel)⟩
theorem lw_p9 : lw_okq (⟨"PackedTable$Parser", "takeTableRow", "()Z"⟩, 9) := ⟨⟨by decide +kernel, by decide +kernel⟩, List.mem_of_getElem? (i := 155) (by decide +kernel), List.mem_of_getElem? (i := 524) (by decide +kernel), List.mem_of_getElem? (i := 525) (by decide +kernel)⟩
theorem lw_p10 : lw_okq (⟨"PackedTable$Parser", "failAtExtraRow", "()Z"⟩, 9) := ⟨⟨by decide +kernel, by decide +kernel⟩, List.mem_of_getElem? (i := 155) (by decide +kernel), List.mem_of_getElem? (i := 528) (by decide +kernel), List.mem_of_getElem? (i := 529) (by decide +kernel)⟩
theorem lw_p11 : lw_okq (⟨"PackedTable$Parser", "takeRow", "([II)Z"⟩, 9) := ⟨⟨by decide +kernel, by decide +kernel⟩, List.mem_of_getElem? (i := 155) (by decide +kernel), List.mem_of_getElem? (i := 536) (by decide +kernel), List.mem_of_getElem? (i := 537) (by decide +kernel)⟩
theorem lw_p12 : lw_okq (⟨"PackedTable$Parser", "takeInteger", "()Z"⟩, 9) := ⟨⟨by decide +kernel, by decide +kernel⟩, List.mem_of_getElem? (i := 155) (by decide +kernel), List.mem_of_getElem? (i := 540) (by decide +kernel), List.mem_of_getElem? (i := 541) (by decide +kernel)⟩
theorem lw_p13 : lw_okq (⟨"PackedTable", "checkColumn", "(I)V"⟩, 11) := ⟨⟨by decide +kernel, by decide +kernel⟩, List.mem_of_getElem? (i := 33) (by decide +kernel), List.mem_of_getElem? (i := 677) (by decide +kernel), List.mem_of_getElem? (i := 678) (by decide +kernel)⟩
theorem lw_p14 : lw_okq (⟨"PackedTable", "checkRow", "(I)V"⟩, 11) := ⟨⟨by decide +kernel, by decide +kernel⟩, List.mem_of_getElem? (i := 33) (by decide +kernel), List.mem_of_getElem? (i := 725) (by decide +kernel), List.mem_of_getElem? (i := 726) (by decide +kernel)⟩
theorem lw_p15 : lw_okq (⟨"PackedTable", "checkCode", "(II)V"⟩, 11) := ⟨⟨by decide +kernel, by decide +kernel⟩, List.mem_of_getElem? (i := 33) (by decide +kernel), List.mem_of_getElem? (i := 747) (by decide +kernel), List.mem_of_getElem? (i := 748) (by decide +kernel)⟩
def lw_privs_1 : List (MethodName × Nat) := [(⟨"PackedTable", "checkLength", "(I)V"⟩, 11), (⟨"java/lang/Throwable", "fillInStackTrace", "(I)Ljava/lang/Throwable;"⟩, 6), (⟨"PackedTable$Parser", "start", "(I)V"⟩, 9), (⟨"PackedTable$Input", "kindAt", "(I)I"⟩, 7), (⟨"PackedTable$Parser", "takeHead", "()Z"⟩, 9), (⟨"PackedTable$Parser", "takeWord", "(Ljava/lang/String;)Z"⟩, 9), (⟨"PackedTable$Parser", "fail", "(I)Z"⟩, 9), (⟨"PackedTable$Parser", "takeNumber", "(II)Z"⟩, 9), (⟨"PackedTable$Parser", "takeSemicolon", "()Z"⟩, 9), (⟨"PackedTable$Parser", "takeTableRow", "()Z"⟩, 9), (⟨"PackedTable$Parser", "failAtExtraRow", "()Z"⟩, 9), (⟨"PackedTable$Parser", "takeRow", "([II)Z"⟩, 9), (⟨"PackedTable$Parser", "takeInteger", "()Z"⟩, 9), (⟨"PackedTable", "checkColumn", "(I)V"⟩, 11), (⟨"PackedTable", "checkRow", "(I)V"⟩, 11), (⟨"PackedTable", "checkCode", "(II)V"⟩, 11)]
theorem lw_r1 : ∀ q ∈ lw_privs_1, lw_okq q := List.forall_mem_cons.mpr ⟨lw_p0, List.forall_mem_cons.mpr ⟨lw_p1, List.forall_mem_cons.mpr ⟨lw_p2, List.forall_mem_cons.mpr ⟨lw_p3, List.forall_mem_cons.mpr ⟨lw_p4, List.forall_mem_cons.mpr ⟨lw_p5, List.forall_mem_cons.mpr ⟨lw_p6, List.forall_mem_cons.mpr ⟨lw_p7, List.forall_mem_cons.mpr ⟨lw_p8, List.forall_mem_cons.mpr ⟨lw_p9, List.forall_mem_cons.mpr ⟨lw_p10, List.forall_mem_cons.mpr ⟨lw_p11, List.forall_mem_cons.mpr ⟨lw_p12, List.forall_mem_cons.mpr ⟨lw_p13, List.forall_mem_cons.mpr ⟨lw_p14, List.forall_mem_cons.mpr ⟨lw_p15, fun _ h => absurd h List.not_mem_nil⟩⟩⟩⟩⟩⟩⟩⟩⟩⟩⟩⟩⟩⟩⟩⟩
theorem lw_p16 : lw_okq (⟨"PackedTable", "checkCondition", "(I)V"⟩, 11) := ⟨⟨by decide +kernel, by decide +kernel⟩, List.mem_of_getElem? (i := 33) (by decide +kernel), List.mem_of_getElem? (i := 760) (by decide +kernel), List.mem_of_getElem? (i := 761) (by decide +kernel)⟩
theorem lw_p17 : lw_okq (⟨"PackedTable", "wordsOf", "(I)I"⟩, 11) := ⟨⟨by decide +kernel, by decide +kernel⟩, List.mem_of_getElem? (i := 33) (by decide +kernel), List.mem_of_getElem? (i := 826) (by decide +kernel), List.mem_of_getElem? (i := 827) (by decide +kernel)⟩
theorem lw_p18 : lw_okq (⟨"PackedTable$Packer", "packCode", "(IJ)V"⟩, 2) := ⟨⟨by decide +kernel, by decide +kernel⟩, List.mem_of_getElem? (i := 231) (by decide +kernel), List.mem_of_getElem? (i := 846) (by decide +kernel), List.mem_of_getElem? (i := 847) (by decide +kernel)⟩
theorem lw_p19 : lw_okq (⟨"PackedTable", "runsAfterSorting", "(I)I"⟩, 11) := ⟨⟨by decide +kernel, by decide +kernel⟩, List.mem_of_getElem? (i := 33) (by decide +kernel), List.mem_of_getElem? (i := 923) (by decide +kernel), List.mem_of_getElem? (i := 924) (by decide +kernel)⟩
theorem lw_p20 : lw_okq (⟨"PackedTable$Store", "fulfills", "(II)Z"⟩, 3) := ⟨⟨by decide +kernel, by decide +kernel⟩, List.mem_of_getElem? (i := 41) (by decide +kernel), List.mem_of_getElem? (i := 983) (by decide +kernel), List.mem_of_getElem? (i := 984) (by decide +kernel)⟩
theorem lw_p21 : lw_okq (⟨"PackedTable", "sumOfSelected", "(I)J"⟩, 11) := ⟨⟨by decide +kernel, by decide +kernel⟩, List.mem_of_getElem? (i := 33) (by decide +kernel), List.mem_of_getElem? (i := 1020) (by decide +kernel), List.mem_of_getElem? (i := 1021) (by decide +kernel)⟩
theorem lw_p22 : lw_okq (⟨"PackedTable", "collectSelected", "(I)V"⟩, 11) := ⟨⟨by decide +kernel, by decide +kernel⟩, List.mem_of_getElem? (i := 33) (by decide +kernel), List.mem_of_getElem? (i := 1028) (by decide +kernel), List.mem_of_getElem? (i := 1029) (by decide +kernel)⟩
theorem lw_p23 : lw_okq (⟨"PackedTable", "checkAnySeen", "()V"⟩, 11) := ⟨⟨by decide +kernel, by decide +kernel⟩, List.mem_of_getElem? (i := 33) (by decide +kernel), List.mem_of_getElem? (i := 1034) (by decide +kernel), List.mem_of_getElem? (i := 1035) (by decide +kernel)⟩
theorem lw_p24 : lw_okq (⟨"PackedTable", "packingDifferences", "(LPackedTable$Column;)I"⟩, 11) := ⟨⟨by decide +kernel, by decide +kernel⟩, List.mem_of_getElem? (i := 33) (by decide +kernel), List.mem_of_getElem? (i := 1067) (by decide +kernel), List.mem_of_getElem? (i := 1068) (by decide +kernel)⟩
theorem lw_p25 : lw_okq (⟨"PackedTable$Store", "moveRow", "(II)V"⟩, 3) := ⟨⟨by decide +kernel, by decide +kernel⟩, List.mem_of_getElem? (i := 41) (by decide +kernel), List.mem_of_getElem? (i := 1093) (by decide +kernel), List.mem_of_getElem? (i := 1094) (by decide +kernel)⟩
theorem lw_p26 : lw_okq (⟨"PackedTable$Store", "shorten", "(I)V"⟩, 3) := ⟨⟨by decide +kernel, by decide +kernel⟩, List.mem_of_getElem? (i := 41) (by decide +kernel), List.mem_of_getElem? (i := 1101) (by decide +kernel), List.mem_of_getElem? (i := 1102) (by decide +kernel)⟩
theorem lw_p27 : lw_okq (⟨"PackedTable$Parser", "takeEnd", "()Z"⟩, 9) := ⟨⟨by decide +kernel, by decide +kernel⟩, List.mem_of_getElem? (i := 155) (by decide +kernel), List.mem_of_getElem? (i := 1327) (by decide +kernel), List.mem_of_getElem? (i := 1328) (by decide +kernel)⟩
theorem lw_p28 : lw_okq (⟨"PackedTable", "checkValue", "(I)V"⟩, 11) := ⟨⟨by decide +kernel, by decide +kernel⟩, List.mem_of_getElem? (i := 33) (by decide +kernel), List.mem_of_getElem? (i := 1336) (by decide +kernel), List.mem_of_getElem? (i := 1337) (by decide +kernel)⟩
theorem lw_p29 : lw_okq (⟨"PackedTable", "sortRows", "(IZ)V"⟩, 11) := ⟨⟨by decide +kernel, by decide +kernel⟩, List.mem_of_getElem? (i := 33) (by decide +kernel), List.mem_of_getElem? (i := 1359) (by decide +kernel), List.mem_of_getElem? (i := 1360) (by decide +kernel)⟩
theorem lw_p30 : lw_okq (⟨"PackedTable", "addCondition", "(III)I"⟩, 11) := ⟨⟨by decide +kernel, by decide +kernel⟩, List.mem_of_getElem? (i := 33) (by decide +kernel), List.mem_of_getElem? (i := 1380) (by decide +kernel), List.mem_of_getElem? (i := 1381) (by decide +kernel)⟩
def lw_privs_2 : List (MethodName × Nat) := [(⟨"PackedTable", "checkCondition", "(I)V"⟩, 11), (⟨"PackedTable", "wordsOf", "(I)I"⟩, 11), (⟨"PackedTable$Packer", "packCode", "(IJ)V"⟩, 2), (⟨"PackedTable", "runsAfterSorting", "(I)I"⟩, 11), (⟨"PackedTable$Store", "fulfills", "(II)Z"⟩, 3), (⟨"PackedTable", "sumOfSelected", "(I)J"⟩, 11), (⟨"PackedTable", "collectSelected", "(I)V"⟩, 11), (⟨"PackedTable", "checkAnySeen", "()V"⟩, 11), (⟨"PackedTable", "packingDifferences", "(LPackedTable$Column;)I"⟩, 11), (⟨"PackedTable$Store", "moveRow", "(II)V"⟩, 3), (⟨"PackedTable$Store", "shorten", "(I)V"⟩, 3), (⟨"PackedTable$Parser", "takeEnd", "()Z"⟩, 9), (⟨"PackedTable", "checkValue", "(I)V"⟩, 11), (⟨"PackedTable", "sortRows", "(IZ)V"⟩, 11), (⟨"PackedTable", "addCondition", "(III)I"⟩, 11)]
theorem lw_r2 : ∀ q ∈ lw_privs_2, lw_okq q := List.forall_mem_cons.mpr ⟨lw_p16, List.forall_mem_cons.mpr ⟨lw_p17, List.forall_mem_cons.mpr ⟨lw_p18, List.forall_mem_cons.mpr ⟨lw_p19, List.forall_mem_cons.mpr ⟨lw_p20, List.forall_mem_cons.mpr ⟨lw_p21, List.forall_mem_cons.mpr ⟨lw_p22, List.forall_mem_cons.mpr ⟨lw_p23, List.forall_mem_cons.mpr ⟨lw_p24, List.forall_mem_cons.mpr ⟨lw_p25, List.forall_mem_cons.mpr ⟨lw_p26, List.forall_mem_cons.mpr ⟨lw_p27, List.forall_mem_cons.mpr ⟨lw_p28, List.forall_mem_cons.mpr ⟨lw_p29, List.forall_mem_cons.mpr ⟨lw_p30, fun _ h => absurd h List.not_mem_nil⟩⟩⟩⟩⟩⟩⟩⟩⟩⟩⟩⟩⟩⟩⟩
def lw_privs : List (MethodName × Nat) := lw_privs_1 ++ (lw_privs_2)
/-- a private method of a superclass, on an object of the class C -/
theorem lw_subsel {C : String} {y z : MethodName} {s : State} {args : Array Value} (hz : (Cond.selects C z z).before args s = true) (hcl : z.cls = y.cls) (hy : y.cls ≠ "java/lang/invoke/MethodHandle" ∧ y.cls ≠ "java/lang/invoke/VarHandle")
    (hpriv : (Cond.privateMethod y).before args s = true) (hinst : (Cond.instanceMethod y).before args s = true) : (Cond.selects C y y).before args s = true := by
  obtain ⟨c, r, m, hc, hr, hm, hsel0, mk0, hmk, hni⟩ := Cond.selects_spec hz
  obtain ⟨mk, methM, hnamed, hmethM, -, -⟩ := Cond.instanceMethod_spec hinst
  have hfound : s.methodFound? y.cls y.name y.desc = some mk := State.methodFound?_of_named hnamed hy
  have hcls : mk.cls = m.cls := Option.some.inj ((findClass_of_methodNamed hnamed).symm.trans (hcl ▸ findClass_of_methodNamed hm))
  have hsel : selectMethod {} s.vm c mk = .method mk := selectMethod_private hmethM (Cond.privateMethod_at hpriv mk methM hnamed hmethM)
  simp only [Cond.before, Cond.holds, Cond.value, hc, hfound, hnamed, hsel, hcls, hmk]
  simp; exact hni
def lw_subs : List MethodName := [⟨"java/lang/AbstractStringBuilder", "ensureCapacityInternal", "(I)V"⟩, ⟨"java/lang/AbstractStringBuilder", "newCapacity", "(I)I"⟩, ⟨"java/lang/AbstractStringBuilder", "putStringAt", "(ILjava/lang/String;)V"⟩, ⟨"java/lang/AbstractStringBuilder", "inflateIfNeededFor", "(Ljava/lang/String;)V"⟩]
theorem lw_subs_ok : ∀ y ∈ lw_subs, ("java/lang/AbstractStringBuilder" = y.cls ∧ y.cls ≠ "java/lang/invoke/MethodHandle" ∧ y.cls ≠ "java/lang/invoke/VarHandle") ∧ Cond.privateMethod y ∈ tables_1 ∧ Cond.instanceMethod y ∈ tables_1 := by decide +kernel
theorem lw_sub0 : Cond.selects "java/lang/StringBuilder" ⟨"java/lang/AbstractStringBuilder", "isLatin1", "()Z"⟩ ⟨"java/lang/AbstractStringBuilder", "isLatin1", "()Z"⟩ ∈ tables_1 := by decide +kernel
def lw_tbl : List Cond := lw_subs.map (fun y => Cond.selects "java/lang/StringBuilder" y y) ++ (k2_sels lw_privs ++ tables_1)
theorem lw_privs_ok : ∀ q ∈ lw_privs, lw_okq q := by
  show ∀ q ∈ lw_privs_1 ++ (lw_privs_2), lw_okq q
  exact List.forall_mem_append.mpr ⟨lw_r1, lw_r2⟩
/-- the words of the tables hold where those of tables_1 do -/
theorem lw_htsA {args : Array Value} {s : State} (hts : ∀ w ∈ tables_1, w.before args s = true) : ∀ w ∈ lw_tbl, w.before args s = true := by
  intro w hw
  rcases List.mem_append.mp hw with hw | hw
  · obtain ⟨y, hy, rfl⟩ := List.mem_map.mp hw
    obtain ⟨⟨h0, h1⟩, h2, h3⟩ := lw_subs_ok y hy
    exact lw_subsel (hts _ lw_sub0) h0 h1 (hts _ h2) (hts _ h3)
  · exact k2_hts_sels lw_privs hts lw_privs_ok w hw
end
section
/-! ===== BEGIN words of one list among another's, by their places ===== -/
theorem goodIn_r {big : List Cond} (ws : List Cond) (ps : List Nat) (hp : ws = ps.filterMap (fun i => big[i]?)) (h : ws.all goodWord = true) : GoodIn big ws := by
  intro w hw
  have h1 := List.all_eq_true.mp h w hw
  rw [hp] at hw
  obtain ⟨i, -, hi⟩ := List.mem_filterMap.mp hw
  have hm : w ∈ big := by first | exact List.mem_of_getElem? hi | exact List.getElem?_mem hi
  exact ⟨hm, good_of_word h1⟩
theorem goodIn_app {big a b : List Cond} (ha : GoodIn big a) (hb : GoodIn big b) : GoodIn big (a ++ b) := fun w h => (List.mem_append.mp h).elim (ha w) (hb w)
theorem goodIn_ca {big a b : List Cond} {c : Cond} (ha : GoodIn big (c :: a)) (hb : GoodIn big b) : GoodIn big (c :: (a ++ b)) := fun w h => (List.mem_cons.mp h).elim (fun e => ha w (List.mem_cons.mpr (Or.inl e))) (fun h => (List.mem_append.mp h).elim (fun h => ha w (List.mem_cons.mpr (Or.inr h))) (hb w))
theorem goodIn_sub {big ws : List Cond} (hm : ∀ w ∈ ws, w ∈ big) (h : ws.all goodWord = true) : GoodIn big ws := fun w hw => ⟨hm w hw, good_of_word (List.all_eq_true.mp h w hw)⟩
/-! ===== END ===== -/

/-! ===== BEGIN exceptions that leave a method, and their catching by the caller (launches without stack traces) ===== -/
section VXA
/-! The laws vx_back, vx_callV, vx_callS, vx_callSW, vx_throw0, vx_throwS follow proofs of the library, with one case more: JvmDerived/Free/Laws.lean (Back.of_free), Shelf42/LK1.lean (callV, callS), Shelf/KitTraced.lean (throwNew0V, throwNewS). -/
/-- where a method has thrown q: the class by its name, the cell, what was written, the world -/
def vx_T (XC : String → State → State → Prop) (st : State) (q : Addr) (t : State) (mc ms : Nat) (free : Addr → Prop) : Prop :=
  ∃ (E : String) (ce : Cell) (L : List Loc), XC E st t ∧ t.heap[q]? = some ce ∧ ce.vm = .none ∧ st.vm.findClass E = some ce.cls ∧ st.WarmedH t.vm ∧ st.sameButNew ({ t with vm := st.vm } : State) L mc ms ∧ ∀ z ∈ L, free z.base
def vx_Q (Qc : Array Value → State → Outcome → State → Prop) (XC : String → State → State → Prop) (mc ms : Nat) (free : Addr → Prop) : Array Value → State → Outcome → State → Prop := fun a st o t =>
  (Qc a st o t ∧ ∃ L, FrameEnd st o t L mc ms ∧ ∀ q ∈ L, free q.base) ∨ ∃ q, o = .threw q ∧ vx_T XC st q t mc ms free
/-- a callee that returns or throws -/
def vx_Met (l : Launch) (y : MethodName) (ws : List Cond) (rm : Room) (Pc : Array Value → State → Prop) (Qc : Array Value → State → Outcome → State → Prop) (XC : String → State → State → Prop) (mc ms : Nat) (free : Addr → Prop) : Prop :=
  MetFree l y (headSpec ws rm) Pc (fun _ _ _ _ _ => True) (vx_Q Qc XC mc ms free)
def vx_Post (XC : String → State → State → Prop) (mc ms : Nat) (free : Addr → Prop) : Pt → Array Value → Addr → Pt → Prop := fun A a q B =>
  ∃ (g : JFrame) (mk : MethodId) (t : State) (L : List Loc) (E : String) (ce : Cell), B.U.heap = t.heap ∧ B.U.vm = t.vm ∧ XC E (A.U.calling g mk a) t ∧ t.heap[q]? = some ce ∧ ce.vm = .none ∧ A.U.vm.findClass E = some ce.cls ∧ B.locs = A.locs ++ L ∧ (∀ z ∈ L, free z.base) ∧ B.cells = A.cells + mc ∧ B.slots = A.slots + ms
def vx_Back (l : Launch) (R : Room) (p : Program) (e : Env) (below : List Frame) (s : State) (sargs : Array Value) (y : MethodName) (len W9 : Nat)
    (Pre : Pt → Array Value → Prop) (Post : Pt → Array Value → Option Value → Pt → Prop) (PostX : Pt → Array Value → Addr → Pt → Prop) : Prop :=
  ∀ (m : MethodId) (meth : Method) (c : Code) (A : Pt) (g : JFrame) (ig : Instr) (mk : MethodId) (a : Array Value),
    Stand p l e R s m sargs below meth c A.U A.locs A.cells A.slots → g.method = m → g.locals.size = c.maxLocals → decode c.code g.pc = .ok (ig, len) →
    2 * g.monitorRoom + (g.stack.map fun v => v.category).sum ≤ W9 → A.U.methodNamed? y = some mk → Pre A a →
    (∃ (v : Option Value) (B : Pt), Stand p l e R s m sargs below meth c B.U B.locs B.cells B.slots ∧ Post A a v B ∧
      Steps p.tables e below (doInvoke e (A.U.setTop g) [] mk a).1 (B.U.setTop { g with pc := g.pc + len, stack := v.toList ++ g.stack })) ∨
    (∃ (q : Addr) (B : Pt), Stand p l e R s m sargs below meth c B.U B.locs B.cells B.slots ∧ PostX A a q B ∧
      Steps p.tables e below (doInvoke e (A.U.setTop g) [] mk a).1 ((B.U.setTop g).pushFrame (.throwing q)))
section Payer
variable {l : Launch} {R : Room} {p : Program} {e : Env} {below : List Frame} {s : State} {sargs : Array Value} {y : MethodName} {len W9 : Nat}
theorem vx_back {ws : List Cond} {rm : Room} {Pc : Array Value → State → Prop} {Qc : Array Value → State → Outcome → State → Prop} {XC : String → State → State → Prop} {mc ms : Nat} {free : Addr → Prop} {bytes : ByteArray} {maxL : Nat} {ret : Option FieldType}
    (hM : vx_Met l y ws rm Pc Qc XC mc ms free) (hblind : FrameBlind Pc) (hrc : rm.cells = mc) (hrs : rm.slots = ms)
    (hframes : rm.frames + 1 ≤ R.frames) (hlocals : W9 + (maxL + 11) + rm.locals ≤ R.locals)
    (hws : ∀ w ∈ ws, ∀ a' U, s.WarmedH U.vm → w.before a' U = true) (hcode : Cond.code y bytes maxL ret ∈ ws) (hinit : ∀ a' U, s.WarmedH U.vm → (Cond.initialized y.cls).before a' U = true) :
    vx_Back l R p e below s sargs y len W9 (PreOf R mc ms Pc) (PostOf Qc mc ms free) (vx_Post XC mc ms free) := by
  intro m meth c A g ig mk a X hg hsize hdg hW hn hp
  have h1 : (headSpec ws rm).pre.before a A.U = true := atoms_intro fun w hw => hws w hw _ _ X.warmed
  have h2 : (Cond.code y bytes maxL ret).before a A.U = true := hws _ hcode _ _ X.warmed
  have h3 : (Cond.initialized y.cls).before a A.U = true := hinit _ _ X.warmed
  have h4 : A.cells + (headSpec ws rm).room.cells ≤ R.cells := by rw [show (headSpec ws rm).room.cells = mc from hrc]; exact hp.1
  have h5 : A.slots + (headSpec ws rm).room.slots ≤ R.slots := by rw [show (headSpec ws rm).room.slots = ms from hrs]; exact hp.2.1
  have hPc : Pc a (A.U.calling g mk a) := hblind _ _ _ _ hp.2.2
  obtain ⟨U, Ls, c0, s0⟩ := A
  dsimp only [Pt.U, Pt.locs, Pt.cells, Pt.slots] at h1 h2 h3 h4 h5 X hn hPc ⊢
  obtain ⟨methY, cY, hmY, hcY, -, hlY, -, -, -, -⟩ := Cond.code_spec hn h2
  obtain ⟨kY, hkY, -⟩ := className_of_methodNamed hn
  have hinitY : kY.init = .initialized := Cond.initialized_spec (findClass_of_methodNamed hn) hkY h3
  have h : At U g.method c below := by rw [hg]; exact X.here
  have hlocals9 : W9 + (maxL + 11) + (headSpec ws rm).room.locals ≤ R.locals := hlocals
  have happ : (headSpec ws rm).appliesLoose y e.platform (U.calling g mk a) = true :=
    Spec.appliesLoose_calling (g := g) h hdg hn hkY hinitY
      (X.room_calling (g := g) (R' := (headSpec ws rm).room) hsize hmY hcY hframes (by rw [hlY]; omega) h4 h5) h1
  obtain ⟨mid, hmid⟩ := h.above
  have hfr : (U.setTop g).frames = (.java g :: mid) ++ below := by rw [State.frames_setTop' g h.top, hmid]; rfl
  obtain ⟨o, s₂, hsteps, -, hend, hq⟩ := Steps.callFree hM p X.admits X.cas X.clock (acts := []) hfr happ hPc trivial
  have hq' : vx_Q Qc XC mc ms free a (U.calling g mk a) o s₂ := hq
  rw [State.frames_setTop' g h.top] at hend
  obtain ⟨g₀, hg0⟩ := Option.isSome_iff_exists.mp h.top
  obtain ⟨r, hr⟩ := State.topJava?_eq_some.mp hg0
  have hr' : (({ U with heap := s₂.heap, slotsUsed := s₂.slotsUsed } : State).setVm s₂.vm).frames = .java g₀ :: r := hr
  rcases hq' with ⟨hqc, L, hfe, hL⟩ | ⟨q, rfl, E, ce, L, hx, hce, hcv, hcl, hW₂, hsm, hL⟩
  · obtain ⟨⟨v, rfl⟩, hW₂, e2, q2, q3, q4, q5, q6⟩ := id hfe
    have e3 : s₂ = ({ (U.calling g mk a).setFrames s₂.frames with heap := s₂.heap, slotsUsed := s₂.slotsUsed } : State).setVm s₂.vm := by
      have : s₂ = ({ s₂ with vm := (U.calling g mk a).vm } : State).setVm s₂.vm := rfl
      rw [e2] at this
      exact this
    obtain ⟨c₂, i₂, len₂, hc₂, hd₂, hf₂⟩ := hend
    have hW' : U.WarmedH s₂.vm := hW₂
    have hcc : c₂ = c := by
      have h1 : s₂.code? g.method = U.code? g.method := by
        rw [State.code?_eq, State.code?_eq, hW'.alike.method?]
      exact Option.some.inj (hc₂.symm.trans (h1.trans h.code))
    subst hcc
    have hlen : len₂ = len := by rw [hdg] at hd₂; cases hd₂; rfl
    subst hlen
    have hs₂ : s₂ = (({ U with heap := s₂.heap, slotsUsed := s₂.slotsUsed } : State).setVm s₂.vm).setTop { g with pc := g.pc + len₂, stack := v.toList ++ g.stack } := by
      refine e3.trans ?_
      rw [hf₂, State.calling_eq h.top, State.setFrames_setFrames, State.setTop_of_frames _ hr', hr]
      rfl
    have hsame : U.sameButNew ({ U with heap := s₂.heap, slotsUsed := s₂.slotsUsed } : State) L mc ms := by
      refine ⟨?_, q2, q3, q4, q5, q6⟩
      obtain ⟨t, ht, -⟩ := State.frames_cons hr
      show ({ U with heap := s₂.heap, slotsUsed := s₂.slotsUsed } : State) = { U.setFrames U.frames with heap := s₂.heap, slotsUsed := s₂.slotsUsed }
      rw [State.setFrames_self ht]
    subst hg
    refine Or.inl ⟨v, ⟨(({ U with heap := s₂.heap, slotsUsed := s₂.slotsUsed } : State).setVm s₂.vm), Ls ++ L, c0 + mc, s0 + ms⟩,
      ⟨X.admits, X.cas, X.clock, X.frames, X.room, X.hears, X.method, X.code, (X.here.setHeapUsed s₂.heap s₂.slotsUsed).setVm hW'.alike, X.tail, State.WarmedH.trans X.warmed hW', X.limits, X.bytes, X.same.trans (hsame.setVm s.vm)⟩,
      ⟨g, mk, s₂, L, rfl, rfl, hqc, rfl, hL, rfl, rfl⟩, ?_⟩
    show Steps p.tables e below _ ((({ U with heap := s₂.heap, slotsUsed := s₂.slotsUsed } : State).setVm s₂.vm).setTop { g with pc := g.pc + len₂, stack := v.toList ++ g.stack })
    rw [← hs₂]
    exact hsteps
  · obtain ⟨e2, q2, q3, q4, q5, q6⟩ := id hsm
    have e3 : s₂ = ({ (U.calling g mk a).setFrames s₂.frames with heap := s₂.heap, slotsUsed := s₂.slotsUsed } : State).setVm s₂.vm := by
      have : s₂ = ({ s₂ with vm := (U.calling g mk a).vm } : State).setVm s₂.vm := rfl
      rw [e2] at this
      exact this
    have hf₂ : s₂.frames = .throwing q :: .java g :: U.frames.tail := hend
    have hW' : U.WarmedH s₂.vm := hW₂
    have hs₂ : s₂ = ((({ U with heap := s₂.heap, slotsUsed := s₂.slotsUsed } : State).setVm s₂.vm).setTop g).pushFrame (.throwing q) := by
      refine e3.trans ?_
      rw [hf₂, State.calling_eq h.top, State.setFrames_setFrames, State.pushFrame, State.frames_setTop _ hr', State.setTop_of_frames _ hr', State.setFrames_setFrames, hr]
      rfl
    have hsame : U.sameButNew ({ U with heap := s₂.heap, slotsUsed := s₂.slotsUsed } : State) L mc ms := by
      refine ⟨?_, q2, q3, q4, q5, q6⟩
      obtain ⟨t, ht, -⟩ := State.frames_cons hr
      show ({ U with heap := s₂.heap, slotsUsed := s₂.slotsUsed } : State) = { U.setFrames U.frames with heap := s₂.heap, slotsUsed := s₂.slotsUsed }
      rw [State.setFrames_self ht]
    subst hg
    refine Or.inr ⟨q, ⟨(({ U with heap := s₂.heap, slotsUsed := s₂.slotsUsed } : State).setVm s₂.vm), Ls ++ L, c0 + mc, s0 + ms⟩,
      ⟨X.admits, X.cas, X.clock, X.frames, X.room, X.hears, X.method, X.code, (X.here.setHeapUsed s₂.heap s₂.slotsUsed).setVm hW'.alike, X.tail, State.WarmedH.trans X.warmed hW', X.limits, X.bytes, X.same.trans (hsame.setVm s.vm)⟩,
      ⟨g, mk, s₂, L, E, ce, rfl, rfl, hx, hce, hcv, hcl, rfl, hL, rfl, rfl⟩, ?_⟩
    show Steps p.tables e below _ (((({ U with heap := s₂.heap, slotsUsed := s₂.slotsUsed } : State).setVm s₂.vm).setTop g).pushFrame (.throwing q))
    rw [← hs₂]
    exact hsteps
end Payer
section Calls
variable {p : Program} {l : Launch} {e : Env} {R : Room} {s : State} {m : MethodId} {args : Array Value} {below : List Frame} {meth : Method} {c : Code} {T : State} {locs : List Loc} {cells slots : Nat}
theorem vx_callV (X : Stand p l e R s m args below meth c T locs cells slots) (hexec : p.tables.exec = Jvm.exec) {own C : String} {index : Nat} {y : MethodName} {bytes : ByteArray} {maxL : Nat} {ret : Option FieldType}
    (hown : s.vm.findClass own = some m.cls) (hlink : (Cond.methodLink own index y).before args s = true) (hinst : (Cond.instanceMethod y).before args s = true) (hsel : (Cond.selects C y y).before args s = true)
    (hcode : (Cond.code y bytes maxL ret).before args s = true) (hy : y.cls ≠ "java/lang/invoke/MethodHandle" ∧ y.cls ≠ "java/lang/invoke/VarHandle")
    {W9 : Nat} {Pre : Pt → Array Value → Prop} {Post : Pt → Array Value → Option Value → Pt → Prop} {PostX : Pt → Array Value → Addr → Pt → Prop} (hK : vx_Back l R p e below s args y 3 W9 Pre Post PostX)
    {b : Addr} {cellB : Cell} (hcell : T.heap[b]? = some cellB) (hobj : cellB.vm.isStatics = false) (hcls : s.vm.findClass C = some cellB.cls)
    {g : JFrame} (hg : g.method = m) (hsize : g.locals.size = c.maxLocals) {argsL rest : List Value} (hlen : ∀ sig, parseMethodDescriptor y.desc = some sig → argsL.length = sig.parameters.length)
    (hstack : g.stack = argsL.reverse ++ .ref b :: rest) (hW : 2 * g.monitorRoom + (rest.map fun v => v.category).sum ≤ W9) (hdg : decode c.code g.pc = .ok (.invokevirtual index, 3))
    (hpre : ∀ vm₁, s.WarmedH vm₁ → Pre ⟨T.setVm vm₁, locs, cells, slots⟩ (Value.ref b :: argsL).toArray) :
    (∃ (v : Option Value) (vm₁ : Vm) (B : Pt), s.WarmedH vm₁ ∧ Stand p l e R s m args below meth c B.U B.locs B.cells B.slots ∧ Post ⟨T.setVm vm₁, locs, cells, slots⟩ (Value.ref b :: argsL).toArray v B ∧
      ∀ target, Steps p.tables e below (B.U.setTop { g with pc := g.pc + 3, stack := v.toList ++ rest }) target → Steps p.tables e below (T.setTop g) target) ∨
    (∃ (q : Addr) (vm₁ : Vm) (B : Pt), s.WarmedH vm₁ ∧ Stand p l e R s m args below meth c B.U B.locs B.cells B.slots ∧ PostX ⟨T.setVm vm₁, locs, cells, slots⟩ (Value.ref b :: argsL).toArray q B ∧
      Steps p.tables e below (T.setTop g) ((B.U.setTop { g with stack := rest }).pushFrame (.throwing q))) := by
  obtain ⟨mk, methM, hnamed, hmethM, hstM, habM⟩ := Cond.instanceMethod_spec hinst
  obtain ⟨methM', cM, hmethM', -, -, -, -, -, -, hsigM⟩ := Cond.code_spec hnamed hcode
  cases hmethM.symm.trans hmethM'
  obtain ⟨c2, r2, m2, q1, q2, q3, q4, kP, hkP, hkPi⟩ := Cond.selects_spec hsel
  cases hcls.symm.trans q1
  cases (State.methodFound?_of_named hnamed hy).symm.trans q2
  cases hnamed.symm.trans q3
  have hselP : selectMethod e.platform s.vm cellB.cls mk = .method mk := by rw [Launch.admits_selectMethod X.admits]; exact q4
  obtain ⟨vm₁, X₁, hstep₁⟩ := X.invokevirtual hexec hown hlink hnamed hmethM hstM hkP hkPi hy (a := b) (cell := cellB) hcell
    (fun z h => by rw [h] at hobj; cases hobj) hselP hmethM habM hkP hkPi (g := g) hg (argsL := argsL) (rest := rest) (hlen _ hsigM) hstack hdg
  rcases hK m meth c ⟨T.setVm vm₁, locs, cells, slots⟩ { g with stack := rest } (.invokevirtual index) mk (Value.ref b :: argsL).toArray X₁ hg hsize hdg hW (X₁.named hnamed) (hpre vm₁ X₁.warmed) with ⟨v, B, X', hpost, hsteps⟩ | ⟨q, B, X', hpost, hsteps⟩
  · exact Or.inl ⟨v, vm₁, B, X₁.warmed, X', hpost, fun target h => hstep₁ _ fun acts => by rw [doInvoke_state]; exact hsteps.trans h⟩
  · exact Or.inr ⟨q, vm₁, B, X₁.warmed, X', hpost, hstep₁ _ fun acts => by rw [doInvoke_state]; exact hsteps⟩
theorem vx_callS (X : Stand p l e R s m args below meth c T locs cells slots) (hexec : p.tables.exec = Jvm.exec) {own : String} {index : Nat} {y : MethodName} {bytes : ByteArray} {maxL : Nat} {ret : Option FieldType}
    (hown : s.vm.findClass own = some m.cls) (hlink : (Cond.methodLink own index y).before args s = true) (hstat : (Cond.static y).before args s = true) (hinit : (Cond.initialized y.cls).before args s = true)
    (hcode : (Cond.code y bytes maxL ret).before args s = true) (hy : y.cls ≠ "java/lang/invoke/MethodHandle" ∧ y.cls ≠ "java/lang/invoke/VarHandle")
    {W9 : Nat} {Pre : Pt → Array Value → Prop} {Post : Pt → Array Value → Option Value → Pt → Prop} {PostX : Pt → Array Value → Addr → Pt → Prop} (hK : vx_Back l R p e below s args y 3 W9 Pre Post PostX)
    {g : JFrame} (hg : g.method = m) (hsize : g.locals.size = c.maxLocals) {argsL rest : List Value} (hlen : ∀ sig, parseMethodDescriptor y.desc = some sig → argsL.length = sig.parameters.length)
    (hstack : g.stack = argsL.reverse ++ rest) (hW : 2 * g.monitorRoom + (rest.map fun v => v.category).sum ≤ W9) (hdg : decode c.code g.pc = .ok (.invokestatic index, 3))
    (hpre : ∀ vm₁, s.WarmedH vm₁ → Pre ⟨T.setVm vm₁, locs, cells, slots⟩ argsL.toArray) :
    (∃ (v : Option Value) (vm₁ : Vm) (B : Pt), s.WarmedH vm₁ ∧ Stand p l e R s m args below meth c B.U B.locs B.cells B.slots ∧ Post ⟨T.setVm vm₁, locs, cells, slots⟩ argsL.toArray v B ∧
      ∀ target, Steps p.tables e below (B.U.setTop { g with pc := g.pc + 3, stack := v.toList ++ rest }) target → Steps p.tables e below (T.setTop g) target) ∨
    (∃ (q : Addr) (vm₁ : Vm) (B : Pt), s.WarmedH vm₁ ∧ Stand p l e R s m args below meth c B.U B.locs B.cells B.slots ∧ PostX ⟨T.setVm vm₁, locs, cells, slots⟩ argsL.toArray q B ∧
      Steps p.tables e below (T.setTop g) ((B.U.setTop { g with stack := rest }).pushFrame (.throwing q))) := by
  obtain ⟨mk, hnamed⟩ := Cond.code_named hcode
  obtain ⟨methM, cM, hmethM, -, -, -, -, -, -, hsigM⟩ := Cond.code_spec hnamed hcode
  have hstatic : methM.isStatic = true := Cond.static_spec hnamed hmethM hstat
  obtain ⟨kP, hkP, -⟩ := className_of_methodNamed hnamed
  have hinitP : kP.init = .initialized := Cond.initialized_spec (findClass_of_methodNamed hnamed) hkP hinit
  obtain ⟨vm₁, X₁, hstep₁⟩ := X.invokestatic hexec hown hlink hnamed hmethM hstatic hkP hinitP hy (g := g) hg (argsL := argsL) (rest := rest) (hlen _ hsigM) hstack hdg
  rcases hK m meth c ⟨T.setVm vm₁, locs, cells, slots⟩ { g with stack := rest } (.invokestatic index) mk argsL.toArray X₁ hg hsize hdg hW (X₁.named hnamed) (hpre vm₁ X₁.warmed) with ⟨v, B, X', hpost, hsteps⟩ | ⟨q, B, X', hpost, hsteps⟩
  · exact Or.inl ⟨v, vm₁, B, X₁.warmed, X', hpost, fun target h => hstep₁ _ fun acts => by rw [doInvoke_state]; exact hsteps.trans h⟩
  · exact Or.inr ⟨q, vm₁, B, X₁.warmed, X', hpost, hstep₁ _ fun acts => by rw [doInvoke_state]; exact hsteps⟩
end Calls
theorem vx_cls {s : State} {T : State} {vm₁ : Vm} {E : String} {k : ClassId} (hW : s.WarmedH vm₁) (h : (T.setVm vm₁).vm.findClass E = some k) : s.vm.findClass E = some k := by
  have h1 : vm₁.findClass E = some k := h
  rw [hW.alike.findClass] at h1
  exact h1
/-- the method's frame g, with q thrown over it -/
def vx_W (p : Program) (l : Launch) (e : Env) (R : Room) (s : State) (m : MethodId) (args : Array Value) (below : List Frame) (meth : Method) (c : Code) (H : Heap) (locs : List Loc) (cells slots : Nat) (Q : State → Prop) (g : JFrame) (q : Addr) : Prop :=
  ∀ T : State, T.heap = H → Stand p l e R s m args below meth c T locs cells slots → ∃ t, Steps p.tables e below ((T.setTop g).pushFrame (.throwing q)) t ∧ Q t
def vx_Run (p : Program) (l : Launch) (e : Env) (R : Room) (s : State) (m : MethodId) (args : Array Value) (below : List Frame) (meth : Method) (c : Code) (H : Heap) (locs : List Loc) (cells slots mc ms : Nat) (g : JFrame) (rest : List Value) (Qa : State → Outcome → State → Prop) (XC : String → State → State → Prop) (free : Addr → Prop) : Prop :=
  ∀ T : State, T.heap = H → Stand p l e R s m args below meth c T locs cells slots →
    (∃ (v : Option Value) (st₀ t T' : State) (L : List Loc), st₀.heap = H ∧ Stand p l e R s m args below meth c T' (locs ++ L) (cells + mc) (slots + ms) ∧ (∀ q ∈ L, free q.base) ∧ T'.heap = t.heap ∧ T'.vm = t.vm ∧ Qa st₀ (.returned v) t ∧
      Goes p e below T g T' { g with pc := g.pc + 3, stack := v.toList ++ rest }) ∨
    (∃ (q : Addr) (st₀ t T' : State) (L : List Loc) (E : String) (ce : Cell), st₀.heap = H ∧ Stand p l e R s m args below meth c T' (locs ++ L) (cells + mc) (slots + ms) ∧ (∀ z ∈ L, free z.base) ∧ T'.heap = t.heap ∧ T'.vm = t.vm ∧ XC E st₀ t ∧ t.heap[q]? = some ce ∧ ce.vm = .none ∧ s.vm.findClass E = some ce.cls ∧
      Steps p.tables e below (T.setTop g) ((T'.setTop { g with stack := rest }).pushFrame (.throwing q)))
def vx_X {S : Type} (px : S → Prop) (B : String → S → State → Prop) (A : Nat → Prop) : String → State → State → Prop := fun E st t => ∃ u : S, px u ∧ B E u t ∧ va_F A st t
section Runs
variable {p : Program} {l : Launch} {e : Env} {R : Room} {s : State} {m : MethodId} {args : Array Value} {below : List Frame} {meth : Method} {c : Code} {H : Heap} {locs : List Loc} {cells slots : Nat}
variable {y : MethodName} {bytes cc : ByteArray} {maxL nL mc ms n index : Nat} {ret : Option FieldType} {ws : List Cond} {rm : Room} {Pc : Array Value → State → Prop} {Qc : Array Value → State → Outcome → State → Prop} {XC : String → State → State → Prop} {free : Addr → Prop} {Ts : List Cond} {own C : String} {b : Addr} {As rest : List Value} {g : JFrame}
theorem vx_callBack (cb : CallB R s args own index y bytes maxL ret ws rm mc ms n) (hM : vx_Met l y ws rm Pc Qc XC mc ms free) (hbl : FrameBlind Pc) : vx_Back l R p e below s args y 3 8 (PreOf R mc ms Pc) (PostOf Qc mc ms free) (vx_Post XC mc ms free) := by
  obtain ⟨hrc, hrs, hfr, hlo, hws, hcw, -, hini, -⟩ := cb
  exact vx_back (bytes := bytes) (maxL := maxL) (ret := ret) hM hbl hrc hrs hfr hlo hws hcw (fun a' U hW => word_at hW (Or.inl (by first | rfl | simp [Cond.onTables, Cond.keeps, Cond.steady])) hini)
theorem vx_runV (S : CallFix p m c cc nL s args Ts own) (hM : vx_Met l y ws rm Pc Qc XC mc ms free) (cw : CallW R s args own C index y bytes maxL ret ws rm mc ms n) (hp : PreV s H C b Pc As)
    (hg : g.method = m) (hn : As.length = n) (hsize : g.locals.size = nL) (hstack : g.stack = As.reverse ++ .ref b :: rest) (hW : 2 * g.monitorRoom + (rest.map fun v => v.category).sum ≤ 8) (hdg : decode cc g.pc = .ok (.invokevirtual index, 3)) (hf : cells + mc ≤ R.cells ∧ slots + ms ≤ R.slots) :
    vx_Run p l e R s m args below meth c H locs cells slots mc ms g rest (Qc (Value.ref b :: As).toArray) XC free := by
  have hK : vx_Back l R p e below s args y 3 8 (PreOf R mc ms Pc) (PostOf Qc mc ms free) (vx_Post XC mc ms free) := vx_callBack cw.1 hM hp.1
  obtain ⟨⟨-, -, -, -, -, -, hcode, -, hy, hlen, hl⟩, hin, hse⟩ := cw
  obtain ⟨hx, hb, hml, ho, -⟩ := S
  obtain ⟨-, ⟨cellB, hcB, hoB, hclB⟩, hPc⟩ := hp
  intro T hT X
  rcases vx_callV X hx (C := C) (bytes := bytes) (maxL := maxL) (ret := ret) ho hl hin hse hcode hy hK (by rw [hT]; exact hcB) hoB hclB hg (hsize.trans hml.symm) (argsL := As) (rest := rest) (fun sig h => hn.trans (hlen sig h)) hstack hW (by rw [hb]; exact hdg)
    (fun vm₁ hW₁ => ⟨hf.1, hf.2, hPc (T.setVm vm₁) hT hW₁⟩) with ⟨v, vm₁, ⟨U', l2, c2, s2⟩, hW₁, X', ⟨g', mk, t, L, e1, e2, hq, h1, hL, h2, h3⟩, st⟩ | ⟨q, vm₁, ⟨U', l2, c2, s2⟩, hW₁, X', ⟨g', mk, t, L, E, ce, e1, e2, hq, hce, hcv, hcl, h1, hL, h2, h3⟩, st⟩
  · dsimp only [Pt.U, Pt.locs, Pt.cells, Pt.slots] at X' e1 e2 h1 h2 h3 st
    subst h1; subst h2; subst h3
    exact Or.inl ⟨v, (T.setVm vm₁).calling g' mk (Value.ref b :: As).toArray, t, U', L, hT, X', hL, e1, e2, hq, st⟩
  · dsimp only [Pt.U, Pt.locs, Pt.cells, Pt.slots] at X' e1 e2 h1 h2 h3 st hcl
    subst h1; subst h2; subst h3
    exact Or.inr ⟨q, (T.setVm vm₁).calling g' mk (Value.ref b :: As).toArray, t, U', L, E, ce, hT, X', hL, e1, e2, hq, hce, hcv, vx_cls hW₁ hcl, st⟩
theorem vx_runS (S : CallFix p m c cc nL s args Ts own) (hM : vx_Met l y ws rm Pc Qc XC mc ms free) (cw : CallB R s args own index y bytes maxL ret ws rm mc ms n ∧ (Cond.static y).before args s = true) (hp : PreS s H Pc As)
    (hg : g.method = m) (hn : As.length = n) (hsize : g.locals.size = nL) (hstack : g.stack = As.reverse ++ rest) (hW : 2 * g.monitorRoom + (rest.map fun v => v.category).sum ≤ 8) (hdg : decode cc g.pc = .ok (.invokestatic index, 3)) (hf : cells + mc ≤ R.cells ∧ slots + ms ≤ R.slots) :
    vx_Run p l e R s m args below meth c H locs cells slots mc ms g rest (Qc As.toArray) XC free := by
  have hK : vx_Back l R p e below s args y 3 8 (PreOf R mc ms Pc) (PostOf Qc mc ms free) (vx_Post XC mc ms free) := vx_callBack cw.1 hM hp.1
  obtain ⟨⟨-, -, -, -, -, -, hcode, hini, hy, hlen, hl⟩, hstt⟩ := cw
  obtain ⟨hx, hb, hml, ho, -⟩ := S
  intro T hT X
  rcases vx_callS X hx (bytes := bytes) (maxL := maxL) (ret := ret) ho hl hstt hini hcode hy hK hg (hsize.trans hml.symm) (argsL := As) (rest := rest) (fun sig h => hn.trans (hlen sig h)) hstack hW (by rw [hb]; exact hdg)
    (fun vm₁ hW₁ => ⟨hf.1, hf.2, hp.2 (T.setVm vm₁) hT hW₁⟩) with ⟨v, vm₁, ⟨U', l2, c2, s2⟩, hW₁, X', ⟨g', mk, t, L, e1, e2, hq, h1, hL, h2, h3⟩, st⟩ | ⟨q, vm₁, ⟨U', l2, c2, s2⟩, hW₁, X', ⟨g', mk, t, L, E, ce, e1, e2, hq, hce, hcv, hcl, h1, hL, h2, h3⟩, st⟩
  · dsimp only [Pt.U, Pt.locs, Pt.cells, Pt.slots] at X' e1 e2 h1 h2 h3 st
    subst h1; subst h2; subst h3
    exact Or.inl ⟨v, (T.setVm vm₁).calling g' mk As.toArray, t, U', L, hT, X', hL, e1, e2, hq, st⟩
  · dsimp only [Pt.U, Pt.locs, Pt.cells, Pt.slots] at X' e1 e2 h1 h2 h3 st hcl
    subst h1; subst h2; subst h3
    exact Or.inr ⟨q, (T.setVm vm₁).calling g' mk As.toArray, t, U', L, E, ce, hT, X', hL, e1, e2, hq, hce, hcv, vx_cls hW₁ hcl, st⟩
end Runs
section Rows
variable {p : Program} {l : Launch} {e : Env} {R : Room} {s : State} {m : MethodId} {args : Array Value} {below : List Frame} {meth : Method} {c : Code} {H : Heap} {locs : List Loc} {cells slots : Nat} {Q : State → Prop}
variable {mc ms : Nat} {free : Addr → Prop} {A0 A1 : Nat → Prop} {H0 : Heap} {a : Array Value} {pc : Nat} {ls : Array Slot} {st0 rest : List Value}
theorem vx_keep {st₀ t T' : State} {L : List Loc} (h0 : st₀.heap = H) (e1 : T'.heap = t.heap) (hS : va_S A0 H0 H locs) (hA : ∀ q, q < H.size → A1 q → A0 q) (hf : ∀ q, free q → A0 q) (hL : ∀ q ∈ L, free q.base) (hF : va_F A1 st₀ t) :
    H.size ≤ T'.heap.size ∧ (∀ q : Nat, q < H.size → ¬ A1 q → T'.heap[q]? = H[q]?) ∧ va_S A0 H0 T'.heap (locs ++ L) := by
  obtain ⟨hz, hk⟩ := hF
  rw [h0] at hz hk
  exact ⟨by rw [e1]; exact hz, fun q h1 h2 => by rw [e1]; exact hk q h1 h2,
    ⟨Nat.le_trans hS.1 (by rw [e1]; exact hz), fun q h1 h2 => by rw [e1, hk q (Nat.lt_of_lt_of_le h1 hS.1) (fun z => h2 (hA q (Nat.lt_of_lt_of_le h1 hS.1) z))]; exact hS.2.1 q h1 h2, fun q hq => by
      rcases List.mem_append.mp hq with h | h
      · exact hS.2.2 q h
      · exact hf _ (hL q h)⟩⟩
theorem vx_calli {S SX : Type} {post : Int32 → S → Prop} {px : SX → Prop} {B : S → State → Prop} {BX : String → SX → State → Prop} {AX : Nat → Prop} (hr : vx_Run p l e R s m args below meth c H locs cells slots mc ms (F0 m pc ls st0) rest (va_Qi post B A1 a) (vx_X px BX AX) free) (hS : va_S A0 H0 H locs) (hA : ∀ q, q < H.size → A1 q → A0 q) (hf : ∀ q, free q → A0 q) (hAX : ∀ q, q < H.size → AX q → A0 q)
    (kx : ∀ (E : String) (ce : Cell) (q9 : Addr) (u : SX) (t : State) (H1 : Heap) (locs1 : List Loc), t.heap = H1 → s.vm.Alike t.vm → px u → BX E u t → H.size ≤ H1.size → (∀ q : Nat, q < H.size → ¬ AX q → H1[q]? = H[q]?) → va_S A0 H0 H1 locs1 → H1[q9]? = some ce → ce.vm = .none → s.vm.findClass E = some ce.cls → vx_W p l e R s m args below meth c H1 locs1 (cells + mc) (slots + ms) Q (F0 m pc ls rest) q9)
    (kk : ∀ (r : Int32) (u : S) (t : State) (H1 : Heap) (locs1 : List Loc), t.heap = H1 → s.vm.Alike t.vm → post r u → B u t → H.size ≤ H1.size → (∀ q : Nat, q < H.size → ¬ A1 q → H1[q]? = H[q]?) → va_S A0 H0 H1 locs1 → W p l e R s m args below meth c H1 locs1 (cells + mc) (slots + ms) Q (F0 m (pc + 3) ls (.int r :: rest))) : W p l e R s m args below meth c H locs cells slots Q (F0 m pc ls st0) := by
  intro T hT X
  rcases hr T hT X with ⟨v, st₀, t, T', L, h0, X', hL, e1, e2, ⟨⟨r, u, hv, hp, hb⟩, hF⟩, st⟩ | ⟨q, st₀, t, T', L, E, ce, h0, X', hL, e1, e2, ⟨u, hp, hb, hF⟩, hce, hcv, hcl, st⟩
  · cases hv
    obtain ⟨k1, k2, k3⟩ := vx_keep h0 e1 hS hA hf hL hF
    obtain ⟨t2, a1, b1⟩ := kk r u t T'.heap (locs ++ L) e1.symm (by rw [← e2]; exact X'.warmed.alike) hp hb k1 k2 k3 T' rfl X'
    exact ⟨t2, st t2 a1, b1⟩
  · obtain ⟨k1, k2, k3⟩ := vx_keep h0 e1 hS hAX hf hL hF
    obtain ⟨t2, a1, b1⟩ := kx E ce q u t T'.heap (locs ++ L) e1.symm (by rw [← e2]; exact X'.warmed.alike) hp hb k1 k2 k3 (by rw [e1]; exact hce) hcv hcl T' rfl X'
    exact ⟨t2, st.trans a1, b1⟩
theorem vx_calll {S SX : Type} {post : Int64 → S → Prop} {px : SX → Prop} {B : S → State → Prop} {BX : String → SX → State → Prop} {AX : Nat → Prop} (hr : vx_Run p l e R s m args below meth c H locs cells slots mc ms (F0 m pc ls st0) rest (va_Ql post B A1 a) (vx_X px BX AX) free) (hS : va_S A0 H0 H locs) (hA : ∀ q, q < H.size → A1 q → A0 q) (hf : ∀ q, free q → A0 q) (hAX : ∀ q, q < H.size → AX q → A0 q)
    (kx : ∀ (E : String) (ce : Cell) (q9 : Addr) (u : SX) (t : State) (H1 : Heap) (locs1 : List Loc), t.heap = H1 → s.vm.Alike t.vm → px u → BX E u t → H.size ≤ H1.size → (∀ q : Nat, q < H.size → ¬ AX q → H1[q]? = H[q]?) → va_S A0 H0 H1 locs1 → H1[q9]? = some ce → ce.vm = .none → s.vm.findClass E = some ce.cls → vx_W p l e R s m args below meth c H1 locs1 (cells + mc) (slots + ms) Q (F0 m pc ls rest) q9)
    (kk : ∀ (r : Int64) (u : S) (t : State) (H1 : Heap) (locs1 : List Loc), t.heap = H1 → s.vm.Alike t.vm → post r u → B u t → H.size ≤ H1.size → (∀ q : Nat, q < H.size → ¬ A1 q → H1[q]? = H[q]?) → va_S A0 H0 H1 locs1 → W p l e R s m args below meth c H1 locs1 (cells + mc) (slots + ms) Q (F0 m (pc + 3) ls (.long r :: rest))) : W p l e R s m args below meth c H locs cells slots Q (F0 m pc ls st0) := by
  intro T hT X
  rcases hr T hT X with ⟨v, st₀, t, T', L, h0, X', hL, e1, e2, ⟨⟨r, u, hv, hp, hb⟩, hF⟩, st⟩ | ⟨q, st₀, t, T', L, E, ce, h0, X', hL, e1, e2, ⟨u, hp, hb, hF⟩, hce, hcv, hcl, st⟩
  · cases hv
    obtain ⟨k1, k2, k3⟩ := vx_keep h0 e1 hS hA hf hL hF
    obtain ⟨t2, a1, b1⟩ := kk r u t T'.heap (locs ++ L) e1.symm (by rw [← e2]; exact X'.warmed.alike) hp hb k1 k2 k3 T' rfl X'
    exact ⟨t2, st t2 a1, b1⟩
  · obtain ⟨k1, k2, k3⟩ := vx_keep h0 e1 hS hAX hf hL hF
    obtain ⟨t2, a1, b1⟩ := kx E ce q u t T'.heap (locs ++ L) e1.symm (by rw [← e2]; exact X'.warmed.alike) hp hb k1 k2 k3 (by rw [e1]; exact hce) hcv hcl T' rfl X'
    exact ⟨t2, st.trans a1, b1⟩
theorem vx_callf {S SX : Type} {post : UInt32 → S → Prop} {px : SX → Prop} {B : S → State → Prop} {BX : String → SX → State → Prop} {AX : Nat → Prop} (hr : vx_Run p l e R s m args below meth c H locs cells slots mc ms (F0 m pc ls st0) rest (va_Qf post B A1 a) (vx_X px BX AX) free) (hS : va_S A0 H0 H locs) (hA : ∀ q, q < H.size → A1 q → A0 q) (hf : ∀ q, free q → A0 q) (hAX : ∀ q, q < H.size → AX q → A0 q)
    (kx : ∀ (E : String) (ce : Cell) (q9 : Addr) (u : SX) (t : State) (H1 : Heap) (locs1 : List Loc), t.heap = H1 → s.vm.Alike t.vm → px u → BX E u t → H.size ≤ H1.size → (∀ q : Nat, q < H.size → ¬ AX q → H1[q]? = H[q]?) → va_S A0 H0 H1 locs1 → H1[q9]? = some ce → ce.vm = .none → s.vm.findClass E = some ce.cls → vx_W p l e R s m args below meth c H1 locs1 (cells + mc) (slots + ms) Q (F0 m pc ls rest) q9)
    (kk : ∀ (r : UInt32) (u : S) (t : State) (H1 : Heap) (locs1 : List Loc), t.heap = H1 → s.vm.Alike t.vm → post r u → B u t → H.size ≤ H1.size → (∀ q : Nat, q < H.size → ¬ A1 q → H1[q]? = H[q]?) → va_S A0 H0 H1 locs1 → W p l e R s m args below meth c H1 locs1 (cells + mc) (slots + ms) Q (F0 m (pc + 3) ls (.float r :: rest))) : W p l e R s m args below meth c H locs cells slots Q (F0 m pc ls st0) := by
  intro T hT X
  rcases hr T hT X with ⟨v, st₀, t, T', L, h0, X', hL, e1, e2, ⟨⟨r, u, hv, hp, hb⟩, hF⟩, st⟩ | ⟨q, st₀, t, T', L, E, ce, h0, X', hL, e1, e2, ⟨u, hp, hb, hF⟩, hce, hcv, hcl, st⟩
  · cases hv
    obtain ⟨k1, k2, k3⟩ := vx_keep h0 e1 hS hA hf hL hF
    obtain ⟨t2, a1, b1⟩ := kk r u t T'.heap (locs ++ L) e1.symm (by rw [← e2]; exact X'.warmed.alike) hp hb k1 k2 k3 T' rfl X'
    exact ⟨t2, st t2 a1, b1⟩
  · obtain ⟨k1, k2, k3⟩ := vx_keep h0 e1 hS hAX hf hL hF
    obtain ⟨t2, a1, b1⟩ := kx E ce q u t T'.heap (locs ++ L) e1.symm (by rw [← e2]; exact X'.warmed.alike) hp hb k1 k2 k3 (by rw [e1]; exact hce) hcv hcl T' rfl X'
    exact ⟨t2, st.trans a1, b1⟩
theorem vx_calld {S SX : Type} {post : UInt64 → S → Prop} {px : SX → Prop} {B : S → State → Prop} {BX : String → SX → State → Prop} {AX : Nat → Prop} (hr : vx_Run p l e R s m args below meth c H locs cells slots mc ms (F0 m pc ls st0) rest (va_Qd post B A1 a) (vx_X px BX AX) free) (hS : va_S A0 H0 H locs) (hA : ∀ q, q < H.size → A1 q → A0 q) (hf : ∀ q, free q → A0 q) (hAX : ∀ q, q < H.size → AX q → A0 q)
    (kx : ∀ (E : String) (ce : Cell) (q9 : Addr) (u : SX) (t : State) (H1 : Heap) (locs1 : List Loc), t.heap = H1 → s.vm.Alike t.vm → px u → BX E u t → H.size ≤ H1.size → (∀ q : Nat, q < H.size → ¬ AX q → H1[q]? = H[q]?) → va_S A0 H0 H1 locs1 → H1[q9]? = some ce → ce.vm = .none → s.vm.findClass E = some ce.cls → vx_W p l e R s m args below meth c H1 locs1 (cells + mc) (slots + ms) Q (F0 m pc ls rest) q9)
    (kk : ∀ (r : UInt64) (u : S) (t : State) (H1 : Heap) (locs1 : List Loc), t.heap = H1 → s.vm.Alike t.vm → post r u → B u t → H.size ≤ H1.size → (∀ q : Nat, q < H.size → ¬ A1 q → H1[q]? = H[q]?) → va_S A0 H0 H1 locs1 → W p l e R s m args below meth c H1 locs1 (cells + mc) (slots + ms) Q (F0 m (pc + 3) ls (.double r :: rest))) : W p l e R s m args below meth c H locs cells slots Q (F0 m pc ls st0) := by
  intro T hT X
  rcases hr T hT X with ⟨v, st₀, t, T', L, h0, X', hL, e1, e2, ⟨⟨r, u, hv, hp, hb⟩, hF⟩, st⟩ | ⟨q, st₀, t, T', L, E, ce, h0, X', hL, e1, e2, ⟨u, hp, hb, hF⟩, hce, hcv, hcl, st⟩
  · cases hv
    obtain ⟨k1, k2, k3⟩ := vx_keep h0 e1 hS hA hf hL hF
    obtain ⟨t2, a1, b1⟩ := kk r u t T'.heap (locs ++ L) e1.symm (by rw [← e2]; exact X'.warmed.alike) hp hb k1 k2 k3 T' rfl X'
    exact ⟨t2, st t2 a1, b1⟩
  · obtain ⟨k1, k2, k3⟩ := vx_keep h0 e1 hS hAX hf hL hF
    obtain ⟨t2, a1, b1⟩ := kx E ce q u t T'.heap (locs ++ L) e1.symm (by rw [← e2]; exact X'.warmed.alike) hp hb k1 k2 k3 (by rw [e1]; exact hce) hcv hcl T' rfl X'
    exact ⟨t2, st.trans a1, b1⟩
theorem vx_callv {S SX : Type} {post : S → Prop} {px : SX → Prop} {B : S → State → Prop} {BX : String → SX → State → Prop} {AX : Nat → Prop} (hr : vx_Run p l e R s m args below meth c H locs cells slots mc ms (F0 m pc ls st0) rest (va_Qv post B A1 a) (vx_X px BX AX) free) (hS : va_S A0 H0 H locs) (hA : ∀ q, q < H.size → A1 q → A0 q) (hf : ∀ q, free q → A0 q) (hAX : ∀ q, q < H.size → AX q → A0 q)
    (kx : ∀ (E : String) (ce : Cell) (q9 : Addr) (u : SX) (t : State) (H1 : Heap) (locs1 : List Loc), t.heap = H1 → s.vm.Alike t.vm → px u → BX E u t → H.size ≤ H1.size → (∀ q : Nat, q < H.size → ¬ AX q → H1[q]? = H[q]?) → va_S A0 H0 H1 locs1 → H1[q9]? = some ce → ce.vm = .none → s.vm.findClass E = some ce.cls → vx_W p l e R s m args below meth c H1 locs1 (cells + mc) (slots + ms) Q (F0 m pc ls rest) q9)
    (kk : ∀ (u : S) (t : State) (H1 : Heap) (locs1 : List Loc), t.heap = H1 → s.vm.Alike t.vm → post u → B u t → H.size ≤ H1.size → (∀ q : Nat, q < H.size → ¬ A1 q → H1[q]? = H[q]?) → va_S A0 H0 H1 locs1 → W p l e R s m args below meth c H1 locs1 (cells + mc) (slots + ms) Q (F0 m (pc + 3) ls (rest))) : W p l e R s m args below meth c H locs cells slots Q (F0 m pc ls st0) := by
  intro T hT X
  rcases hr T hT X with ⟨v, st₀, t, T', L, h0, X', hL, e1, e2, ⟨⟨u, hv, hp, hb⟩, hF⟩, st⟩ | ⟨q, st₀, t, T', L, E, ce, h0, X', hL, e1, e2, ⟨u, hp, hb, hF⟩, hce, hcv, hcl, st⟩
  · cases hv
    obtain ⟨k1, k2, k3⟩ := vx_keep h0 e1 hS hA hf hL hF
    obtain ⟨t2, a1, b1⟩ := kk u t T'.heap (locs ++ L) e1.symm (by rw [← e2]; exact X'.warmed.alike) hp hb k1 k2 k3 T' rfl X'
    exact ⟨t2, st t2 a1, b1⟩
  · obtain ⟨k1, k2, k3⟩ := vx_keep h0 e1 hS hAX hf hL hF
    obtain ⟨t2, a1, b1⟩ := kx E ce q u t T'.heap (locs ++ L) e1.symm (by rw [← e2]; exact X'.warmed.alike) hp hb k1 k2 k3 (by rw [e1]; exact hce) hcv hcl T' rfl X'
    exact ⟨t2, st.trans a1, b1⟩
/-- caught by the row x of this method's table; the rows ahead don't take it -/
theorem vx_catch {own name : String} {E : String} {ce : Cell} {q : Addr} (hown : s.vm.findClass own = some m.cls) (pre : List ExceptionTableEntry) (x : ExceptionTableEntry) (suf : List ExceptionTableEntry) (hsplit : c.exceptionTable.toList = pre ++ x :: suf)
    (hpass : ∀ z ∈ pre, covers z pc = false ∨ (z.catchType ≠ 0 ∧ ∃ nm : String, (Cond.classLink own z.catchType nm).before args s = true ∧ va_Nc E nm s)) (hx : covers x pc = true) (h0 : x.catchType ≠ 0)
    (hlink : (Cond.classLink own x.catchType name).before args s = true) (hcast : (Cond.castable E name).before args s = true) (hcell : H[q]? = some ce) (hv : ce.vm = .none) (hcl : s.vm.findClass E = some ce.cls)
    (kk : W p l e R s m args below meth c H locs cells slots Q (F0 m x.handlerPc ls [.ref q])) : vx_W p l e R s m args below meth c H locs cells slots Q (F0 m pc ls rest) q := by
  intro T hT X
  have hpl : e.platform.magicAccessors = ({} : Platform).magicAccessors := by rw [X.admits.platform]
  obtain ⟨c3, c4, hc3, hc4, hasg⟩ := Cond.castable_spec hcast
  cases Option.some.inj (hc3.symm.trans hcl)
  obtain ⟨c5, hc5, hcl5⟩ := Cond.classLink_spec hown hlink e.platform hpl
  cases Option.some.inj (hc4.symm.trans hc5)
  obtain ⟨vm', X', st⟩ := X.thenCaughtThrough q (g := F0 m pc ls rest) rfl (Steps.refl _) (by rw [hT]; exact hcell) (by rw [hv]; rfl) (by obtain ⟨k9, h9, -⟩ := Vm.findClass_spec hcl; exact ⟨k9, h9⟩) pre x suf hsplit
    (fun z hz => by
      rcases hpass z hz with h | ⟨hz0, nm, hl1, hn1⟩
      · exact Or.inl h
      · obtain ⟨c6, hc6, hcl6⟩ := Cond.classLink_spec hown hl1 e.platform hpl
        obtain ⟨a8, b8, h1, h2, h3⟩ := hn1
        cases Option.some.inj (h1.symm.trans hcl)
        cases Option.some.inj (h2.symm.trans hc6)
        exact Or.inr ⟨hz0, _, hcl6, h3⟩) hx (Or.inr ⟨h0, c4, hcl5, hasg⟩)
  obtain ⟨t, a1, b1⟩ := kk (T.setVm vm') hT X'
  exact ⟨t, st.trans a1, b1⟩
end Rows
section Ends
variable {p : Program} {l : Launch} {e : Env} {R : Room} {s : State} {m : MethodId} {args : Array Value} {below : List Frame} {meth : Method} {c : Code} {H : Heap} {locs : List Loc} {cells slots : Nat} {Q : State → Prop}
variable {mc ms : Nat} {free : Addr → Prop} {A0 A1 : Nat → Prop} {H0 : Heap} {a : Array Value} {ls : Array Slot} {st0 rest : List Value}
variable {Qc : Array Value → State → Outcome → State → Prop} {XC : String → State → State → Prop}
/-- what a body that may throw owes at its end -/
def vx_MQ (below : List Frame) (Qc : Array Value → State → Outcome → State → Prop) (XC : String → State → State → Prop) (a : Array Value) (s : State) (mc ms : Nat) (free : Addr → Prop) : State → Prop := fun t =>
  ∃ o, t.status = .running ∧ Ended t below o ∧ vx_Q Qc XC mc ms free a s o t
theorem vx_ret {g : JFrame} {mc ms : Nat} (k : W p l e R s m args below meth c H locs cells slots (MQ below Qc args s mc ms free) g) : W p l e R s m args below meth c H locs cells slots (vx_MQ below Qc XC args s mc ms free) g := by
  intro T hT X
  obtain ⟨t, a1, o, b1, b2, b3, b4⟩ := k T hT X
  exact ⟨t, a1, o, b1, b2, Or.inl ⟨b3, b4⟩⟩
/-- not caught here: it goes on to the caller -/
theorem vx_widen {g : JFrame} {q : Addr} {k n : Nat} (h1 : cells ≤ k) (h2 : slots ≤ n) (kk : vx_W p l e R s m args below meth c H locs k n Q g q) : vx_W p l e R s m args below meth c H locs cells slots Q g q := fun T hT X => kk T hT (stand_widen X h1 h2)
theorem vx_out {pc : Nat} {E : String} {ce : Cell} {q : Addr} {mc ms : Nat} (hout : ∀ x ∈ c.exceptionTable.toList, covers x pc = false) (hlocks : meth.locks = false) (hcell : H[q]? = some ce) (hv : ce.vm = .none) (hcl : s.vm.findClass E = some ce.cls)
    (hx : ∀ t : State, t.heap = H → s.vm.Alike t.vm → XC E s t) (hf : ∀ z ∈ locs, free z.base) (hc : cells ≤ mc) (hs : slots ≤ ms) :
    vx_W p l e R s m args below meth c H locs cells slots (vx_MQ below Qc XC args s mc ms free) (F0 m pc ls rest) q := by
  intro T hT X
  obtain ⟨st1, hrun, hend, hW, hsm⟩ := X.leaveThrown q (g := F0 m pc ls rest) rfl rfl rfl hout hlocks
  have hcell9 : (T.setFrames (.throwing q :: below)).heap[q]? = some ce := by
    show T.heap[q]? = some ce
    rw [hT]; exact hcell
  exact ⟨_, st1, .threw q, hrun, hend, Or.inr ⟨q, rfl, E, ce, locs, hx _ hT hW.alike, hcell9, hv, hcl, hW, hsm.mono hc hs, hf⟩⟩
theorem vx_frame {U : State} {k n : Nat} (h : s.sameButNew ({ U with vm := s.vm } : State) locs k n) : s.heap.size ≤ U.heap.size ∧ ∀ q : Nat, q < s.heap.size → (∀ z ∈ locs, z.base ≠ q) → U.heap[q]? = s.heap[q]? := by
  obtain ⟨-, h2, -, -, -, h6⟩ := h
  refine ⟨h2, fun q hq hz => ?_⟩
  obtain ⟨c9, e1, e2, e3, e4⟩ := h6 q _ (Array.getElem?_eq_getElem hq)
  have hs : c9.slots = (s.heap[q]).slots := Array.ext_getElem? fun i => e4 i fun hm => hz _ hm rfl
  have h9 : c9 = s.heap[q] := by
    rw [hs] at e2
    exact e2
  have e5 : U.heap[q]? = some c9 := e1
  rw [e5, h9, Array.getElem?_eq_getElem hq]
/-- the words of a throw but the four that speak of the heap -/
def vx_no (w : Cond) : Bool := decide (w ≠ .isRef (.static Bundle.tN "UNASSIGNED_STACK" Bundle.steD)) && decide (w ≠ .isRef (.static Bundle.tN "SUPPRESSED_SENTINEL" Bundle.listD)) && decide (w ≠ .laysStatic Bundle.tN "UNASSIGNED_STACK" Bundle.steD) && decide (w ≠ .laysStatic Bundle.tN "SUPPRESSED_SENTINEL" Bundle.listD)
def vx_at0 (own : String) (ic : Nat) (X : String) (names : List String) : List Cond := (Bundle.ownAtoms0 own ic X names).filter vx_no
def vx_atS (own : String) (ic : Nat) (X : String) (names : List String) : List Cond := (Bundle.ownAtoms own ic X names).filter vx_no
/-- a word that the tables alone decide, or a good one -/
def vx_ot (w : Cond) : Bool := w.onTables || goodWord w
theorem vx_ot_at {args a' : Array Value} {s U : State} {w : Cond} (hW : s.WarmedH U.vm) (hvm : s.vm = U.vm) (hg : vx_ot w = true) (h : w.before args s = true) : w.before a' U = true := by
  simp only [vx_ot, Bool.or_eq_true] at hg
  rcases hg with hg | hg
  · exact va_tabs hg hvm h
  · exact word_at hW (good_of_word hg) h
/-- a list's words: the good ones out of the method's own list, the others by premises of their own -/
theorem vx_hat {args : Array Value} {s : State} {L B : List Cond} (h1 : ∀ w ∈ L.filter goodWord, w.before args s = true) (h2 : ∀ w ∈ L.filter (fun w => !goodWord w), w ∈ B) (h3 : ∀ w ∈ B, w.before args s = true) : ∀ w ∈ L, w.before args s = true := by
  intro w hw
  by_cases g : goodWord w = true
  · exact h1 w (List.mem_filter.mpr ⟨hw, g⟩)
  · refine h3 w (h2 w (List.mem_filter.mpr ⟨hw, ?_⟩))
    show (!goodWord w) = true
    cases hgw : goodWord w
    · rfl
    · exact absurd hgw g
theorem vx_c {args : Array Value} {s : State} {w : Cond} {B : List Cond} (h : w.before args s = true) (t : ∀ w ∈ B, w.before args s = true) : ∀ w' ∈ w :: B, w'.before args s = true := fun w' h' => (List.mem_cons.mp h').elim (fun e => by rw [e]; exact h) (t w')
theorem vx_n {args : Array Value} {s : State} : ∀ w ∈ ([] : List Cond), w.before args s = true := fun _ h => nomatch h
theorem vx_own {args : Array Value} {s : State} {L : List Cond} (h1 : ∀ w ∈ L.filter vx_no, w.before args s = true)
    (hU : (Cond.isRef (.static Bundle.tN "UNASSIGNED_STACK" Bundle.steD)).before args s = true) (hN : (Cond.isRef (.static Bundle.tN "SUPPRESSED_SENTINEL" Bundle.listD)).before args s = true)
    (lU : (Cond.laysStatic Bundle.tN "UNASSIGNED_STACK" Bundle.steD).before args s = true) (lN : (Cond.laysStatic Bundle.tN "SUPPRESSED_SENTINEL" Bundle.listD).before args s = true) : ∀ w ∈ L, w.before args s = true := by
  intro w hw
  by_cases e1 : w = .isRef (.static Bundle.tN "UNASSIGNED_STACK" Bundle.steD)
  · rw [e1]; exact hU
  · by_cases e2 : w = .isRef (.static Bundle.tN "SUPPRESSED_SENTINEL" Bundle.listD)
    · rw [e2]; exact hN
    · by_cases e3 : w = .laysStatic Bundle.tN "UNASSIGNED_STACK" Bundle.steD
      · rw [e3]; exact lU
      · by_cases e4 : w = .laysStatic Bundle.tN "SUPPRESSED_SENTINEL" Bundle.listD
        · rw [e4]; exact lN
        · exact h1 w (List.mem_filter.mpr ⟨hw, by unfold vx_no; rw [decide_eq_true e1, decide_eq_true e2, decide_eq_true e3, decide_eq_true e4]; rfl⟩)
/-- where a static field lies, its class's statics cell in H -/
def vx_L (C n d : String) (A : Nat → Prop) (U : State) (H : Heap) : Prop := ∃ (c : ClassId) (k : Class) (i : Nat) (f : Field) (a : Nat) (cell : Cell), U.vm.findClass C = some c ∧ U.fieldFound? C n d = some (c, k, i, f) ∧ f.isStatic = true ∧ k.statics = some a ∧ H[a]? = some cell ∧ cell.vm.isStatics = true ∧ cell.cls = c ∧ f.slot < cell.slots.size ∧ k.staticTypes[f.slot]? = some f.type ∧ ¬ A a
theorem vx_L.moved {C n d : String} {A : Nat → Prop} {u U : State} {H : Heap} (hvm : u.vm.Alike U.vm) (h : vx_L C n d A u H) : vx_L C n d A U H := by
  obtain ⟨c, k, i, f, a, cell, h1, h2, h3, h4, h5, h6, h7, h8, h9, h10⟩ := h
  obtain ⟨k', hi', he⟩ := State.fieldFound?_setVm hvm h2
  exact ⟨c, k', i, f, a, cell, by rw [hvm.findClass]; exact h1, hi', h3, by rw [he]; exact h4, h5, h6, h7, h8, by rw [he]; exact h9, h10⟩
theorem vx_L.kept {C n d : String} {A : Nat → Prop} {U : State} {H H1 : Heap} (h : vx_L C n d A U H) (hq : ∀ a : Nat, a < H.size → ¬ A a → H1[a]? = H[a]?) : vx_L C n d A U H1 := by
  obtain ⟨c, k, i, f, a, cell, h1, h2, h3, h4, h5, h6, h7, h8, h9, h10⟩ := h
  exact ⟨c, k, i, f, a, cell, h1, h2, h3, h4, by rw [hq a (Array.getElem?_eq_some_iff.mp h5).1 h10]; exact h5, h6, h7, h8, h9, h10⟩
theorem vx_L.narrow {C n d : String} {A B : Nat → Prop} {U : State} {H : Heap} (h : vx_L C n d A U H) (hAB : ∀ q, B q → A q) : vx_L C n d B U H := by
  obtain ⟨c, k, i, f, a, cell, h1, h2, h3, h4, h5, h6, h7, h8, h9, h10⟩ := h
  exact ⟨c, k, i, f, a, cell, h1, h2, h3, h4, h5, h6, h7, h8, h9, fun z => h10 (hAB _ z)⟩
theorem vx_L.word {C n d : String} {A : Nat → Prop} {s : State} {args : Array Value} (h : vx_L C n d A s s.heap) : (Cond.laysStatic C n d).before args s = true := by
  obtain ⟨c, k, i, f, a, cell, h1, h2, h3, h4, h5, h6, h7, h8, h9, -⟩ := h
  show (Cond.laysStatic C n d).holds args s none s [] = true
  exact Cond.laysStatic_of h1 h2 h3 h4 h5 h6 h7 h8 h9
/-- .. and what it holds: null or some reference -/
def vx_Zq (C n d : String) (A : Nat → Prop) (U : State) (H : Heap) : Prop := va_Zq C n d A U H ∧ vx_L C n d A U H
theorem vx_Zq.moved {C n d : String} {A : Nat → Prop} {u U : State} {H : Heap} (hvm : u.vm.Alike U.vm) (h : vx_Zq C n d A u H) : vx_Zq C n d A U H := ⟨va_Zq.moved hvm h.1, vx_L.moved hvm h.2⟩
theorem vx_Zq.kept {C n d : String} {A : Nat → Prop} {U : State} {H H1 : Heap} (h : vx_Zq C n d A U H) (hq : ∀ a : Nat, a < H.size → ¬ A a → H1[a]? = H[a]?) : vx_Zq C n d A U H1 := ⟨va_Zq.kept h.1 hq, vx_L.kept h.2 hq⟩
theorem vx_Zq.narrow {C n d : String} {A B : Nat → Prop} {U : State} {H : Heap} (h : vx_Zq C n d A U H) (hAB : ∀ q, B q → A q) : vx_Zq C n d B U H := ⟨va_Zq.narrow h.1 hAB, vx_L.narrow h.2 hAB⟩
theorem vx_Zqof {args : Array Value} {s : State} {C n d : String} {A : Nat → Prop} (hl : (Cond.laysStatic C n d).before args s = true) (hini : (Cond.initialized C).before args s = true) (h : (Cond.isRef (.static C n d)).before args s = true) (hA : ∀ a : Nat, a < s.heap.size → ¬ A a) : vx_Zq C n d A s s.heap := by
  refine ⟨va_Zqof hl hini h hA, ?_⟩
  obtain ⟨c, k, i, f, a, cell, h1, h2, h3, h4, h5, h6, h7, h8, h9⟩ := Cond.laysStatic_spec hl
  exact ⟨c, k, i, f, a, cell, h1, h2, h3, h4, h5, h6, h7, h8, h9, hA a (Array.getElem?_eq_some_iff.mp h5).1⟩
theorem vx_isRef {C n d : String} {v : Value} {A : Nat → Prop} {s : State} {args : Array Value} (h : va_Z C n d v A s s.heap) (hv : v.isRef = true) : (Cond.isRef (.static C n d)).before args s = true := by
  obtain ⟨cf, kf, fi, f, a, cell, h1, h2, h3, h4, h5, h6, h7, -⟩ := h
  have he : (Term.static C n d).eval args s none [] s = some v := by
    simp [Term.eval, State.fieldNamed?, h1, h2, h4, h5, h6, h7]
  simp only [Cond.before, Cond.holds, Cond.value, he]
  cases v <;> simp_all [Value.isRef]
theorem vx_isRefq {C n d : String} {A : Nat → Prop} {s : State} {args : Array Value} (h : va_Zq C n d A s s.heap) : (Cond.isRef (.static C n d)).before args s = true := by
  rcases h with h | ⟨t, h⟩
  · exact vx_isRef h rfl
  · exact vx_isRef h rfl
/-- the same frame, seen from here: as if the method were called anew in this heap -/
theorem vx_rebase {T : State} (X : Stand p l e R s m args below meth c T locs cells slots) {R' : Room} (hf : R'.frames ≤ R.frames) (hl : R'.locals ≤ R.locals) (hc : cells + R'.cells ≤ R.cells) (hs : slots + R'.slots ≤ R.slots) :
    Stand p l e R' ((T.setVm s.vm).setFrames (.invoking m args :: below)) m args below meth c T [] 0 0 := by
  have htop : (T.setVm s.vm).topJava?.isSome := X.here.top
  have hF : ((T.setVm s.vm).setFrames (.invoking m args :: below)).frames = .invoking m args :: below := State.frames_setFrames _ (State.cur_lt_of_top htop)
  obtain ⟨g₀, hg0⟩ := Option.isSome_iff_exists.mp htop
  obtain ⟨r, hr⟩ := State.topJava?_eq_some.mp hg0
  have hl9 : e.platform.stackLimits (T.setVm s.vm).me = e.platform.stackLimits s.me := X.limits
  have hb9 : (T.setVm s.vm).me.stackBytes = s.me.stackBytes := X.bytes
  refine ⟨X.admits, X.cas, X.clock, hF, ?_, X.hears, X.method, X.code, X.here, X.tail, X.warmed, ?_, ?_, ?_⟩
  · have h := X.room
    have hU : ((T.setVm s.vm).setFrames (.invoking m args :: below)).localsInUse = s.localsInUse := by
      rw [State.localsInUse_invoking hF (meth := meth) (c := c) X.method X.code, State.localsInUse_invoking X.frames X.method X.code]
    simp only [State.hasRoom, Bool.and_eq_true, decide_eq_true_eq] at h ⊢
    obtain ⟨⟨⟨⟨h1, h2, h3, h4, h5, h6⟩, h7⟩, h8⟩, h9⟩ := h
    rw [X.frames, List.length_cons] at h2 h3
    have q1 := X.heapSize
    have q2 := X.used
    simp only [hF, hU, List.length_cons, State.stackLimits_setFrames, State.stackBytes_setFrames, hl9, hb9]
    refine ⟨⟨⟨⟨by omega, by omega, by omega, by omega, by omega, h6⟩, ?_⟩, ?_⟩, X.book⟩
    · show T.heap.size + R'.cells ≤ e.platform.maxCells
      omega
    · show T.slotsUsed + R'.slots ≤ e.platform.maxSlots
      omega
  · rw [State.stackLimits_setFrames]; rfl
  · rw [State.stackBytes_setFrames]; rfl
  · refine ⟨?_, Nat.le_refl _, Nat.le_refl _, ?_, ?_, fun a c9 h9 => ⟨c9, h9, rfl, rfl, fun _ _ => rfl⟩⟩
    · obtain ⟨t, ht, -⟩ := State.frames_cons hr
      show T.setVm s.vm = { ((T.setVm s.vm).setFrames (.invoking m args :: below)).setFrames (T.setVm s.vm).frames with heap := T.heap, slotsUsed := T.slotsUsed }
      rw [State.setFrames_setFrames, State.setFrames_self ht]
      rfl
    · show T.slotsUsed = T.slotsUsed + ((T.heap.toList.drop T.heap.size).map (·.slots.size)).sum
      rw [List.drop_eq_nil_of_le (Nat.le_of_eq Array.length_toList)]
      rfl
    · show ((T.heap.toList.drop T.heap.size).map (·.slots.size)).sum ≤ 0
      rw [List.drop_eq_nil_of_le (Nat.le_of_eq Array.length_toList)]
      exact Nat.le_refl _
/-- 'throw new E()': new; dup; invokespecial; athrow -/
theorem vx_throw0 {cc : ByteArray} {pc : Nat} (hexec : p.tables.exec = Jvm.exec) (hb : c.code = cc) (hl : l.stackTraces = false) {own cls : String} {names : List String} {ik ic mc ms : Nat} {A : Nat → Prop}
    (hown : s.vm.findClass own = some m.cls) (hcls : Bundle.fit cls = true) (hnames : ∀ n ∈ names, Bundle.fit n = true)
    (hk : (Cond.classLink own ik cls).before args s = true) (hini : (Cond.initialized cls).before args s = true) (hat : ∀ w ∈ vx_at0 own ic cls names, w.before args s = true)
    (hgood : ∀ w ∈ Cond.classLink own ik cls :: Cond.initialized cls :: vx_at0 own ic cls names, vx_ot w = true)
    (hU : vx_Zq Bundle.tN "UNASSIGNED_STACK" Bundle.steD A s s.heap) (hN : vx_Zq Bundle.tN "SUPPRESSED_SENTINEL" Bundle.listD A s s.heap) (hS : va_S A s.heap H locs) (hsize : ls.size = c.maxLocals)
    (d0 : decode cc pc = .ok (.new ik, 3)) (d3 : decode cc (pc + 3) = .ok (.dup, 1)) (d4 : decode cc (pc + 4) = .ok (.invokespecial ic, 3)) (d7 : decode cc (pc + 7) = .ok (.athrow, 1))
    (hout : ∀ x ∈ c.exceptionTable.toList, covers x (pc + 7) = false)
    (hRframes : names.length + 3 < R.frames) (hRlocals : (rest.map fun v => v.category).sum + (13 * (names.length + 1) + 42) ≤ R.locals) (hRcells : cells + 1 ≤ R.cells) (hRslots : slots + 6 ≤ R.slots) (hlocks : meth.locks = false)
    (hx : ∀ t : State, s.vm.Alike t.vm → H.size ≤ t.heap.size → (∀ q : Nat, q < H.size → t.heap[q]? = H[q]?) → XC cls s t)
    (hf : ∀ z ∈ locs, free z.base) (hc : cells + 1 ≤ mc) (hs : slots + 6 ≤ ms) :
    W p l e R s m args below meth c H locs cells slots (vx_MQ below Qc XC args s mc ms free) (F0 m pc ls rest) := by
  intro T hT X
  have htr : e.platform.stackTraces = false := (show e.platform.stackTraces = l.stackTraces by rw [X.admits.platform]).trans hl
  have Y := vx_rebase X (R' := { frames := R.frames, locals := R.locals, cells := 1, slots := 6 }) (Nat.le_refl _) (Nat.le_refl _) hRcells hRslots
  obtain ⟨s', hA⟩ : ∃ z, z = (T.setVm s.vm).setFrames (.invoking m args :: below) := ⟨_, rfl⟩
  rw [← hA] at Y
  have hvm : s'.vm = s.vm := by rw [hA]; rfl
  have hhp : s'.heap = H := by rw [hA]; exact hT
  have hW0 : s.WarmedH s'.vm := by rw [hvm]; exact State.WarmedH.refl s
  have hat' : ∀ w ∈ vx_at0 own ic cls names, w.before args s' = true := fun w hw => vx_ot_at hW0 hvm.symm (hgood w (List.mem_cons_of_mem _ (List.mem_cons_of_mem _ hw))) (hat w hw)
  have hk' : (Cond.classLink own ik cls).before args s' = true := vx_ot_at hW0 hvm.symm (hgood _ List.mem_cons_self) hk
  have hini' : (Cond.initialized cls).before args s' = true := vx_ot_at hW0 hvm.symm (hgood _ (List.mem_cons_of_mem _ List.mem_cons_self)) hini
  have hU' : vx_Zq Bundle.tN "UNASSIGNED_STACK" Bundle.steD A s' s'.heap := by rw [hhp]; exact vx_Zq.moved hW0.alike (hU.kept hS.2.1)
  have hN' : vx_Zq Bundle.tN "SUPPRESSED_SENTINEL" Bundle.listD A s' s'.heap := by rw [hhp]; exact vx_Zq.moved hW0.alike (hN.kept hS.2.1)
  have h : ∀ w ∈ Bundle.ownAtoms0 own ic cls names, w.before args s' = true := vx_own hat' (vx_isRefq hU'.1) (vx_isRefq hN'.1) hU'.2.word hN'.2.word
  have hown' : s'.vm.findClass own = some m.cls := by rw [hvm]; exact hown
  have hins : (Cond.instantiable cls 6).before args s' = true := h _ (by simp [Bundle.ownAtoms0])
  obtain ⟨vm₁, cX, kX, hfX, hkX, -, -, X₁, st1⟩ := Y.newCold hexec (own := own) (C := cls) (index := ik) (n := 6) hown' hk' hins hini'
    (g := F0 m pc ls rest) rfl (by rw [hb]; exact d0) (Nat.le_refl _) (Nat.le_refl _)
  generalize hT1 : (T.setVm vm₁).pushCell { cls := cX, slots := kX.instanceTypes.map defaultValue, vm := .none } = T1 at X₁ st1
  have hcat : (Value.ref T.heap.size).category = 1 := rfl
  have hcellA : T1.heap[T.heap.size]? = some (freshCell cX kX) := by rw [← hT1]; exact State.heap_pushCell_size _ _
  have d3' : decode c.code (pc + 3) = .ok (.dup, 1) := by rw [hb]; exact d3
  obtain ⟨U, hsteps, hrun, hend, hW, hsame, ce, hce, hO⟩ := X₁.ctorThrow0 hexec htr (own := own) (cls := cls) (names := names) (ic := ic) hown' hcls hnames h (fun x hx => nomatch hx) hfX hkX hcellA (by rw [hhp, hT]; exact Nat.le_refl _)
    (g := { method := m, pc := pc + 4, locals := ls, stack := .ref T.heap.size :: .ref T.heap.size :: rest, locked := none }) rfl hsize rfl rfl (rest := rest) rfl
    (by rw [hb]; exact d4) (by rw [hb]; exact d7) hout hRframes (by simp only [List.map_cons, List.sum_cons, hcat]; omega) hlocks
  obtain ⟨f1, f2⟩ := vx_frame hsame
  rw [hhp] at f1 f2
  have hWs : s.WarmedH U.vm := State.WarmedH.trans hW0 hW
  have hcl : s.vm.findClass cls = some ce.cls := by
    have h9 := hO.cls
    rw [hvm] at h9
    exact h9
  have hall : s.sameButNew ({ U with vm := s.vm } : State) locs mc ms := by
    subst hA
    obtain ⟨e1, e2⟩ := hsame
    rw [State.setFrames_setFrames] at e1
    have h2 : (T.setVm s.vm).sameButNew ({ U with vm := s.vm } : State) [] (0 + 1) (0 + 6) := ⟨e1, e2⟩
    have h3 := X.same.trans h2
    rw [List.append_nil] at h3
    exact h3.mono hc hs
  refine ⟨U, ?_, .threw T.heap.size, hrun, hend, Or.inr ⟨T.heap.size, rfl, cls, ce, locs, hx U hWs.alike f1 (fun q hq => f2 q hq (fun z hz => nomatch hz)), hce, hO.vm, hcl, hWs, hall, hf⟩⟩
  refine st1 _ ?_
  show Steps p.tables e below (T1.setTop { method := m, pc := pc + 3, locals := ls, stack := .ref T.heap.size :: rest, locked := none }) _
  jvm_step X₁.here [X₁.here.top, hexec, d3', Value.category]
  exact hsteps
/-- 'throw new E("text")': new; dup; ldc; invokespecial; athrow -/
theorem vx_throwS {cc : ByteArray} {pc : Nat} (hexec : p.tables.exec = Jvm.exec) (hb : c.code = cc) (hl : l.stackTraces = false) {own cls text : String} {names : List String} {ik is ic mc ms sa : Nat} {A : Nat → Prop}
    (hown : s.vm.findClass own = some m.cls) (hcls : Bundle.fit cls = true) (hnames : ∀ n ∈ names, Bundle.fit n = true)
    (hk : (Cond.classLink own ik cls).before args s = true) (hini : (Cond.initialized cls).before args s = true) (hstr : vk_R own is text sa s) (hat : ∀ w ∈ vx_atS own ic cls names, w.before args s = true)
    (hgood : ∀ w ∈ Cond.classLink own ik cls :: Cond.initialized cls :: vx_atS own ic cls names, vx_ot w = true)
    (hU : vx_Zq Bundle.tN "UNASSIGNED_STACK" Bundle.steD A s s.heap) (hN : vx_Zq Bundle.tN "SUPPRESSED_SENTINEL" Bundle.listD A s s.heap) (hS : va_S A s.heap H locs) (hsize : ls.size = c.maxLocals)
    (d0 : decode cc pc = .ok (.new ik, 3)) (d3 : decode cc (pc + 3) = .ok (.dup, 1)) (d4 : decode cc (pc + 4) = .ok (.ldc is, 2)) (d6 : decode cc (pc + 6) = .ok (.invokespecial ic, 3)) (d9 : decode cc (pc + 9) = .ok (.athrow, 1))
    (hout : ∀ x ∈ c.exceptionTable.toList, covers x (pc + 9) = false)
    (hRframes : names.length + 3 < R.frames) (hRlocals : (rest.map fun v => v.category).sum + (13 * (names.length + 1) + 43) ≤ R.locals) (hRcells : cells + 1 ≤ R.cells) (hRslots : slots + 6 ≤ R.slots) (hlocks : meth.locks = false)
    (hx : ∀ t : State, s.vm.Alike t.vm → H.size ≤ t.heap.size → (∀ q : Nat, q < H.size → t.heap[q]? = H[q]?) → XC cls s t)
    (hf : ∀ z ∈ locs, free z.base) (hc : cells + 1 ≤ mc) (hs : slots + 6 ≤ ms) :
    W p l e R s m args below meth c H locs cells slots (vx_MQ below Qc XC args s mc ms free) (F0 m pc ls rest) := by
  intro T hT X
  have htr : e.platform.stackTraces = false := (show e.platform.stackTraces = l.stackTraces by rw [X.admits.platform]).trans hl
  have Y := vx_rebase X (R' := { frames := R.frames, locals := R.locals, cells := 1, slots := 6 }) (Nat.le_refl _) (Nat.le_refl _) hRcells hRslots
  obtain ⟨s', hA⟩ : ∃ z, z = (T.setVm s.vm).setFrames (.invoking m args :: below) := ⟨_, rfl⟩
  rw [← hA] at Y
  have hvm : s'.vm = s.vm := by rw [hA]; rfl
  have hhp : s'.heap = H := by rw [hA]; exact hT
  have hW0 : s.WarmedH s'.vm := by rw [hvm]; exact State.WarmedH.refl s
  have hat' : ∀ w ∈ vx_atS own ic cls names, w.before args s' = true := fun w hw => vx_ot_at hW0 hvm.symm (hgood w (List.mem_cons_of_mem _ (List.mem_cons_of_mem _ hw))) (hat w hw)
  have hk' : (Cond.classLink own ik cls).before args s' = true := vx_ot_at hW0 hvm.symm (hgood _ List.mem_cons_self) hk
  have hini' : (Cond.initialized cls).before args s' = true := vx_ot_at hW0 hvm.symm (hgood _ (List.mem_cons_of_mem _ List.mem_cons_self)) hini
  have hU' : vx_Zq Bundle.tN "UNASSIGNED_STACK" Bundle.steD A s' s'.heap := by rw [hhp]; exact vx_Zq.moved hW0.alike (hU.kept hS.2.1)
  have hN' : vx_Zq Bundle.tN "SUPPRESSED_SENTINEL" Bundle.listD A s' s'.heap := by rw [hhp]; exact vx_Zq.moved hW0.alike (hN.kept hS.2.1)
  have h : ∀ w ∈ Bundle.ownAtoms own ic cls names, w.before args s' = true := vx_own hat' (vx_isRefq hU'.1) (vx_isRefq hN'.1) hU'.2.word hN'.2.word
  have hown' : s'.vm.findClass own = some m.cls := by rw [hvm]; exact hown
  have hins : (Cond.instantiable cls 6).before args s' = true := h _ (by simp [Bundle.ownAtoms])
  obtain ⟨vm₁, cX, kX, hfX, hkX, -, -, X₁, st1⟩ := Y.newCold hexec (own := own) (C := cls) (index := ik) (n := 6) hown' hk' hins hini'
    (g := F0 m pc ls rest) rfl (by rw [hb]; exact d0) (Nat.le_refl _) (Nat.le_refl _)
  generalize hT1 : (T.setVm vm₁).pushCell { cls := cX, slots := kX.instanceTypes.map defaultValue, vm := .none } = T1 at X₁ st1
  have hcat : (Value.ref T.heap.size).category = 1 := rfl
  have hcellA : T1.heap[T.heap.size]? = some (freshCell cX kX) := by rw [← hT1]; exact State.heap_pushCell_size _ _
  have d3' : decode c.code (pc + 3) = .ok (.dup, 1) := by rw [hb]; exact d3
  have d4' : decode c.code (pc + 4) = .ok (.ldc is, 2) := by rw [hb]; exact d4
  have hstr' : vk_R own is text sa s' := vk_R.warm hW0 hstr
  obtain ⟨U, hsteps, hrun, hend, hW, hsame, ce, hce, hO⟩ := X₁.ctorThrowS hexec htr (own := own) (cls := cls) (names := names) (ic := ic) hown' hcls hnames h (fun x hx => nomatch hx) hfX hkX hcellA (by rw [hhp, hT]; exact Nat.le_refl _) (msg := .ref sa) rfl
    (g := { method := m, pc := pc + 6, locals := ls, stack := .ref sa :: .ref T.heap.size :: .ref T.heap.size :: rest, locked := none }) rfl hsize rfl rfl (rest := rest) rfl
    (by rw [hb]; exact d6) (by rw [hb]; exact d9) hout hRframes (by simp only [List.map_cons, List.sum_cons, hcat]; omega) hlocks
  obtain ⟨f1, f2⟩ := vx_frame hsame
  rw [hhp] at f1 f2
  have hWs : s.WarmedH U.vm := State.WarmedH.trans hW0 hW
  have hcl : s.vm.findClass cls = some ce.cls := by
    have h9 := hO.cls
    rw [hvm] at h9
    exact h9
  have hall : s.sameButNew ({ U with vm := s.vm } : State) locs mc ms := by
    subst hA
    obtain ⟨e1, e2⟩ := hsame
    rw [State.setFrames_setFrames] at e1
    have h2 : (T.setVm s.vm).sameButNew ({ U with vm := s.vm } : State) [] (0 + 1) (0 + 6) := ⟨e1, e2⟩
    have h3 := X.same.trans h2
    rw [List.append_nil] at h3
    exact h3.mono hc hs
  refine ⟨U, ?_, .threw T.heap.size, hrun, hend, Or.inr ⟨T.heap.size, rfl, cls, ce, locs, hx U hWs.alike f1 (fun q hq => f2 q hq (fun z hz => nomatch hz)), hce, hO.vm, hcl, hWs, hall, hf⟩⟩
  refine st1 _ ?_
  show Steps p.tables e below (T1.setTop { method := m, pc := pc + 3, locals := ls, stack := .ref T.heap.size :: rest, locked := none }) _
  jvm_step X₁.here [X₁.here.top, hexec, d3', Value.category]
  exact X₁.ldcString hexec (own := own) (text := text) (index := is) (a := sa) hown' hstr'.1 hstr'.2
    (g := { method := m, pc := pc + 4, locals := ls, stack := .ref T.heap.size :: .ref T.heap.size :: rest, locked := none }) rfl d4' _ hsteps
/-- 'throw new E("text")', the text by a wide index -/
theorem vx_throwSW {cc : ByteArray} {pc : Nat} (hexec : p.tables.exec = Jvm.exec) (hb : c.code = cc) (hl : l.stackTraces = false) {own cls text : String} {names : List String} {ik is ic mc ms sa : Nat} {A : Nat → Prop}
    (hown : s.vm.findClass own = some m.cls) (hcls : Bundle.fit cls = true) (hnames : ∀ n ∈ names, Bundle.fit n = true)
    (hk : (Cond.classLink own ik cls).before args s = true) (hini : (Cond.initialized cls).before args s = true) (hstr : vk_R own is text sa s) (hat : ∀ w ∈ vx_atS own ic cls names, w.before args s = true)
    (hgood : ∀ w ∈ Cond.classLink own ik cls :: Cond.initialized cls :: vx_atS own ic cls names, vx_ot w = true)
    (hU : vx_Zq Bundle.tN "UNASSIGNED_STACK" Bundle.steD A s s.heap) (hN : vx_Zq Bundle.tN "SUPPRESSED_SENTINEL" Bundle.listD A s s.heap) (hS : va_S A s.heap H locs) (hsize : ls.size = c.maxLocals)
    (d0 : decode cc pc = .ok (.new ik, 3)) (d3 : decode cc (pc + 3) = .ok (.dup, 1)) (d4 : decode cc (pc + 4) = .ok (.ldc_w is, 3)) (d7 : decode cc (pc + 7) = .ok (.invokespecial ic, 3)) (d10 : decode cc (pc + 10) = .ok (.athrow, 1))
    (hout : ∀ x ∈ c.exceptionTable.toList, covers x (pc + 10) = false)
    (hRframes : names.length + 3 < R.frames) (hRlocals : (rest.map fun v => v.category).sum + (13 * (names.length + 1) + 43) ≤ R.locals) (hRcells : cells + 1 ≤ R.cells) (hRslots : slots + 6 ≤ R.slots) (hlocks : meth.locks = false)
    (hx : ∀ t : State, s.vm.Alike t.vm → H.size ≤ t.heap.size → (∀ q : Nat, q < H.size → t.heap[q]? = H[q]?) → XC cls s t)
    (hf : ∀ z ∈ locs, free z.base) (hc : cells + 1 ≤ mc) (hs : slots + 6 ≤ ms) :
    W p l e R s m args below meth c H locs cells slots (vx_MQ below Qc XC args s mc ms free) (F0 m pc ls rest) := by
  intro T hT X
  have htr : e.platform.stackTraces = false := (show e.platform.stackTraces = l.stackTraces by rw [X.admits.platform]).trans hl
  have Y := vx_rebase X (R' := { frames := R.frames, locals := R.locals, cells := 1, slots := 6 }) (Nat.le_refl _) (Nat.le_refl _) hRcells hRslots
  obtain ⟨s', hA⟩ : ∃ z, z = (T.setVm s.vm).setFrames (.invoking m args :: below) := ⟨_, rfl⟩
  rw [← hA] at Y
  have hvm : s'.vm = s.vm := by rw [hA]; rfl
  have hhp : s'.heap = H := by rw [hA]; exact hT
  have hW0 : s.WarmedH s'.vm := by rw [hvm]; exact State.WarmedH.refl s
  have hat' : ∀ w ∈ vx_atS own ic cls names, w.before args s' = true := fun w hw => vx_ot_at hW0 hvm.symm (hgood w (List.mem_cons_of_mem _ (List.mem_cons_of_mem _ hw))) (hat w hw)
  have hk' : (Cond.classLink own ik cls).before args s' = true := vx_ot_at hW0 hvm.symm (hgood _ List.mem_cons_self) hk
  have hini' : (Cond.initialized cls).before args s' = true := vx_ot_at hW0 hvm.symm (hgood _ (List.mem_cons_of_mem _ List.mem_cons_self)) hini
  have hU' : vx_Zq Bundle.tN "UNASSIGNED_STACK" Bundle.steD A s' s'.heap := by rw [hhp]; exact vx_Zq.moved hW0.alike (hU.kept hS.2.1)
  have hN' : vx_Zq Bundle.tN "SUPPRESSED_SENTINEL" Bundle.listD A s' s'.heap := by rw [hhp]; exact vx_Zq.moved hW0.alike (hN.kept hS.2.1)
  have h : ∀ w ∈ Bundle.ownAtoms own ic cls names, w.before args s' = true := vx_own hat' (vx_isRefq hU'.1) (vx_isRefq hN'.1) hU'.2.word hN'.2.word
  have hown' : s'.vm.findClass own = some m.cls := by rw [hvm]; exact hown
  have hins : (Cond.instantiable cls 6).before args s' = true := h _ (by simp [Bundle.ownAtoms])
  obtain ⟨vm₁, cX, kX, hfX, hkX, -, -, X₁, st1⟩ := Y.newCold hexec (own := own) (C := cls) (index := ik) (n := 6) hown' hk' hins hini'
    (g := F0 m pc ls rest) rfl (by rw [hb]; exact d0) (Nat.le_refl _) (Nat.le_refl _)
  generalize hT1 : (T.setVm vm₁).pushCell { cls := cX, slots := kX.instanceTypes.map defaultValue, vm := .none } = T1 at X₁ st1
  have hcat : (Value.ref T.heap.size).category = 1 := rfl
  have hcellA : T1.heap[T.heap.size]? = some (freshCell cX kX) := by rw [← hT1]; exact State.heap_pushCell_size _ _
  have d3' : decode c.code (pc + 3) = .ok (.dup, 1) := by rw [hb]; exact d3
  have d4' : decode c.code (pc + 4) = .ok (.ldc_w is, 3) := by rw [hb]; exact d4
  have hstr' : vk_R own is text sa s' := vk_R.warm hW0 hstr
  obtain ⟨U, hsteps, hrun, hend, hW, hsame, ce, hce, hO⟩ := X₁.ctorThrowS hexec htr (own := own) (cls := cls) (names := names) (ic := ic) hown' hcls hnames h (fun x hx => nomatch hx) hfX hkX hcellA (by rw [hhp, hT]; exact Nat.le_refl _) (msg := .ref sa) rfl
    (g := { method := m, pc := pc + 7, locals := ls, stack := .ref sa :: .ref T.heap.size :: .ref T.heap.size :: rest, locked := none }) rfl hsize rfl rfl (rest := rest) rfl
    (by rw [hb]; exact d7) (by rw [hb]; exact d10) hout hRframes (by simp only [List.map_cons, List.sum_cons, hcat]; omega) hlocks
  obtain ⟨f1, f2⟩ := vx_frame hsame
  rw [hhp] at f1 f2
  have hWs : s.WarmedH U.vm := State.WarmedH.trans hW0 hW
  have hcl : s.vm.findClass cls = some ce.cls := by
    have h9 := hO.cls
    rw [hvm] at h9
    exact h9
  have hall : s.sameButNew ({ U with vm := s.vm } : State) locs mc ms := by
    subst hA
    obtain ⟨e1, e2⟩ := hsame
    rw [State.setFrames_setFrames] at e1
    have h2 : (T.setVm s.vm).sameButNew ({ U with vm := s.vm } : State) [] (0 + 1) (0 + 6) := ⟨e1, e2⟩
    have h3 := X.same.trans h2
    rw [List.append_nil] at h3
    exact h3.mono hc hs
  refine ⟨U, ?_, .threw T.heap.size, hrun, hend, Or.inr ⟨T.heap.size, rfl, cls, ce, locs, hx U hWs.alike f1 (fun q hq => f2 q hq (fun z hz => nomatch hz)), hce, hO.vm, hcl, hWs, hall, hf⟩⟩
  refine st1 _ ?_
  show Steps p.tables e below (T1.setTop { method := m, pc := pc + 3, locals := ls, stack := .ref T.heap.size :: rest, locked := none }) _
  jvm_step X₁.here [X₁.here.top, hexec, d3', Value.category]
  exact X₁.ldcStringW hexec (own := own) (text := text) (index := is) (a := sa) hown' hstr'.1 hstr'.2
    (g := { method := m, pc := pc + 4, locals := ls, stack := .ref T.heap.size :: .ref T.heap.size :: rest, locked := none }) rfl d4' _ hsteps
end Ends
section Bodies
variable {l : Launch}
theorem vx_ofW {y : MethodName} {ws ws' : List Cond} {rm : Room} {Pc : Array Value → State → Prop} {Qc : Array Value → State → Outcome → State → Prop} {XC : String → State → State → Prop} {mc ms : Nat} {free : Addr → Prop} {cc : ByteArray} {maxL : Nat} {ret : Option FieldType}
    (hy : plainName y.cls = true) (hw : ws = Cond.code y cc maxL ret :: ws')
    (body : ∀ p e s m args below meth c s₁, BodyLoose p l y (headSpec ws rm) cc maxL ret e s m args below meth c s₁ → c.maxLocals = maxL → (∀ x ∈ c.exceptionTable.toList, False) → Pc args s →
      W p l e (headSpec ws rm).room s m args below meth c s.heap [] 0 0 (vx_MQ below Qc XC args s mc ms free) (entryFrame m args maxL)) : vx_Met l y ws rm Pc Qc XC mc ms free := by
  refine MetFree.of_bodyS (code := cc) (maxLocals := maxL) (ret := ret) hy ?_ ?_
  · intro args s m h hn
    obtain ⟨meth, c, h1, h2, h3, h4, h5, h6, -, -⟩ := Cond.code_spec hn (atoms_spec (ws := ws) h _ (by rw [hw]; exact List.mem_cons_self))
    exact ⟨meth, c, h1, h2, h3, h4, h5, h6⟩
  · intro p e s m args below meth c s₁ B hml hP _
    have hh0 : s₁.heap = s.heap := by rw [B.state]; rfl
    have ht : ∀ x ∈ c.exceptionTable.toList, False := by
      obtain ⟨meth9, c9, h1, h2, -, -, -, -, h7, -⟩ := Cond.code_spec B.named (atoms_spec (ws := ws) B.pre _ (by rw [hw]; exact List.mem_cons_self))
      cases Option.some.inj (h1.symm.trans B.method)
      cases Option.some.inj (h2.symm.trans (Stand.of_body B).code)
      intro x hx
      rw [Array.isEmpty_iff.mp h7] at hx
      cases hx
    obtain ⟨t, a1, o, b1, b2, b3⟩ := body p e s m args below meth c s₁ B hml ht hP s₁ hh0 (Stand.of_body B)
    exact ⟨t, o, a1, b1, b2, b3⟩
/-- the table of a body with handlers -/
theorem vx_table {p : Program} {x y : MethodName} {S : Spec} {cc bytes : ByteArray} {maxL maxL' : Nat} {ret ret' : Option FieldType} {e : Env} {s s₁ : State} {m : MethodId} {args : Array Value} {below : List Frame} {meth : Method} {c : Code} {hh : List (Nat × Nat × Nat × Nat)}
    (B : BodyLoose p l y S cc maxL ret e s m args below meth c s₁) (h : (Cond.codeWith y bytes maxL' ret' hh).before args s = true) : c.exceptionTable.toList = tableOf hh := by
  obtain ⟨m9, meth9, c9, hn9, h1, h2, -, -, h6, -⟩ := Cond.codeWith_spec h
  cases Option.some.inj (hn9.symm.trans B.named)
  cases Option.some.inj (h1.symm.trans B.method)
  cases Option.some.inj (h2.symm.trans (Stand.of_body B).code)
  rw [← h6, table_eq]
end Bodies
end VXA
/-! ===== END ===== -/
/-! ===== BEGIN a static call of a method with an exception table ===== -/
section VXS
variable {p : Program} {l : Launch} {e : Env} {R : Room} {s : State} {m : MethodId} {args : Array Value} {below : List Frame} {meth : Method} {c : Code} {T : State} {H : Heap} {locs : List Loc} {cells slots : Nat}
abbrev vx_CSW (R : Room) (s : State) (args : Array Value) (own : String) (index : Nat) (y : MethodName) (bytes : ByteArray) (maxL : Nat) (ret : Option FieldType) (hh : List (Nat × Nat × Nat × Nat)) (ws : List Cond) (rm : Room) (mc ms n : Nat) : Prop :=
  (rm.cells = mc ∧ rm.slots = ms ∧ rm.frames + 1 ≤ R.frames ∧ 8 + (maxL + 11) + rm.locals ≤ R.locals ∧ (∀ w ∈ ws, ∀ (a' : Array Value) (U : State), s.WarmedH U.vm → w.before a' U = true) ∧ Cond.codeWith y bytes maxL ret hh ∈ ws) ∧
  (Cond.codeWith y bytes maxL ret hh).before args s = true ∧ (Cond.initialized y.cls).before args s = true ∧ (y.cls ≠ "java/lang/invoke/MethodHandle" ∧ y.cls ≠ "java/lang/invoke/VarHandle") ∧
  (∀ sig, parseMethodDescriptor y.desc = some sig → n = sig.parameters.length) ∧ (Cond.methodLink own index y).before args s = true ∧ (Cond.static y).before args s = true
theorem vx_cwSW {own : String} {index maxL mc ms : Nat} {y : MethodName} {bytes : ByteArray} {ret : Option FieldType} {hh : List (Nat × Nat × Nat × Nat)} {Ts ws ws' : List Cond} {rm : Room} (n : Nat) (ht : ∀ w ∈ Ts, w.before args s = true) (hT : GoodIn Ts (va_wsS own index y ws)) (hw : ws = Cond.codeWith y bytes maxL ret hh :: ws') (hrc : rm.cells = mc) (hrs : rm.slots = ms)
    (hd : y.cls ≠ "java/lang/invoke/MethodHandle" ∧ y.cls ≠ "java/lang/invoke/VarHandle" ∧ (parseMethodDescriptor y.desc).map (fun d => d.parameters.length) = some n) (hR : rm.frames + 1 ≤ R.frames ∧ 8 + (maxL + 11) + rm.locals ≤ R.locals) :
    vx_CSW R s args own index y bytes maxL ret hh ws rm mc ms n := by
  have ok : ∀ w ∈ va_wsS own index y ws, w.before args s = true := fun w h => ht w (hT w h).1
  have hG : GoodIn Ts ws := fun w h => hT w (by unfold va_wsS; exact List.mem_append_right _ h)
  have hc : Cond.codeWith y bytes maxL ret hh ∈ ws := by rw [hw]; exact List.mem_cons_self
  refine ⟨⟨hrc, hrs, hR.1, hR.2, pay_in ht hG, hc⟩, ht _ (hG _ hc).1, ok _ (by simp [va_wsS]), ⟨hd.1, hd.2.1⟩, fun sig h => ?_, ok _ (by simp [va_wsS]), ok _ (by simp [va_wsS])⟩
  have h2 := hd.2.2
  rw [h] at h2
  exact (Option.some.inj h2).symm
theorem vx_callSW (X : Stand p l e R s m args below meth c T locs cells slots) (hexec : p.tables.exec = Jvm.exec) {own : String} {index : Nat} {y : MethodName} {bytes : ByteArray} {maxL : Nat} {ret : Option FieldType} {hh : List (Nat × Nat × Nat × Nat)}
    (hown : s.vm.findClass own = some m.cls) (hlink : (Cond.methodLink own index y).before args s = true) (hstat : (Cond.static y).before args s = true) (hinit : (Cond.initialized y.cls).before args s = true)
    (hcode : (Cond.codeWith y bytes maxL ret hh).before args s = true) (hy : y.cls ≠ "java/lang/invoke/MethodHandle" ∧ y.cls ≠ "java/lang/invoke/VarHandle")
    {W9 : Nat} {Pre : Pt → Array Value → Prop} {Post : Pt → Array Value → Option Value → Pt → Prop} (hK : Back l R p e below s args y 3 W9 Pre Post)
    {g : JFrame} (hg : g.method = m) (hsize : g.locals.size = c.maxLocals) {argsL rest : List Value} (hlen : ∀ sig, parseMethodDescriptor y.desc = some sig → argsL.length = sig.parameters.length)
    (hstack : g.stack = argsL.reverse ++ rest) (hW : 2 * g.monitorRoom + (rest.map fun v => v.category).sum ≤ W9) (hdg : decode c.code g.pc = .ok (.invokestatic index, 3))
    (hpre : ∀ vm₁, s.WarmedH vm₁ → Pre ⟨T.setVm vm₁, locs, cells, slots⟩ argsL.toArray) :
    ∃ (v : Option Value) (vm₁ : Vm) (B : Pt), s.WarmedH vm₁ ∧ Stand p l e R s m args below meth c B.U B.locs B.cells B.slots ∧ Post ⟨T.setVm vm₁, locs, cells, slots⟩ argsL.toArray v B ∧
      ∀ target, Steps p.tables e below (B.U.setTop { g with pc := g.pc + 3, stack := v.toList ++ rest }) target → Steps p.tables e below (T.setTop g) target := by
  obtain ⟨mk, methM, cM, hnamed, hmethM, -, -, -, -, -, -, hsigM⟩ := Cond.codeWith_spec hcode
  have hstatic : methM.isStatic = true := Cond.static_spec hnamed hmethM hstat
  obtain ⟨kP, hkP, -⟩ := className_of_methodNamed hnamed
  have hinitP : kP.init = .initialized := Cond.initialized_spec (findClass_of_methodNamed hnamed) hkP hinit
  obtain ⟨vm₁, X₁, hstep₁⟩ := X.invokestatic hexec hown hlink hnamed hmethM hstatic hkP hinitP hy (g := g) hg (argsL := argsL) (rest := rest) (hlen _ hsigM) hstack hdg
  obtain ⟨v, B, X', hpost, hsteps⟩ := hK m meth c ⟨T.setVm vm₁, locs, cells, slots⟩ { g with stack := rest } (.invokestatic index) mk argsL.toArray X₁ hg hsize hdg hW (X₁.named hnamed) (hpre vm₁ X₁.warmed)
  exact ⟨v, vm₁, B, X₁.warmed, X', hpost, fun target h => hstep₁ _ fun acts => by rw [doInvoke_state]; exact hsteps.trans h⟩
theorem vx_runSW {y : MethodName} {bytes cc : ByteArray} {maxL nL mc ms n index : Nat} {ret : Option FieldType} {hh : List (Nat × Nat × Nat × Nat)} {ws : List Cond} {rm : Room} {Pc : Array Value → State → Prop} {Qc : Array Value → State → Outcome → State → Prop} {free : Addr → Prop} {Ts : List Cond} {own : String} {As rest : List Value} {g : JFrame}
    (S : CallFix p m c cc nL s args Ts own) (hM : Met l y ws rm Pc Qc mc ms free) (cw : vx_CSW R s args own index y bytes maxL ret hh ws rm mc ms n) (hp : PreS s H Pc As)
    (hg : g.method = m) (hn : As.length = n) (hsize : g.locals.size = nL) (hstack : g.stack = As.reverse ++ rest) (hW : 2 * g.monitorRoom + (rest.map fun v => v.category).sum ≤ 8) (hdg : decode cc g.pc = .ok (.invokestatic index, 3)) (hf : cells + mc ≤ R.cells ∧ slots + ms ≤ R.slots) :
    va_Run p l e R s m args below meth c H locs cells slots mc ms g rest (Qc As.toArray) (free) := by
  obtain ⟨⟨hrc, hrs, hfr, hlo, hws, hcw⟩, hcode, hini, hy, hlen, hl, hstt⟩ := cw
  have hK : Back l R p e below s args y 3 8 (PreOf R mc ms Pc) (PostOf Qc mc ms free) := va_backW (hh := hh) (bytes := bytes) (maxL := maxL) (ret := ret) hM hp.1 hrc hrs hfr hlo hws hcw (fun a' U hW => word_at hW (Or.inl (by first | rfl | simp [Cond.onTables, Cond.keeps, Cond.steady])) hini)
  obtain ⟨hx, hb, hml, ho, -⟩ := S
  intro T hT X
  obtain ⟨v, vm₁, ⟨U', l2, c2, s2⟩, hW₁, X', ⟨g', mk, t, L, e1, e2, hq, h1, hL, h2, h3⟩, st⟩ := vx_callSW X hx (hh := hh) (bytes := bytes) (maxL := maxL) (ret := ret) ho hl hstt hini hcode hy hK hg (hsize.trans hml.symm) (argsL := As) (rest := rest) (fun sig h => hn.trans (hlen sig h)) hstack hW (by rw [hb]; exact hdg)
    (fun vm₁ hW₁ => ⟨hf.1, hf.2, hp.2 (T.setVm vm₁) hT hW₁⟩)
  dsimp only [Pt.U, Pt.locs, Pt.cells, Pt.slots] at X' e1 e2 h1 h2 h3 st
  subst h1; subst h2; subst h3
  exact ⟨v, (T.setVm vm₁).calling g' mk As.toArray, t, U', L, hT, X', hL, e1, e2, hq, st⟩
/-- not caught here, past rows that name other classes: it goes on to the caller -/
theorem vx_outP {p : Program} {l : Launch} {e : Env} {R : Room} {s : State} {m : MethodId} {args : Array Value} {below : List Frame} {meth : Method} {c : Code} {H : Heap} {locs : List Loc} {cells slots : Nat} {free : Addr → Prop} {ls : Array Slot} {rest : List Value} {Qc : Array Value → State → Outcome → State → Prop} {XC : String → State → State → Prop}
    {pc : Nat} {own E : String} {ce : Cell} {q : Addr} {mc ms : Nat} (hown : s.vm.findClass own = some m.cls) (hlocks : meth.locks = false)
    (hpass : ∀ z ∈ c.exceptionTable.toList, covers z pc = false ∨ (z.catchType ≠ 0 ∧ ∃ nm : String, (Cond.classLink own z.catchType nm).before args s = true ∧ va_Nc E nm s)) (hcell : H[q]? = some ce) (hv : ce.vm = .none) (hcl : s.vm.findClass E = some ce.cls)
    (hx : ∀ t : State, t.heap = H → s.vm.Alike t.vm → XC E s t) (hf : ∀ z ∈ locs, free z.base) (hc : cells ≤ mc) (hs : slots ≤ ms) :
    vx_W p l e R s m args below meth c H locs cells slots (vx_MQ below Qc XC args s mc ms free) (F0 m pc ls rest) q := by
  intro T hT X
  have hpl : e.platform.magicAccessors = ({} : Platform).magicAccessors := by rw [X.admits.platform]
  obtain ⟨vm', hW', X', st⟩ := X.outThrough hlocks q (g := F0 m pc ls rest) rfl rfl rfl (cell := ce) (by rw [hT]; exact hcell) (by rw [hv]; rfl)
    (by obtain ⟨k9, h9, -⟩ := Vm.findClass_spec hcl; exact ⟨k9, h9⟩) (fun z hz => by
      rcases hpass z hz with h | ⟨hz0, nm, hl1, hn1⟩
      · exact Or.inl h
      · obtain ⟨c6, hc6, hcl6⟩ := Cond.classLink_spec hown hl1 e.platform hpl
        obtain ⟨a8, b8, h1, h2, h3⟩ := hn1
        cases Option.some.inj (h1.symm.trans hcl)
        cases Option.some.inj (h2.symm.trans hc6)
        exact Or.inr ⟨hz0, _, hcl6, h3⟩)
  obtain ⟨g₀, hfr⟩ := X'.frames_eq
  have hcell9 : ((T.setVm vm').setFrames (.throwing q :: below)).heap[q]? = some ce := by
    show T.heap[q]? = some ce
    rw [hT]; exact hcell
  have hend : Ended ((T.setVm vm').setFrames (.throwing q :: below)) below (.threw q) := State.frames_setFrames _ (State.cur_lt_of_frames hfr)
  refine ⟨(T.setVm vm').setFrames (.throwing q :: below), ?_, .threw q, X'.here.running, hend, Or.inr ⟨q, rfl, E, ce, locs, hx _ hT (X'.ends _).1.alike, hcell9, hv, hcl, (X'.ends _).1, (X'.ends _).2.mono hc hs, hf⟩⟩
  rw [X.pushThrowing_eq]
  exact st
/-- a thing of a world lies in the heap -/
theorem vx_lt {D : va_G} {cl : List vw_C} {ws : va_W} {H1 : Heap} (h : va_P D cl ws H1) {k : Nat} {q : Nat × va_E} (hk : ws[k]? = some q) : q.1 < H1.size := (h k q hk).lt
end VXS
/-! ===== END ===== -/
/-! ===== BEGIN methods with a table of their own: called by a name, returning or throwing ===== -/
section VXH
/-! vx_backW, vx_callVX, vx_callSX, vx_callVW, vx_runVW, vx_runVX, vx_runSX, vx_ofWH follow the same proofs as their sisters above (Free/Laws.lean, Shelf42/LK1.lean); vx_outP calls Shelf42/NT130.lean (outThrough). -/
section
variable {l : Launch} {R : Room} {p : Program} {e : Env} {below : List Frame} {s : State} {sargs : Array Value} {y : MethodName} {len W9 : Nat}
theorem vx_backW {ws : List Cond} {rm : Room} {Pc : Array Value → State → Prop} {Qc : Array Value → State → Outcome → State → Prop} {XC : String → State → State → Prop} {mc ms : Nat} {free : Addr → Prop} {bytes : ByteArray} {maxL : Nat} {ret : Option FieldType} {hh : List (Nat × Nat × Nat × Nat)}
    (hM : vx_Met l y ws rm Pc Qc XC mc ms free) (hblind : FrameBlind Pc) (hrc : rm.cells = mc) (hrs : rm.slots = ms)
    (hframes : rm.frames + 1 ≤ R.frames) (hlocals : W9 + (maxL + 11) + rm.locals ≤ R.locals)
    (hws : ∀ w ∈ ws, ∀ a' U, s.WarmedH U.vm → w.before a' U = true) (hcode : Cond.codeWith y bytes maxL ret hh ∈ ws) (hinit : ∀ a' U, s.WarmedH U.vm → (Cond.initialized y.cls).before a' U = true) :
    vx_Back l R p e below s sargs y len W9 (PreOf R mc ms Pc) (PostOf Qc mc ms free) (vx_Post XC mc ms free) := by
  intro m meth c A g ig mk a X hg hsize hdg hW hn hp
  have h1 : (headSpec ws rm).pre.before a A.U = true := atoms_intro fun w hw => hws w hw _ _ X.warmed
  have h2 : (Cond.codeWith y bytes maxL ret hh).before a A.U = true := hws _ hcode _ _ X.warmed
  have h3 : (Cond.initialized y.cls).before a A.U = true := hinit _ _ X.warmed
  have h4 : A.cells + (headSpec ws rm).room.cells ≤ R.cells := by rw [show (headSpec ws rm).room.cells = mc from hrc]; exact hp.1
  have h5 : A.slots + (headSpec ws rm).room.slots ≤ R.slots := by rw [show (headSpec ws rm).room.slots = ms from hrs]; exact hp.2.1
  have hPc : Pc a (A.U.calling g mk a) := hblind _ _ _ _ hp.2.2
  obtain ⟨U, Ls, c0, s0⟩ := A
  dsimp only [Pt.U, Pt.locs, Pt.cells, Pt.slots] at h1 h2 h3 h4 h5 X hn hPc ⊢
  obtain ⟨m9, methY, cY, hn9, hmY, hcY, -, hlY, -⟩ := Cond.codeWith_spec h2
  cases Option.some.inj (hn9.symm.trans hn)
  obtain ⟨kY, hkY, -⟩ := className_of_methodNamed hn
  have hinitY : kY.init = .initialized := Cond.initialized_spec (findClass_of_methodNamed hn) hkY h3
  have h : At U g.method c below := by rw [hg]; exact X.here
  have hlocals9 : W9 + (maxL + 11) + (headSpec ws rm).room.locals ≤ R.locals := hlocals
  have happ : (headSpec ws rm).appliesLoose y e.platform (U.calling g mk a) = true :=
    Spec.appliesLoose_calling (g := g) h hdg hn hkY hinitY
      (X.room_calling (g := g) (R' := (headSpec ws rm).room) hsize hmY hcY hframes (by rw [hlY]; omega) h4 h5) h1
  obtain ⟨mid, hmid⟩ := h.above
  have hfr : (U.setTop g).frames = (.java g :: mid) ++ below := by rw [State.frames_setTop' g h.top, hmid]; rfl
  obtain ⟨o, s₂, hsteps, -, hend, hq⟩ := Steps.callFree hM p X.admits X.cas X.clock (acts := []) hfr happ hPc trivial
  have hq' : vx_Q Qc XC mc ms free a (U.calling g mk a) o s₂ := hq
  rw [State.frames_setTop' g h.top] at hend
  obtain ⟨g₀, hg0⟩ := Option.isSome_iff_exists.mp h.top
  obtain ⟨r, hr⟩ := State.topJava?_eq_some.mp hg0
  have hr' : (({ U with heap := s₂.heap, slotsUsed := s₂.slotsUsed } : State).setVm s₂.vm).frames = .java g₀ :: r := hr
  rcases hq' with ⟨hqc, L, hfe, hL⟩ | ⟨q, rfl, E, ce, L, hx, hce, hcv, hcl, hW₂, hsm, hL⟩
  · obtain ⟨⟨v, rfl⟩, hW₂, e2, q2, q3, q4, q5, q6⟩ := id hfe
    have e3 : s₂ = ({ (U.calling g mk a).setFrames s₂.frames with heap := s₂.heap, slotsUsed := s₂.slotsUsed } : State).setVm s₂.vm := by
      have : s₂ = ({ s₂ with vm := (U.calling g mk a).vm } : State).setVm s₂.vm := rfl
      rw [e2] at this
      exact this
    obtain ⟨c₂, i₂, len₂, hc₂, hd₂, hf₂⟩ := hend
    have hW' : U.WarmedH s₂.vm := hW₂
    have hcc : c₂ = c := by
      have h1 : s₂.code? g.method = U.code? g.method := by
        rw [State.code?_eq, State.code?_eq, hW'.alike.method?]
      exact Option.some.inj (hc₂.symm.trans (h1.trans h.code))
    subst hcc
    have hlen : len₂ = len := by rw [hdg] at hd₂; cases hd₂; rfl
    subst hlen
    have hs₂ : s₂ = (({ U with heap := s₂.heap, slotsUsed := s₂.slotsUsed } : State).setVm s₂.vm).setTop { g with pc := g.pc + len₂, stack := v.toList ++ g.stack } := by
      refine e3.trans ?_
      rw [hf₂, State.calling_eq h.top, State.setFrames_setFrames, State.setTop_of_frames _ hr', hr]
      rfl
    have hsame : U.sameButNew ({ U with heap := s₂.heap, slotsUsed := s₂.slotsUsed } : State) L mc ms := by
      refine ⟨?_, q2, q3, q4, q5, q6⟩
      obtain ⟨t, ht, -⟩ := State.frames_cons hr
      show ({ U with heap := s₂.heap, slotsUsed := s₂.slotsUsed } : State) = { U.setFrames U.frames with heap := s₂.heap, slotsUsed := s₂.slotsUsed }
      rw [State.setFrames_self ht]
    subst hg
    refine Or.inl ⟨v, ⟨(({ U with heap := s₂.heap, slotsUsed := s₂.slotsUsed } : State).setVm s₂.vm), Ls ++ L, c0 + mc, s0 + ms⟩,
      ⟨X.admits, X.cas, X.clock, X.frames, X.room, X.hears, X.method, X.code, (X.here.setHeapUsed s₂.heap s₂.slotsUsed).setVm hW'.alike, X.tail, State.WarmedH.trans X.warmed hW', X.limits, X.bytes, X.same.trans (hsame.setVm s.vm)⟩,
      ⟨g, mk, s₂, L, rfl, rfl, hqc, rfl, hL, rfl, rfl⟩, ?_⟩
    show Steps p.tables e below _ ((({ U with heap := s₂.heap, slotsUsed := s₂.slotsUsed } : State).setVm s₂.vm).setTop { g with pc := g.pc + len₂, stack := v.toList ++ g.stack })
    rw [← hs₂]
    exact hsteps
  · obtain ⟨e2, q2, q3, q4, q5, q6⟩ := id hsm
    have e3 : s₂ = ({ (U.calling g mk a).setFrames s₂.frames with heap := s₂.heap, slotsUsed := s₂.slotsUsed } : State).setVm s₂.vm := by
      have : s₂ = ({ s₂ with vm := (U.calling g mk a).vm } : State).setVm s₂.vm := rfl
      rw [e2] at this
      exact this
    have hf₂ : s₂.frames = .throwing q :: .java g :: U.frames.tail := hend
    have hW' : U.WarmedH s₂.vm := hW₂
    have hs₂ : s₂ = ((({ U with heap := s₂.heap, slotsUsed := s₂.slotsUsed } : State).setVm s₂.vm).setTop g).pushFrame (.throwing q) := by
      refine e3.trans ?_
      rw [hf₂, State.calling_eq h.top, State.setFrames_setFrames, State.pushFrame, State.frames_setTop _ hr', State.setTop_of_frames _ hr', State.setFrames_setFrames, hr]
      rfl
    have hsame : U.sameButNew ({ U with heap := s₂.heap, slotsUsed := s₂.slotsUsed } : State) L mc ms := by
      refine ⟨?_, q2, q3, q4, q5, q6⟩
      obtain ⟨t, ht, -⟩ := State.frames_cons hr
      show ({ U with heap := s₂.heap, slotsUsed := s₂.slotsUsed } : State) = { U.setFrames U.frames with heap := s₂.heap, slotsUsed := s₂.slotsUsed }
      rw [State.setFrames_self ht]
    subst hg
    refine Or.inr ⟨q, ⟨(({ U with heap := s₂.heap, slotsUsed := s₂.slotsUsed } : State).setVm s₂.vm), Ls ++ L, c0 + mc, s0 + ms⟩,
      ⟨X.admits, X.cas, X.clock, X.frames, X.room, X.hears, X.method, X.code, (X.here.setHeapUsed s₂.heap s₂.slotsUsed).setVm hW'.alike, X.tail, State.WarmedH.trans X.warmed hW', X.limits, X.bytes, X.same.trans (hsame.setVm s.vm)⟩,
      ⟨g, mk, s₂, L, E, ce, rfl, rfl, hx, hce, hcv, hcl, rfl, hL, rfl, rfl⟩, ?_⟩
    show Steps p.tables e below _ (((({ U with heap := s₂.heap, slotsUsed := s₂.slotsUsed } : State).setVm s₂.vm).setTop g).pushFrame (.throwing q))
    rw [← hs₂]
    exact hsteps
end
variable {p : Program} {l : Launch} {e : Env} {R : Room} {s : State} {m : MethodId} {args : Array Value} {below : List Frame} {meth : Method} {c : Code} {T : State} {H : Heap} {locs : List Loc} {cells slots : Nat}
theorem vx_callVX (X : Stand p l e R s m args below meth c T locs cells slots) (hexec : p.tables.exec = Jvm.exec) {own C : String} {index : Nat} {y : MethodName} {bytes : ByteArray} {maxL : Nat} {ret : Option FieldType} {hh : List (Nat × Nat × Nat × Nat)}
    (hown : s.vm.findClass own = some m.cls) (hlink : (Cond.methodLink own index y).before args s = true) (hinst : (Cond.instanceMethod y).before args s = true) (hsel : (Cond.selects C y y).before args s = true)
    (hcode : (Cond.codeWith y bytes maxL ret hh).before args s = true) (hy : y.cls ≠ "java/lang/invoke/MethodHandle" ∧ y.cls ≠ "java/lang/invoke/VarHandle")
    {W9 : Nat} {Pre : Pt → Array Value → Prop} {Post : Pt → Array Value → Option Value → Pt → Prop} {PostX : Pt → Array Value → Addr → Pt → Prop} (hK : vx_Back l R p e below s args y 3 W9 Pre Post PostX)
    {b : Addr} {cellB : Cell} (hcell : T.heap[b]? = some cellB) (hobj : cellB.vm.isStatics = false) (hcls : s.vm.findClass C = some cellB.cls)
    {g : JFrame} (hg : g.method = m) (hsize : g.locals.size = c.maxLocals) {argsL rest : List Value} (hlen : ∀ sig, parseMethodDescriptor y.desc = some sig → argsL.length = sig.parameters.length)
    (hstack : g.stack = argsL.reverse ++ .ref b :: rest) (hW : 2 * g.monitorRoom + (rest.map fun v => v.category).sum ≤ W9) (hdg : decode c.code g.pc = .ok (.invokevirtual index, 3))
    (hpre : ∀ vm₁, s.WarmedH vm₁ → Pre ⟨T.setVm vm₁, locs, cells, slots⟩ (Value.ref b :: argsL).toArray) :
    (∃ (v : Option Value) (vm₁ : Vm) (B : Pt), s.WarmedH vm₁ ∧ Stand p l e R s m args below meth c B.U B.locs B.cells B.slots ∧ Post ⟨T.setVm vm₁, locs, cells, slots⟩ (Value.ref b :: argsL).toArray v B ∧
      ∀ target, Steps p.tables e below (B.U.setTop { g with pc := g.pc + 3, stack := v.toList ++ rest }) target → Steps p.tables e below (T.setTop g) target) ∨
    (∃ (q : Addr) (vm₁ : Vm) (B : Pt), s.WarmedH vm₁ ∧ Stand p l e R s m args below meth c B.U B.locs B.cells B.slots ∧ PostX ⟨T.setVm vm₁, locs, cells, slots⟩ (Value.ref b :: argsL).toArray q B ∧
      Steps p.tables e below (T.setTop g) ((B.U.setTop { g with stack := rest }).pushFrame (.throwing q))) := by
  obtain ⟨mk, methM, hnamed, hmethM, hstM, habM⟩ := Cond.instanceMethod_spec hinst
  obtain ⟨m8, methM', cM, hn8, hmethM', -, -, -, -, -, -, hsigM⟩ := Cond.codeWith_spec hcode
  cases Option.some.inj (hn8.symm.trans hnamed)
  cases hmethM.symm.trans hmethM'
  obtain ⟨c2, r2, m2, q1, q2, q3, q4, kP, hkP, hkPi⟩ := Cond.selects_spec hsel
  cases hcls.symm.trans q1
  cases (State.methodFound?_of_named hnamed hy).symm.trans q2
  cases hnamed.symm.trans q3
  have hselP : selectMethod e.platform s.vm cellB.cls mk = .method mk := by rw [Launch.admits_selectMethod X.admits]; exact q4
  obtain ⟨vm₁, X₁, hstep₁⟩ := X.invokevirtual hexec hown hlink hnamed hmethM hstM hkP hkPi hy (a := b) (cell := cellB) hcell
    (fun z h => by rw [h] at hobj; cases hobj) hselP hmethM habM hkP hkPi (g := g) hg (argsL := argsL) (rest := rest) (hlen _ hsigM) hstack hdg
  rcases hK m meth c ⟨T.setVm vm₁, locs, cells, slots⟩ { g with stack := rest } (.invokevirtual index) mk (Value.ref b :: argsL).toArray X₁ hg hsize hdg hW (X₁.named hnamed) (hpre vm₁ X₁.warmed) with ⟨v, B, X', hpost, hsteps⟩ | ⟨q, B, X', hpost, hsteps⟩
  · exact Or.inl ⟨v, vm₁, B, X₁.warmed, X', hpost, fun target h => hstep₁ _ fun acts => by rw [doInvoke_state]; exact hsteps.trans h⟩
  · exact Or.inr ⟨q, vm₁, B, X₁.warmed, X', hpost, hstep₁ _ fun acts => by rw [doInvoke_state]; exact hsteps⟩
theorem vx_callSX (X : Stand p l e R s m args below meth c T locs cells slots) (hexec : p.tables.exec = Jvm.exec) {own : String} {index : Nat} {y : MethodName} {bytes : ByteArray} {maxL : Nat} {ret : Option FieldType} {hh : List (Nat × Nat × Nat × Nat)}
    (hown : s.vm.findClass own = some m.cls) (hlink : (Cond.methodLink own index y).before args s = true) (hstat : (Cond.static y).before args s = true) (hinit : (Cond.initialized y.cls).before args s = true)
    (hcode : (Cond.codeWith y bytes maxL ret hh).before args s = true) (hy : y.cls ≠ "java/lang/invoke/MethodHandle" ∧ y.cls ≠ "java/lang/invoke/VarHandle")
    {W9 : Nat} {Pre : Pt → Array Value → Prop} {Post : Pt → Array Value → Option Value → Pt → Prop} {PostX : Pt → Array Value → Addr → Pt → Prop} (hK : vx_Back l R p e below s args y 3 W9 Pre Post PostX)
    {g : JFrame} (hg : g.method = m) (hsize : g.locals.size = c.maxLocals) {argsL rest : List Value} (hlen : ∀ sig, parseMethodDescriptor y.desc = some sig → argsL.length = sig.parameters.length)
    (hstack : g.stack = argsL.reverse ++ rest) (hW : 2 * g.monitorRoom + (rest.map fun v => v.category).sum ≤ W9) (hdg : decode c.code g.pc = .ok (.invokestatic index, 3))
    (hpre : ∀ vm₁, s.WarmedH vm₁ → Pre ⟨T.setVm vm₁, locs, cells, slots⟩ argsL.toArray) :
    (∃ (v : Option Value) (vm₁ : Vm) (B : Pt), s.WarmedH vm₁ ∧ Stand p l e R s m args below meth c B.U B.locs B.cells B.slots ∧ Post ⟨T.setVm vm₁, locs, cells, slots⟩ argsL.toArray v B ∧
      ∀ target, Steps p.tables e below (B.U.setTop { g with pc := g.pc + 3, stack := v.toList ++ rest }) target → Steps p.tables e below (T.setTop g) target) ∨
    (∃ (q : Addr) (vm₁ : Vm) (B : Pt), s.WarmedH vm₁ ∧ Stand p l e R s m args below meth c B.U B.locs B.cells B.slots ∧ PostX ⟨T.setVm vm₁, locs, cells, slots⟩ argsL.toArray q B ∧
      Steps p.tables e below (T.setTop g) ((B.U.setTop { g with stack := rest }).pushFrame (.throwing q))) := by
  obtain ⟨mk, methM, cM, hnamed, hmethM, -, -, -, -, -, -, hsigM⟩ := Cond.codeWith_spec hcode
  have hstatic : methM.isStatic = true := Cond.static_spec hnamed hmethM hstat
  obtain ⟨kP, hkP, -⟩ := className_of_methodNamed hnamed
  have hinitP : kP.init = .initialized := Cond.initialized_spec (findClass_of_methodNamed hnamed) hkP hinit
  obtain ⟨vm₁, X₁, hstep₁⟩ := X.invokestatic hexec hown hlink hnamed hmethM hstatic hkP hinitP hy (g := g) hg (argsL := argsL) (rest := rest) (hlen _ hsigM) hstack hdg
  rcases hK m meth c ⟨T.setVm vm₁, locs, cells, slots⟩ { g with stack := rest } (.invokestatic index) mk argsL.toArray X₁ hg hsize hdg hW (X₁.named hnamed) (hpre vm₁ X₁.warmed) with ⟨v, B, X', hpost, hsteps⟩ | ⟨q, B, X', hpost, hsteps⟩
  · exact Or.inl ⟨v, vm₁, B, X₁.warmed, X', hpost, fun target h => hstep₁ _ fun acts => by rw [doInvoke_state]; exact hsteps.trans h⟩
  · exact Or.inr ⟨q, vm₁, B, X₁.warmed, X', hpost, hstep₁ _ fun acts => by rw [doInvoke_state]; exact hsteps⟩
theorem vx_callVW (X : Stand p l e R s m args below meth c T locs cells slots) (hexec : p.tables.exec = Jvm.exec) {own C : String} {index : Nat} {y : MethodName} {bytes : ByteArray} {maxL : Nat} {ret : Option FieldType} {hh : List (Nat × Nat × Nat × Nat)}
    (hown : s.vm.findClass own = some m.cls) (hlink : (Cond.methodLink own index y).before args s = true) (hinst : (Cond.instanceMethod y).before args s = true) (hsel : (Cond.selects C y y).before args s = true)
    (hcode : (Cond.codeWith y bytes maxL ret hh).before args s = true) (hy : y.cls ≠ "java/lang/invoke/MethodHandle" ∧ y.cls ≠ "java/lang/invoke/VarHandle")
    {W9 : Nat} {Pre : Pt → Array Value → Prop} {Post : Pt → Array Value → Option Value → Pt → Prop} (hK : Back l R p e below s args y 3 W9 Pre Post)
    {b : Addr} {cellB : Cell} (hcell : T.heap[b]? = some cellB) (hobj : cellB.vm.isStatics = false) (hcls : s.vm.findClass C = some cellB.cls)
    {g : JFrame} (hg : g.method = m) (hsize : g.locals.size = c.maxLocals) {argsL rest : List Value} (hlen : ∀ sig, parseMethodDescriptor y.desc = some sig → argsL.length = sig.parameters.length)
    (hstack : g.stack = argsL.reverse ++ .ref b :: rest) (hW : 2 * g.monitorRoom + (rest.map fun v => v.category).sum ≤ W9) (hdg : decode c.code g.pc = .ok (.invokevirtual index, 3))
    (hpre : ∀ vm₁, s.WarmedH vm₁ → Pre ⟨T.setVm vm₁, locs, cells, slots⟩ (Value.ref b :: argsL).toArray) :
    ∃ (v : Option Value) (vm₁ : Vm) (B : Pt), s.WarmedH vm₁ ∧ Stand p l e R s m args below meth c B.U B.locs B.cells B.slots ∧ Post ⟨T.setVm vm₁, locs, cells, slots⟩ (Value.ref b :: argsL).toArray v B ∧
      ∀ target, Steps p.tables e below (B.U.setTop { g with pc := g.pc + 3, stack := v.toList ++ rest }) target → Steps p.tables e below (T.setTop g) target := by
  obtain ⟨mk, methM, hnamed, hmethM, hstM, habM⟩ := Cond.instanceMethod_spec hinst
  obtain ⟨m8, methM', cM, hn8, hmethM', -, -, -, -, -, -, hsigM⟩ := Cond.codeWith_spec hcode
  cases Option.some.inj (hn8.symm.trans hnamed)
  cases hmethM.symm.trans hmethM'
  obtain ⟨c2, r2, m2, q1, q2, q3, q4, kP, hkP, hkPi⟩ := Cond.selects_spec hsel
  cases hcls.symm.trans q1
  cases (State.methodFound?_of_named hnamed hy).symm.trans q2
  cases hnamed.symm.trans q3
  have hselP : selectMethod e.platform s.vm cellB.cls mk = .method mk := by rw [Launch.admits_selectMethod X.admits]; exact q4
  obtain ⟨vm₁, X₁, hstep₁⟩ := X.invokevirtual hexec hown hlink hnamed hmethM hstM hkP hkPi hy (a := b) (cell := cellB) hcell
    (fun z h => by rw [h] at hobj; cases hobj) hselP hmethM habM hkP hkPi (g := g) hg (argsL := argsL) (rest := rest) (hlen _ hsigM) hstack hdg
  obtain ⟨v, B, X', hpost, hsteps⟩ := hK m meth c ⟨T.setVm vm₁, locs, cells, slots⟩ { g with stack := rest } (.invokevirtual index) mk (Value.ref b :: argsL).toArray X₁ hg hsize hdg hW (X₁.named hnamed) (hpre vm₁ X₁.warmed)
  exact ⟨v, vm₁, B, X₁.warmed, X', hpost, fun target h => hstep₁ _ fun acts => by rw [doInvoke_state]; exact hsteps.trans h⟩
abbrev vx_CVW (R : Room) (s : State) (args : Array Value) (own C : String) (index : Nat) (y : MethodName) (bytes : ByteArray) (maxL : Nat) (ret : Option FieldType) (hh : List (Nat × Nat × Nat × Nat)) (ws : List Cond) (rm : Room) (mc ms n : Nat) : Prop :=
  (rm.cells = mc ∧ rm.slots = ms ∧ rm.frames + 1 ≤ R.frames ∧ 8 + (maxL + 11) + rm.locals ≤ R.locals ∧ (∀ w ∈ ws, ∀ (a' : Array Value) (U : State), s.WarmedH U.vm → w.before a' U = true) ∧ Cond.codeWith y bytes maxL ret hh ∈ ws) ∧
  (Cond.codeWith y bytes maxL ret hh).before args s = true ∧ (Cond.initialized y.cls).before args s = true ∧ (y.cls ≠ "java/lang/invoke/MethodHandle" ∧ y.cls ≠ "java/lang/invoke/VarHandle") ∧
  (∀ sig, parseMethodDescriptor y.desc = some sig → n = sig.parameters.length) ∧ (Cond.methodLink own index y).before args s = true ∧ (Cond.instanceMethod y).before args s = true ∧ (Cond.selects C y y).before args s = true
theorem vx_cwVW {own C : String} {index maxL mc ms : Nat} {y : MethodName} {bytes : ByteArray} {ret : Option FieldType} {hh : List (Nat × Nat × Nat × Nat)} {Ts ws ws' : List Cond} {rm : Room} (n : Nat) (ht : ∀ w ∈ Ts, w.before args s = true) (hT : GoodIn Ts (wsV own index C y ws)) (hw : ws = Cond.codeWith y bytes maxL ret hh :: ws') (hrc : rm.cells = mc) (hrs : rm.slots = ms)
    (hd : y.cls = C ∧ y.cls ≠ "java/lang/invoke/MethodHandle" ∧ y.cls ≠ "java/lang/invoke/VarHandle" ∧ (parseMethodDescriptor y.desc).map (fun d => d.parameters.length) = some n) (hR : rm.frames + 1 ≤ R.frames ∧ 8 + (maxL + 11) + rm.locals ≤ R.locals) :
    vx_CVW R s args own C index y bytes maxL ret hh ws rm mc ms n := by
  obtain ⟨hC, hd⟩ := hd
  subst hC
  have ok : ∀ w ∈ wsV own index y.cls y ws, w.before args s = true := fun w h => ht w (hT w h).1
  have hG : GoodIn Ts ws := fun w h => hT w (by unfold wsV; exact List.mem_append_right _ h)
  have hc : Cond.codeWith y bytes maxL ret hh ∈ ws := by rw [hw]; exact List.mem_cons_self
  refine ⟨⟨hrc, hrs, hR.1, hR.2, pay_in ht hG, hc⟩, ht _ (hG _ hc).1, ok _ (by simp [wsV]), ⟨hd.1, hd.2.1⟩, fun sig h => ?_, ok _ (by simp [wsV]), ok _ (by simp [wsV]), ok _ (by simp [wsV])⟩
  have h2 := hd.2.2
  rw [h] at h2
  exact (Option.some.inj h2).symm
theorem vx_runVW {y : MethodName} {bytes cc : ByteArray} {maxL nL mc ms n index : Nat} {ret : Option FieldType} {hh : List (Nat × Nat × Nat × Nat)} {ws : List Cond} {rm : Room} {Pc : Array Value → State → Prop} {Qc : Array Value → State → Outcome → State → Prop} {free : Addr → Prop} {Ts : List Cond} {own C : String} {b : Addr} {As rest : List Value} {g : JFrame}
    (S : CallFix p m c cc nL s args Ts own) (hM : Met l y ws rm Pc Qc mc ms free) (cw : vx_CVW R s args own C index y bytes maxL ret hh ws rm mc ms n) (hp : PreV s H C b Pc As)
    (hg : g.method = m) (hn : As.length = n) (hsize : g.locals.size = nL) (hstack : g.stack = As.reverse ++ .ref b :: rest) (hW : 2 * g.monitorRoom + (rest.map fun v => v.category).sum ≤ 8) (hdg : decode cc g.pc = .ok (.invokevirtual index, 3)) (hf : cells + mc ≤ R.cells ∧ slots + ms ≤ R.slots) :
    va_Run p l e R s m args below meth c H locs cells slots mc ms g rest (Qc (Value.ref b :: As).toArray) free := by
  obtain ⟨⟨hrc, hrs, hfr, hlo, hws, hcw⟩, hcode, hini, hy, hlen, hl, hin, hse⟩ := cw
  have hK : Back l R p e below s args y 3 8 (PreOf R mc ms Pc) (PostOf Qc mc ms free) := va_backW (hh := hh) (bytes := bytes) (maxL := maxL) (ret := ret) hM hp.1 hrc hrs hfr hlo hws hcw (fun a' U hW => word_at hW (Or.inl (by first | rfl | simp [Cond.onTables, Cond.keeps, Cond.steady])) hini)
  obtain ⟨hx, hb, hml, ho, -⟩ := S
  obtain ⟨-, ⟨cellB, hcB, hoB, hclB⟩, hPc⟩ := hp
  intro T hT X
  obtain ⟨v, vm₁, ⟨U', l2, c2, s2⟩, hW₁, X', ⟨g', mk, t, L, e1, e2, hq, h1, hL, h2, h3⟩, st⟩ := vx_callVW X hx (C := C) (hh := hh) (bytes := bytes) (maxL := maxL) (ret := ret) ho hl hin hse hcode hy hK (by rw [hT]; exact hcB) hoB hclB hg (hsize.trans hml.symm) (argsL := As) (rest := rest) (fun sig h => hn.trans (hlen sig h)) hstack hW (by rw [hb]; exact hdg)
    (fun vm₁ hW₁ => ⟨hf.1, hf.2, hPc (T.setVm vm₁) hT hW₁⟩)
  dsimp only [Pt.U, Pt.locs, Pt.cells, Pt.slots] at X' e1 e2 h1 h2 h3 st
  subst h1; subst h2; subst h3
  exact ⟨v, (T.setVm vm₁).calling g' mk (Value.ref b :: As).toArray, t, U', L, hT, X', hL, e1, e2, hq, st⟩
section
variable {y : MethodName} {bytes cc : ByteArray} {maxL nL mc ms n index : Nat} {ret : Option FieldType} {ws : List Cond} {rm : Room} {Pc : Array Value → State → Prop} {Qc : Array Value → State → Outcome → State → Prop} {XC : String → State → State → Prop} {free : Addr → Prop} {Ts : List Cond} {own C : String} {b : Addr} {As rest : List Value} {g : JFrame}
theorem vx_runVX {hh : List (Nat × Nat × Nat × Nat)} (S : CallFix p m c cc nL s args Ts own) (hM : vx_Met l y ws rm Pc Qc XC mc ms free) (cw : vx_CVW R s args own C index y bytes maxL ret hh ws rm mc ms n) (hp : PreV s H C b Pc As)
    (hg : g.method = m) (hn : As.length = n) (hsize : g.locals.size = nL) (hstack : g.stack = As.reverse ++ .ref b :: rest) (hW : 2 * g.monitorRoom + (rest.map fun v => v.category).sum ≤ 8) (hdg : decode cc g.pc = .ok (.invokevirtual index, 3)) (hf : cells + mc ≤ R.cells ∧ slots + ms ≤ R.slots) :
    vx_Run p l e R s m args below meth c H locs cells slots mc ms g rest (Qc (Value.ref b :: As).toArray) XC free := by
  obtain ⟨⟨hrc, hrs, hfr, hlo, hws, hcw⟩, hcode, hini, hy, hlen, hl, hin, hse⟩ := cw
  have hK : vx_Back l R p e below s args y 3 8 (PreOf R mc ms Pc) (PostOf Qc mc ms free) (vx_Post XC mc ms free) := vx_backW (hh := hh) (bytes := bytes) (maxL := maxL) (ret := ret) hM hp.1 hrc hrs hfr hlo hws hcw (fun a' U hW => word_at hW (Or.inl (by first | rfl | simp [Cond.onTables, Cond.keeps, Cond.steady])) hini)
  obtain ⟨hx, hb, hml, ho, -⟩ := S
  obtain ⟨-, ⟨cellB, hcB, hoB, hclB⟩, hPc⟩ := hp
  intro T hT X
  rcases vx_callVX X hx (C := C) (hh := hh) (bytes := bytes) (maxL := maxL) (ret := ret) ho hl hin hse hcode hy hK (by rw [hT]; exact hcB) hoB hclB hg (hsize.trans hml.symm) (argsL := As) (rest := rest) (fun sig h => hn.trans (hlen sig h)) hstack hW (by rw [hb]; exact hdg)
    (fun vm₁ hW₁ => ⟨hf.1, hf.2, hPc (T.setVm vm₁) hT hW₁⟩) with ⟨v, vm₁, ⟨U', l2, c2, s2⟩, hW₁, X', ⟨g', mk, t, L, e1, e2, hq, h1, hL, h2, h3⟩, st⟩ | ⟨q, vm₁, ⟨U', l2, c2, s2⟩, hW₁, X', ⟨g', mk, t, L, E, ce, e1, e2, hq, hce, hcv, hcl, h1, hL, h2, h3⟩, st⟩
  · dsimp only [Pt.U, Pt.locs, Pt.cells, Pt.slots] at X' e1 e2 h1 h2 h3 st
    subst h1; subst h2; subst h3
    exact Or.inl ⟨v, (T.setVm vm₁).calling g' mk (Value.ref b :: As).toArray, t, U', L, hT, X', hL, e1, e2, hq, st⟩
  · dsimp only [Pt.U, Pt.locs, Pt.cells, Pt.slots] at X' e1 e2 h1 h2 h3 st hcl
    subst h1; subst h2; subst h3
    exact Or.inr ⟨q, (T.setVm vm₁).calling g' mk (Value.ref b :: As).toArray, t, U', L, E, ce, hT, X', hL, e1, e2, hq, hce, hcv, vx_cls hW₁ hcl, st⟩
theorem vx_runSX {hh : List (Nat × Nat × Nat × Nat)} (S : CallFix p m c cc nL s args Ts own) (hM : vx_Met l y ws rm Pc Qc XC mc ms free) (cw : vx_CSW R s args own index y bytes maxL ret hh ws rm mc ms n) (hp : PreS s H Pc As)
    (hg : g.method = m) (hn : As.length = n) (hsize : g.locals.size = nL) (hstack : g.stack = As.reverse ++ rest) (hW : 2 * g.monitorRoom + (rest.map fun v => v.category).sum ≤ 8) (hdg : decode cc g.pc = .ok (.invokestatic index, 3)) (hf : cells + mc ≤ R.cells ∧ slots + ms ≤ R.slots) :
    vx_Run p l e R s m args below meth c H locs cells slots mc ms g rest (Qc As.toArray) XC free := by
  obtain ⟨⟨hrc, hrs, hfr, hlo, hws, hcw⟩, hcode, hini, hy, hlen, hl, hstt⟩ := cw
  have hK : vx_Back l R p e below s args y 3 8 (PreOf R mc ms Pc) (PostOf Qc mc ms free) (vx_Post XC mc ms free) := vx_backW (hh := hh) (bytes := bytes) (maxL := maxL) (ret := ret) hM hp.1 hrc hrs hfr hlo hws hcw (fun a' U hW => word_at hW (Or.inl (by first | rfl | simp [Cond.onTables, Cond.keeps, Cond.steady])) hini)
  obtain ⟨hx, hb, hml, ho, -⟩ := S
  intro T hT X
  rcases vx_callSX X hx (hh := hh) (bytes := bytes) (maxL := maxL) (ret := ret) ho hl hstt hini hcode hy hK hg (hsize.trans hml.symm) (argsL := As) (rest := rest) (fun sig h => hn.trans (hlen sig h)) hstack hW (by rw [hb]; exact hdg)
    (fun vm₁ hW₁ => ⟨hf.1, hf.2, hp.2 (T.setVm vm₁) hT hW₁⟩) with ⟨v, vm₁, ⟨U', l2, c2, s2⟩, hW₁, X', ⟨g', mk, t, L, e1, e2, hq, h1, hL, h2, h3⟩, st⟩ | ⟨q, vm₁, ⟨U', l2, c2, s2⟩, hW₁, X', ⟨g', mk, t, L, E, ce, e1, e2, hq, hce, hcv, hcl, h1, hL, h2, h3⟩, st⟩
  · dsimp only [Pt.U, Pt.locs, Pt.cells, Pt.slots] at X' e1 e2 h1 h2 h3 st
    subst h1; subst h2; subst h3
    exact Or.inl ⟨v, (T.setVm vm₁).calling g' mk As.toArray, t, U', L, hT, X', hL, e1, e2, hq, st⟩
  · dsimp only [Pt.U, Pt.locs, Pt.cells, Pt.slots] at X' e1 e2 h1 h2 h3 st hcl
    subst h1; subst h2; subst h3
    exact Or.inr ⟨q, (T.setVm vm₁).calling g' mk As.toArray, t, U', L, E, ce, hT, X', hL, e1, e2, hq, hce, hcv, vx_cls hW₁ hcl, st⟩
end
end VXH
theorem vx_ofWH {l : Launch} {y : MethodName} {ws ws' : List Cond} {rm : Room} {Pc : Array Value → State → Prop} {Qc : Array Value → State → Outcome → State → Prop} {XC : String → State → State → Prop} {mc ms : Nat} {free : Addr → Prop} {cc : ByteArray} {maxL : Nat} {ret : Option FieldType} {hh : List (Nat × Nat × Nat × Nat)}
    (hy : plainName y.cls = true) (hw : ws = Cond.codeWith y cc maxL ret hh :: ws')
    (body : ∀ p e s m args below meth c s₁, BodyLoose p l y (headSpec ws rm) cc maxL ret e s m args below meth c s₁ → c.maxLocals = maxL → Pc args s →
      W p l e (headSpec ws rm).room s m args below meth c s.heap [] 0 0 (vx_MQ below Qc XC args s mc ms free) (entryFrame m args maxL)) : vx_Met l y ws rm Pc Qc XC mc ms free := by
  refine MetFree.of_bodyS (code := cc) (maxLocals := maxL) (ret := ret) hy ?_ ?_
  · intro args s m h hn
    obtain ⟨m9, meth, c, hn9, h1, h2, h3, h4, -, h5, h6, -⟩ := Cond.codeWith_spec (atoms_spec (ws := ws) h _ (by rw [hw]; exact List.mem_cons_self))
    cases hn.symm.trans hn9
    exact ⟨meth, c, h1, h2, h3, h4, h5, h6⟩
  · intro p e s m args below meth c s₁ B hml hP _
    have hh0 : s₁.heap = s.heap := by rw [B.state]; rfl
    obtain ⟨t, a1, o, b1, b2, b3⟩ := body p e s m args below meth c s₁ B hml hP s₁ hh0 (Stand.of_body B)
    exact ⟨t, o, a1, b1, b2, b3⟩
/-! ===== END ===== -/
end
section
/-! names: classes, fields, methods: the printed ones -/
def RX0 : String := "PackedTable$1"
def TX0 : u_T := fun k => match k with
  | _ => ("", "", "", false)
def tyX0 : Nat → FieldType := fun k => match k with
  | _ => .int
theorem nmX0 : ∀ a, a < 0 → ∀ b, b < 0 → a ≠ b → (TX0 a).2.1 ≠ (TX0 b).2.1 := by decide +kernel
theorem tyX0_ok : ∀ k, k < 0 → parseFieldDescriptor (TX0 k).2.2.1 = some (tyX0 k) := by decide +kernel
def RX1 : String := "PackedTable$Column"
def TX1 : u_T := fun k => match k with
  | 0 => ("PackedTable$Column", "values", "[I", true)
  | 1 => ("PackedTable$Column", "dictionary", "LPackedTable$Dictionary;", true)
  | _ => ("PackedTable$Column", "length", "I", false)
def tyX1 : Nat → FieldType := fun k => match k with
  | 0 => .array .int
  | 1 => .object "PackedTable$Dictionary"
  | _ => .int
theorem nmX1 : ∀ a, a < 3 → ∀ b, b < 3 → a ≠ b → (TX1 a).2.1 ≠ (TX1 b).2.1 := by decide +kernel
theorem tyX1_ok : ∀ k, k < 3 → parseFieldDescriptor (TX1 k).2.2.1 = some (tyX1 k) := by decide +kernel
abbrev cX1_init : ByteArray := prog_3_method_1_code
def yX1_init : MethodName := ⟨RX1, "<init>", "()V"⟩
abbrev cX1_length : ByteArray := prog_3_method_2_code
def yX1_length : MethodName := ⟨RX1, "length", "()I"⟩
abbrev cX1_dictionary : ByteArray := prog_3_method_3_code
def yX1_dictionary : MethodName := ⟨RX1, "dictionary", "()LPackedTable$Dictionary;"⟩
abbrev cX1_valueAt : ByteArray := prog_3_method_4_code
def yX1_valueAt : MethodName := ⟨RX1, "valueAt", "(I)I"⟩
abbrev cX1_codeAt : ByteArray := prog_3_method_5_code
def yX1_codeAt : MethodName := ⟨RX1, "codeAt", "(I)I"⟩
abbrev cX1_clear : ByteArray := prog_3_method_6_code
def yX1_clear : MethodName := ⟨RX1, "clear", "()V"⟩
abbrev cX1_append : ByteArray := prog_3_method_7_code
def yX1_append : MethodName := ⟨RX1, "append", "(I)V"⟩
abbrev cX1_put : ByteArray := prog_3_method_8_code
def yX1_put : MethodName := ⟨RX1, "put", "(II)V"⟩
abbrev cX1_move : ByteArray := prog_3_method_9_code
def yX1_move : MethodName := ⟨RX1, "move", "(II)V"⟩
abbrev cX1_shorten : ByteArray := prog_3_method_10_code
def yX1_shorten : MethodName := ⟨RX1, "shorten", "(I)V"⟩
abbrev cX1_reorder : ByteArray := prog_3_method_11_code
def yX1_reorder : MethodName := ⟨RX1, "reorder", "(LPackedTable$RowOrder;)V"⟩
abbrev cX1_collectInto : ByteArray := prog_3_method_12_code
def yX1_collectInto : MethodName := ⟨RX1, "collectInto", "(LPackedTable$Dictionary;)V"⟩
abbrev cX1_dropStale : ByteArray := prog_3_method_13_code
def yX1_dropStale : MethodName := ⟨RX1, "dropStale", "()V"⟩
abbrev cX1_occurrences : ByteArray := prog_3_method_14_code
def yX1_occurrences : MethodName := ⟨RX1, "occurrences", "(I)I"⟩
abbrev cX1_commonest : ByteArray := prog_3_method_15_code
def yX1_commonest : MethodName := ⟨RX1, "commonest", "()I"⟩
abbrev cX1_runsIn : ByteArray := prog_3_method_16_code
def yX1_runsIn : MethodName := ⟨RX1, "runsIn", "(LPackedTable$RowOrder;)I"⟩
abbrev cX1_greatestRun : ByteArray := prog_3_method_17_code
def yX1_greatestRun : MethodName := ⟨RX1, "greatestRun", "()I"⟩
abbrev cX1_isAscending : ByteArray := prog_3_method_18_code
def yX1_isAscending : MethodName := ⟨RX1, "isAscending", "()Z"⟩
abbrev cX1_copyFrom : ByteArray := prog_3_method_19_code
def yX1_copyFrom : MethodName := ⟨RX1, "copyFrom", "(LPackedTable$Column;)V"⟩
def RX2 : String := "PackedTable$Command"
def TX2 : u_T := fun k => match k with
  | 0 => ("PackedTable$Command", "kind", "LPackedTable$Kind;", false)
  | 1 => ("PackedTable$Command", "column", "I", false)
  | 2 => ("PackedTable$Command", "number", "I", false)
  | 3 => ("PackedTable$Command", "value", "I", false)
  | 4 => ("PackedTable$Command", "isDown", "Z", false)
  | _ => ("PackedTable$Command", "cells", "[I", true)
def tyX2 : Nat → FieldType := fun k => match k with
  | 0 => .object "PackedTable$Kind"
  | 1 => .int
  | 2 => .int
  | 3 => .int
  | 4 => .boolean
  | _ => .array .int
theorem nmX2 : ∀ a, a < 6 → ∀ b, b < 6 → a ≠ b → (TX2 a).2.1 ≠ (TX2 b).2.1 := by decide +kernel
theorem tyX2_ok : ∀ k, k < 6 → parseFieldDescriptor (TX2 k).2.2.1 = some (tyX2 k) := by decide +kernel
abbrev cX2_init : ByteArray := prog_4_method_1_code
def yX2_init : MethodName := ⟨RX2, "<init>", "()V"⟩
def RX3 : String := "PackedTable$Dictionary"
def TX3 : u_T := fun k => match k with
  | 0 => ("PackedTable$Dictionary", "entries", "[I", false)
  | _ => ("PackedTable$Dictionary", "size", "I", false)
def tyX3 : Nat → FieldType := fun k => match k with
  | 0 => .array .int
  | _ => .int
theorem nmX3 : ∀ a, a < 2 → ∀ b, b < 2 → a ≠ b → (TX3 a).2.1 ≠ (TX3 b).2.1 := by decide +kernel
theorem tyX3_ok : ∀ k, k < 2 → parseFieldDescriptor (TX3 k).2.2.1 = some (tyX3 k) := by decide +kernel
abbrev cX3_init : ByteArray := prog_5_method_1_code
def yX3_init : MethodName := ⟨RX3, "<init>", "()V"⟩
abbrev cX3_widthFor : ByteArray := prog_5_method_2_code
def yX3_widthFor : MethodName := ⟨RX3, "widthFor", "(I)I"⟩
abbrev cX3_size : ByteArray := prog_5_method_3_code
def yX3_size : MethodName := ⟨RX3, "size", "()I"⟩
abbrev cX3_width : ByteArray := prog_5_method_4_code
def yX3_width : MethodName := ⟨RX3, "width", "()I"⟩
abbrev cX3_entry : ByteArray := prog_5_method_5_code
def yX3_entry : MethodName := ⟨RX3, "entry", "(I)I"⟩
abbrev cX3_countBelow : ByteArray := prog_5_method_6_code
def yX3_countBelow : MethodName := ⟨RX3, "countBelow", "(I)I"⟩
abbrev cX3_holds : ByteArray := prog_5_method_7_code
def yX3_holds : MethodName := ⟨RX3, "holds", "(I)Z"⟩
abbrev cX3_find : ByteArray := prog_5_method_8_code
def yX3_find : MethodName := ⟨RX3, "find", "(I)I"⟩
abbrev cX3_insert : ByteArray := prog_5_method_9_code
def yX3_insert : MethodName := ⟨RX3, "insert", "(I)V"⟩
abbrev cX3_clear : ByteArray := prog_5_method_10_code
def yX3_clear : MethodName := ⟨RX3, "clear", "()V"⟩
abbrev cX3_copyFrom : ByteArray := prog_5_method_11_code
def yX3_copyFrom : MethodName := ⟨RX3, "copyFrom", "(LPackedTable$Dictionary;)V"⟩
def RX4 : String := "PackedTable$Filter"
def TX4 : u_T := fun k => match k with
  | 0 => ("PackedTable$Filter", "columns", "[I", true)
  | 1 => ("PackedTable$Filter", "values", "[I", true)
  | 2 => ("PackedTable$Filter", "directions", "[I", true)
  | _ => ("PackedTable$Filter", "size", "I", false)
def tyX4 : Nat → FieldType := fun k => match k with
  | 0 => .array .int
  | 1 => .array .int
  | 2 => .array .int
  | _ => .int
theorem nmX4 : ∀ a, a < 4 → ∀ b, b < 4 → a ≠ b → (TX4 a).2.1 ≠ (TX4 b).2.1 := by decide +kernel
theorem tyX4_ok : ∀ k, k < 4 → parseFieldDescriptor (TX4 k).2.2.1 = some (tyX4 k) := by decide +kernel
abbrev cX4_init : ByteArray := prog_6_method_1_code
def yX4_init : MethodName := ⟨RX4, "<init>", "()V"⟩
abbrev cX4_size : ByteArray := prog_6_method_2_code
def yX4_size : MethodName := ⟨RX4, "size", "()I"⟩
abbrev cX4_isFull : ByteArray := prog_6_method_3_code
def yX4_isFull : MethodName := ⟨RX4, "isFull", "()Z"⟩
abbrev cX4_has : ByteArray := prog_6_method_4_code
def yX4_has : MethodName := ⟨RX4, "has", "(I)Z"⟩
abbrev cX4_columnOf : ByteArray := prog_6_method_5_code
def yX4_columnOf : MethodName := ⟨RX4, "columnOf", "(I)I"⟩
abbrev cX4_valueOf : ByteArray := prog_6_method_6_code
def yX4_valueOf : MethodName := ⟨RX4, "valueOf", "(I)I"⟩
abbrev cX4_directionOf : ByteArray := prog_6_method_7_code
def yX4_directionOf : MethodName := ⟨RX4, "directionOf", "(I)I"⟩
abbrev cX4_allows : ByteArray := prog_6_method_8_code
def yX4_allows : MethodName := ⟨RX4, "allows", "(II)Z"⟩
abbrev cX4_add : ByteArray := prog_6_method_9_code
def yX4_add : MethodName := ⟨RX4, "add", "(III)V"⟩
abbrev cX4_remove : ByteArray := prog_6_method_10_code
def yX4_remove : MethodName := ⟨RX4, "remove", "(I)V"⟩
abbrev cX4_clear : ByteArray := prog_6_method_11_code
def yX4_clear : MethodName := ⟨RX4, "clear", "()V"⟩
abbrev cX4_copyFrom : ByteArray := prog_6_method_12_code
def yX4_copyFrom : MethodName := ⟨RX4, "copyFrom", "(LPackedTable$Filter;)V"⟩
def RX5 : String := "PackedTable$History"
def TX5 : u_T := fun k => match k with
  | 0 => ("PackedTable$History", "ring", "[LPackedTable$Store;", true)
  | 1 => ("PackedTable$History", "next", "I", false)
  | _ => ("PackedTable$History", "size", "I", false)
def tyX5 : Nat → FieldType := fun k => match k with
  | 0 => .array (.object "PackedTable$Store")
  | 1 => .int
  | _ => .int
theorem nmX5 : ∀ a, a < 3 → ∀ b, b < 3 → a ≠ b → (TX5 a).2.1 ≠ (TX5 b).2.1 := by decide +kernel
theorem tyX5_ok : ∀ k, k < 3 → parseFieldDescriptor (TX5 k).2.2.1 = some (tyX5 k) := by decide +kernel
abbrev cX5_init : ByteArray := prog_7_method_1_code
def yX5_init : MethodName := ⟨RX5, "<init>", "()V"⟩
abbrev cX5_size : ByteArray := prog_7_method_2_code
def yX5_size : MethodName := ⟨RX5, "size", "()I"⟩
abbrev cX5_clear : ByteArray := prog_7_method_3_code
def yX5_clear : MethodName := ⟨RX5, "clear", "()V"⟩
abbrev cX5_record : ByteArray := prog_7_method_4_code
def yX5_record : MethodName := ⟨RX5, "record", "(LPackedTable$Store;)V"⟩
abbrev cX5_takeBack : ByteArray := prog_7_method_5_code
def yX5_takeBack : MethodName := ⟨RX5, "takeBack", "(LPackedTable$Store;)V"⟩
def RX6 : String := "PackedTable$Input"
def TX6 : u_T := fun k => match k with
  | 0 => ("PackedTable$Input", "bytes", "[B", true)
  | 1 => ("PackedTable$Input", "size", "I", false)
  | 2 => ("PackedTable$Input", "textLength", "I", false)
  | 3 => ("PackedTable$Input", "kind", "I", false)
  | 4 => ("PackedTable$Input", "start", "I", false)
  | 5 => ("PackedTable$Input", "end", "I", false)
  | _ => ("PackedTable$Input", "number", "I", false)
def tyX6 : Nat → FieldType := fun k => match k with
  | 0 => .array .byte
  | 1 => .int
  | 2 => .int
  | 3 => .int
  | 4 => .int
  | 5 => .int
  | _ => .int
theorem nmX6 : ∀ a, a < 7 → ∀ b, b < 7 → a ≠ b → (TX6 a).2.1 ≠ (TX6 b).2.1 := by decide +kernel
theorem tyX6_ok : ∀ k, k < 7 → parseFieldDescriptor (TX6 k).2.2.1 = some (tyX6 k) := by decide +kernel
abbrev cX6_init : ByteArray := prog_8_method_1_code
def yX6_init : MethodName := ⟨RX6, "<init>", "()V"⟩
abbrev cX6_size : ByteArray := prog_8_method_2_code
def yX6_size : MethodName := ⟨RX6, "size", "()I"⟩
abbrev cX6_append : ByteArray := prog_8_method_3_code
def yX6_append : MethodName := ⟨RX6, "append", "(I)V"⟩
abbrev cX6_clear : ByteArray := prog_8_method_4_code
def yX6_clear : MethodName := ⟨RX6, "clear", "()V"⟩
abbrev cX6_startText : ByteArray := prog_8_method_5_code
def yX6_startText : MethodName := ⟨RX6, "startText", "(I)V"⟩
abbrev cX6_next : ByteArray := prog_8_method_6_code
def yX6_next : MethodName := ⟨RX6, "next", "()V"⟩
abbrev cX6_kindAt : ByteArray := prog_8_method_7_code
def yX6_kindAt : MethodName := ⟨RX6, "kindAt", "(I)I"⟩
abbrev cX6_offset : ByteArray := prog_8_method_8_code
def yX6_offset : MethodName := ⟨RX6, "offset", "()I"⟩
abbrev cX6_isAtEnd : ByteArray := prog_8_method_9_code
def yX6_isAtEnd : MethodName := ⟨RX6, "isAtEnd", "()Z"⟩
abbrev cX6_isNumber : ByteArray := prog_8_method_10_code
def yX6_isNumber : MethodName := ⟨RX6, "isNumber", "()Z"⟩
abbrev cX6_number : ByteArray := prog_8_method_11_code
def yX6_number : MethodName := ⟨RX6, "number", "()I"⟩
abbrev cX6_isSemicolon : ByteArray := prog_8_method_12_code
def yX6_isSemicolon : MethodName := ⟨RX6, "isSemicolon", "()Z"⟩
abbrev cX6_isMinus : ByteArray := prog_8_method_13_code
def yX6_isMinus : MethodName := ⟨RX6, "isMinus", "()Z"⟩
abbrev cX6_isWord : ByteArray := prog_8_method_14_code
def yX6_isWord : MethodName := ⟨RX6, "isWord", "(Ljava/lang/String;)Z"⟩
def RX7 : String := "PackedTable$Kind"
def TX7 : u_T := fun k => match k with
  | _ => ("", "", "", false)
def tyX7 : Nat → FieldType := fun k => match k with
  | _ => .int
theorem nmX7 : ∀ a, a < 0 → ∀ b, b < 0 → a ≠ b → (TX7 a).2.1 ≠ (TX7 b).2.1 := by decide +kernel
theorem tyX7_ok : ∀ k, k < 0 → parseFieldDescriptor (TX7 k).2.2.1 = some (tyX7 k) := by decide +kernel
def RX8 : String := "PackedTable$Packer"
def TX8 : u_T := fun k => match k with
  | 0 => ("PackedTable$Packer", "words", "[J", true)
  | _ => ("PackedTable$Packer", "width", "I", false)
def tyX8 : Nat → FieldType := fun k => match k with
  | 0 => .array .long
  | _ => .int
theorem nmX8 : ∀ a, a < 2 → ∀ b, b < 2 → a ≠ b → (TX8 a).2.1 ≠ (TX8 b).2.1 := by decide +kernel
theorem tyX8_ok : ∀ k, k < 2 → parseFieldDescriptor (TX8 k).2.2.1 = some (tyX8 k) := by decide +kernel
abbrev cX8_init : ByteArray := prog_10_method_1_code
def yX8_init : MethodName := ⟨RX8, "<init>", "()V"⟩
abbrev cX8_pack : ByteArray := prog_10_method_2_code
def yX8_pack : MethodName := ⟨RX8, "pack", "(LPackedTable$Column;)V"⟩
abbrev cX8_packCode : ByteArray := prog_10_method_3_code
def yX8_packCode : MethodName := ⟨RX8, "packCode", "(IJ)V"⟩
abbrev cX8_unpack : ByteArray := prog_10_method_4_code
def yX8_unpack : MethodName := ⟨RX8, "unpack", "(I)I"⟩
abbrev cX8_word : ByteArray := prog_10_method_5_code
def yX8_word : MethodName := ⟨RX8, "word", "(I)J"⟩
def RX9 : String := "PackedTable$Parser"
def TX9 : u_T := fun k => match k with
  | 0 => ("PackedTable$Parser", "input", "LPackedTable$Input;", true)
  | 1 => ("PackedTable$Parser", "error", "I", false)
  | 2 => ("PackedTable$Parser", "offset", "I", false)
  | 3 => ("PackedTable$Parser", "number", "I", false)
  | 4 => ("PackedTable$Parser", "columns", "I", false)
  | 5 => ("PackedTable$Parser", "rows", "I", false)
  | 6 => ("PackedTable$Parser", "cells", "[I", true)
  | 7 => ("PackedTable$Parser", "commands", "[LPackedTable$Command;", true)
  | _ => ("PackedTable$Parser", "commandCount", "I", false)
def tyX9 : Nat → FieldType := fun k => match k with
  | 0 => .object "PackedTable$Input"
  | 1 => .int
  | 2 => .int
  | 3 => .int
  | 4 => .int
  | 5 => .int
  | 6 => .array .int
  | 7 => .array (.object "PackedTable$Command")
  | _ => .int
theorem nmX9 : ∀ a, a < 9 → ∀ b, b < 9 → a ≠ b → (TX9 a).2.1 ≠ (TX9 b).2.1 := by decide +kernel
theorem tyX9_ok : ∀ k, k < 9 → parseFieldDescriptor (TX9 k).2.2.1 = some (tyX9 k) := by decide +kernel
abbrev cX9_init : ByteArray := prog_11_method_1_code
def yX9_init : MethodName := ⟨RX9, "<init>", "(LPackedTable$Input;)V"⟩
abbrev cX9_columns : ByteArray := prog_11_method_4_code
def yX9_columns : MethodName := ⟨RX9, "columns", "()I"⟩
abbrev cX9_rows : ByteArray := prog_11_method_5_code
def yX9_rows : MethodName := ⟨RX9, "rows", "()I"⟩
abbrev cX9_cells : ByteArray := prog_11_method_6_code
def yX9_cells : MethodName := ⟨RX9, "cells", "()[I"⟩
abbrev cX9_readTable : ByteArray := prog_11_method_9_code
def yX9_readTable : MethodName := ⟨RX9, "readTable", "(I)Z"⟩
abbrev cX9_readRow : ByteArray := prog_11_method_10_code
def yX9_readRow : MethodName := ⟨RX9, "readRow", "(II)Z"⟩
abbrev cX9_start : ByteArray := prog_11_method_12_code
def yX9_start : MethodName := ⟨RX9, "start", "(I)V"⟩
abbrev cX9_fail : ByteArray := prog_11_method_13_code
def yX9_fail : MethodName := ⟨RX9, "fail", "(I)Z"⟩
abbrev cX9_takeHead : ByteArray := prog_11_method_14_code
def yX9_takeHead : MethodName := ⟨RX9, "takeHead", "()Z"⟩
abbrev cX9_takeTableRow : ByteArray := prog_11_method_15_code
def yX9_takeTableRow : MethodName := ⟨RX9, "takeTableRow", "()Z"⟩
abbrev cX9_failAtExtraRow : ByteArray := prog_11_method_16_code
def yX9_failAtExtraRow : MethodName := ⟨RX9, "failAtExtraRow", "()Z"⟩
abbrev cX9_takeRow : ByteArray := prog_11_method_17_code
def yX9_takeRow : MethodName := ⟨RX9, "takeRow", "([II)Z"⟩
abbrev cX9_takeInteger : ByteArray := prog_11_method_25_code
def yX9_takeInteger : MethodName := ⟨RX9, "takeInteger", "()Z"⟩
abbrev cX9_takeNumber : ByteArray := prog_11_method_26_code
def yX9_takeNumber : MethodName := ⟨RX9, "takeNumber", "(II)Z"⟩
abbrev cX9_takeWord : ByteArray := prog_11_method_27_code
def yX9_takeWord : MethodName := ⟨RX9, "takeWord", "(Ljava/lang/String;)Z"⟩
abbrev cX9_takeSemicolon : ByteArray := prog_11_method_28_code
def yX9_takeSemicolon : MethodName := ⟨RX9, "takeSemicolon", "()Z"⟩
abbrev cX9_takeEnd : ByteArray := prog_11_method_29_code
def yX9_takeEnd : MethodName := ⟨RX9, "takeEnd", "()Z"⟩
def RX10 : String := "PackedTable$RowOrder"
def TX10 : u_T := fun k => match k with
  | 0 => ("PackedTable$RowOrder", "sources", "[I", true)
  | 1 => ("PackedTable$RowOrder", "moved", "[I", true)
  | _ => ("PackedTable$RowOrder", "length", "I", false)
def tyX10 : Nat → FieldType := fun k => match k with
  | 0 => .array .int
  | 1 => .array .int
  | _ => .int
theorem nmX10 : ∀ a, a < 3 → ∀ b, b < 3 → a ≠ b → (TX10 a).2.1 ≠ (TX10 b).2.1 := by decide +kernel
theorem tyX10_ok : ∀ k, k < 3 → parseFieldDescriptor (TX10 k).2.2.1 = some (tyX10 k) := by decide +kernel
abbrev cX10_init : ByteArray := prog_12_method_1_code
def yX10_init : MethodName := ⟨RX10, "<init>", "()V"⟩
abbrev cX10_reset : ByteArray := prog_12_method_2_code
def yX10_reset : MethodName := ⟨RX10, "reset", "(I)V"⟩
abbrev cX10_sortBy : ByteArray := prog_12_method_3_code
def yX10_sortBy : MethodName := ⟨RX10, "sortBy", "(LPackedTable$Column;Z)V"⟩
abbrev cX10_isWrong : ByteArray := prog_12_method_4_code
def yX10_isWrong : MethodName := ⟨RX10, "isWrong", "(IIZ)Z"⟩
abbrev cX10_source : ByteArray := prog_12_method_5_code
def yX10_source : MethodName := ⟨RX10, "source", "(I)I"⟩
abbrev cX10_applyTo : ByteArray := prog_12_method_6_code
def yX10_applyTo : MethodName := ⟨RX10, "applyTo", "([I)V"⟩
def RX11 : String := "PackedTable$Store"
def TX11 : u_T := fun k => match k with
  | 0 => ("PackedTable$Store", "table", "[LPackedTable$Column;", true)
  | 1 => ("PackedTable$Store", "columns", "I", false)
  | _ => ("PackedTable$Store", "filter", "LPackedTable$Filter;", true)
def tyX11 : Nat → FieldType := fun k => match k with
  | 0 => .array (.object "PackedTable$Column")
  | 1 => .int
  | _ => .object "PackedTable$Filter"
theorem nmX11 : ∀ a, a < 3 → ∀ b, b < 3 → a ≠ b → (TX11 a).2.1 ≠ (TX11 b).2.1 := by decide +kernel
theorem tyX11_ok : ∀ k, k < 3 → parseFieldDescriptor (TX11 k).2.2.1 = some (tyX11 k) := by decide +kernel
abbrev cX11_init : ByteArray := prog_13_method_1_code
def yX11_init : MethodName := ⟨RX11, "<init>", "()V"⟩
abbrev cX11_columns : ByteArray := prog_13_method_2_code
def yX11_columns : MethodName := ⟨RX11, "columns", "()I"⟩
abbrev cX11_rows : ByteArray := prog_13_method_3_code
def yX11_rows : MethodName := ⟨RX11, "rows", "()I"⟩
abbrev cX11_column : ByteArray := prog_13_method_4_code
def yX11_column : MethodName := ⟨RX11, "column", "(I)LPackedTable$Column;"⟩
abbrev cX11_dictionary : ByteArray := prog_13_method_5_code
def yX11_dictionary : MethodName := ⟨RX11, "dictionary", "(I)LPackedTable$Dictionary;"⟩
abbrev cX11_filter : ByteArray := prog_13_method_6_code
def yX11_filter : MethodName := ⟨RX11, "filter", "()LPackedTable$Filter;"⟩
abbrev cX11_isFull : ByteArray := prog_13_method_7_code
def yX11_isFull : MethodName := ⟨RX11, "isFull", "()Z"⟩
abbrev cX11_hasRow : ByteArray := prog_13_method_8_code
def yX11_hasRow : MethodName := ⟨RX11, "hasRow", "(I)Z"⟩
abbrev cX11_replace : ByteArray := prog_13_method_9_code
def yX11_replace : MethodName := ⟨RX11, "replace", "(II[I)V"⟩
abbrev cX11_appendRow : ByteArray := prog_13_method_10_code
def yX11_appendRow : MethodName := ⟨RX11, "appendRow", "([II)V"⟩
abbrev cX11_deleteRow : ByteArray := prog_13_method_11_code
def yX11_deleteRow : MethodName := ⟨RX11, "deleteRow", "(I)V"⟩
abbrev cX11_deleteSelectedRows : ByteArray := prog_13_method_12_code
def yX11_deleteSelectedRows : MethodName := ⟨RX11, "deleteSelectedRows", "()I"⟩
abbrev cX11_moveRow : ByteArray := prog_13_method_13_code
def yX11_moveRow : MethodName := ⟨RX11, "moveRow", "(II)V"⟩
abbrev cX11_shorten : ByteArray := prog_13_method_14_code
def yX11_shorten : MethodName := ⟨RX11, "shorten", "(I)V"⟩
abbrev cX11_reorder : ByteArray := prog_13_method_15_code
def yX11_reorder : MethodName := ⟨RX11, "reorder", "(LPackedTable$RowOrder;)V"⟩
abbrev cX11_fulfills : ByteArray := prog_13_method_16_code
def yX11_fulfills : MethodName := ⟨RX11, "fulfills", "(II)Z"⟩
abbrev cX11_rowsFulfilling : ByteArray := prog_13_method_17_code
def yX11_rowsFulfilling : MethodName := ⟨RX11, "rowsFulfilling", "(I)I"⟩
abbrev cX11_firstRejecting : ByteArray := prog_13_method_18_code
def yX11_firstRejecting : MethodName := ⟨RX11, "firstRejecting", "(I)I"⟩
abbrev cX11_selects : ByteArray := prog_13_method_19_code
def yX11_selects : MethodName := ⟨RX11, "selects", "(I)Z"⟩
abbrev cX11_selectedRows : ByteArray := prog_13_method_20_code
def yX11_selectedRows : MethodName := ⟨RX11, "selectedRows", "()I"⟩
abbrev cX11_lowerEnd : ByteArray := prog_13_method_21_code
def yX11_lowerEnd : MethodName := ⟨RX11, "lowerEnd", "(I)I"⟩
abbrev cX11_upperEnd : ByteArray := prog_13_method_22_code
def yX11_upperEnd : MethodName := ⟨RX11, "upperEnd", "(I)I"⟩
abbrev cX11_selectsByCode : ByteArray := prog_13_method_23_code
def yX11_selectsByCode : MethodName := ⟨RX11, "selectsByCode", "(I)Z"⟩
abbrev cX11_copyFrom : ByteArray := prog_13_method_24_code
def yX11_copyFrom : MethodName := ⟨RX11, "copyFrom", "(LPackedTable$Store;)V"⟩
def RX12 : String := "PackedTable"
def TX12 : u_T := fun k => match k with
  | 0 => ("PackedTable", "store", "LPackedTable$Store;", true)
  | 1 => ("PackedTable", "snapshot", "LPackedTable$Store;", true)
  | 2 => ("PackedTable", "hasSnapshot", "Z", false)
  | 3 => ("PackedTable", "history", "LPackedTable$History;", true)
  | 4 => ("PackedTable", "input", "LPackedTable$Input;", true)
  | 5 => ("PackedTable", "parser", "LPackedTable$Parser;", true)
  | 6 => ("PackedTable", "output", "[B", true)
  | 7 => ("PackedTable", "outputLength", "I", false)
  | 8 => ("PackedTable", "order", "LPackedTable$RowOrder;", true)
  | 9 => ("PackedTable", "seen", "LPackedTable$Dictionary;", true)
  | _ => ("PackedTable", "packer", "LPackedTable$Packer;", true)
def tyX12 : Nat → FieldType := fun k => match k with
  | 0 => .object "PackedTable$Store"
  | 1 => .object "PackedTable$Store"
  | 2 => .boolean
  | 3 => .object "PackedTable$History"
  | 4 => .object "PackedTable$Input"
  | 5 => .object "PackedTable$Parser"
  | 6 => .array .byte
  | 7 => .int
  | 8 => .object "PackedTable$RowOrder"
  | 9 => .object "PackedTable$Dictionary"
  | _ => .object "PackedTable$Packer"
theorem nmX12 : ∀ a, a < 11 → ∀ b, b < 11 → a ≠ b → (TX12 a).2.1 ≠ (TX12 b).2.1 := by decide +kernel
theorem tyX12_ok : ∀ k, k < 11 → parseFieldDescriptor (TX12 k).2.2.1 = some (tyX12 k) := by decide +kernel
abbrev cX12_init : ByteArray := prog_1_method_1_code
def yX12_init : MethodName := ⟨RX12, "<init>", "()V"⟩
abbrev cX12_appendText : ByteArray := prog_1_method_2_code
def yX12_appendText : MethodName := ⟨RX12, "appendText", "(IIIII)I"⟩
abbrev cX12_loadTable : ByteArray := prog_1_method_3_code
def yX12_loadTable : MethodName := ⟨RX12, "loadTable", "(I)I"⟩
abbrev cX12_columnCount : ByteArray := prog_1_method_6_code
def yX12_columnCount : MethodName := ⟨RX12, "columnCount", "()I"⟩
abbrev cX12_rowCount : ByteArray := prog_1_method_7_code
def yX12_rowCount : MethodName := ⟨RX12, "rowCount", "()I"⟩
abbrev cX12_value : ByteArray := prog_1_method_8_code
def yX12_value : MethodName := ⟨RX12, "value", "(II)I"⟩
abbrev cX12_code : ByteArray := prog_1_method_9_code
def yX12_code : MethodName := ⟨RX12, "code", "(II)I"⟩
abbrev cX12_dictionarySize : ByteArray := prog_1_method_10_code
def yX12_dictionarySize : MethodName := ⟨RX12, "dictionarySize", "(I)I"⟩
abbrev cX12_dictionaryValue : ByteArray := prog_1_method_11_code
def yX12_dictionaryValue : MethodName := ⟨RX12, "dictionaryValue", "(II)I"⟩
abbrev cX12_findCode : ByteArray := prog_1_method_12_code
def yX12_findCode : MethodName := ⟨RX12, "findCode", "(II)I"⟩
abbrev cX12_staleCount : ByteArray := prog_1_method_13_code
def yX12_staleCount : MethodName := ⟨RX12, "staleCount", "(I)I"⟩
abbrev cX12_frequency : ByteArray := prog_1_method_14_code
def yX12_frequency : MethodName := ⟨RX12, "frequency", "(II)I"⟩
abbrev cX12_commonestCode : ByteArray := prog_1_method_15_code
def yX12_commonestCode : MethodName := ⟨RX12, "commonestCode", "(I)I"⟩
abbrev cX12_bitWidth : ByteArray := prog_1_method_16_code
def yX12_bitWidth : MethodName := ⟨RX12, "bitWidth", "(I)I"⟩
abbrev cX12_wordCount : ByteArray := prog_1_method_17_code
def yX12_wordCount : MethodName := ⟨RX12, "wordCount", "(I)I"⟩
abbrev cX12_packedWord : ByteArray := prog_1_method_18_code
def yX12_packedWord : MethodName := ⟨RX12, "packedWord", "(II)J"⟩
abbrev cX12_packedBits : ByteArray := prog_1_method_19_code
def yX12_packedBits : MethodName := ⟨RX12, "packedBits", "()I"⟩
abbrev cX12_runCount : ByteArray := prog_1_method_21_code
def yX12_runCount : MethodName := ⟨RX12, "runCount", "(I)I"⟩
abbrev cX12_longestRun : ByteArray := prog_1_method_22_code
def yX12_longestRun : MethodName := ⟨RX12, "longestRun", "(I)I"⟩
abbrev cX12_isSorted : ByteArray := prog_1_method_23_code
def yX12_isSorted : MethodName := ⟨RX12, "isSorted", "(I)Z"⟩
abbrev cX12_conditionCount : ByteArray := prog_1_method_24_code
def yX12_conditionCount : MethodName := ⟨RX12, "conditionCount", "()I"⟩
abbrev cX12_conditionColumn : ByteArray := prog_1_method_25_code
def yX12_conditionColumn : MethodName := ⟨RX12, "conditionColumn", "(I)I"⟩
abbrev cX12_conditionValue : ByteArray := prog_1_method_26_code
def yX12_conditionValue : MethodName := ⟨RX12, "conditionValue", "(I)I"⟩
abbrev cX12_conditionDirection : ByteArray := prog_1_method_27_code
def yX12_conditionDirection : MethodName := ⟨RX12, "conditionDirection", "(I)I"⟩
abbrev cX12_lowerCode : ByteArray := prog_1_method_28_code
def yX12_lowerCode : MethodName := ⟨RX12, "lowerCode", "(I)I"⟩
abbrev cX12_upperCode : ByteArray := prog_1_method_29_code
def yX12_upperCode : MethodName := ⟨RX12, "upperCode", "(I)I"⟩
abbrev cX12_matches : ByteArray := prog_1_method_30_code
def yX12_matches : MethodName := ⟨RX12, "matches", "(I)I"⟩
abbrev cX12_strictestCondition : ByteArray := prog_1_method_31_code
def yX12_strictestCondition : MethodName := ⟨RX12, "strictestCondition", "()I"⟩
abbrev cX12_isSelected : ByteArray := prog_1_method_32_code
def yX12_isSelected : MethodName := ⟨RX12, "isSelected", "(I)Z"⟩
abbrev cX12_selectedCount : ByteArray := prog_1_method_33_code
def yX12_selectedCount : MethodName := ⟨RX12, "selectedCount", "()I"⟩
abbrev cX12_selectedRow : ByteArray := prog_1_method_34_code
def yX12_selectedRow : MethodName := ⟨RX12, "selectedRow", "(I)I"⟩
abbrev cX12_rejectedBy : ByteArray := prog_1_method_35_code
def yX12_rejectedBy : MethodName := ⟨RX12, "rejectedBy", "(I)I"⟩
abbrev cX12_sumSelected : ByteArray := prog_1_method_36_code
def yX12_sumSelected : MethodName := ⟨RX12, "sumSelected", "(I)J"⟩
abbrev cX12_smallestSelected : ByteArray := prog_1_method_37_code
def yX12_smallestSelected : MethodName := ⟨RX12, "smallestSelected", "(I)I"⟩
abbrev cX12_greatestSelected : ByteArray := prog_1_method_38_code
def yX12_greatestSelected : MethodName := ⟨RX12, "greatestSelected", "(I)I"⟩
abbrev cX12_distinctSelected : ByteArray := prog_1_method_39_code
def yX12_distinctSelected : MethodName := ⟨RX12, "distinctSelected", "(I)I"⟩
abbrev cX12_bitWidthWith : ByteArray := prog_1_method_42_code
def yX12_bitWidthWith : MethodName := ⟨RX12, "bitWidthWith", "(II)I"⟩
abbrev cX12_bitWidthCompacted : ByteArray := prog_1_method_43_code
def yX12_bitWidthCompacted : MethodName := ⟨RX12, "bitWidthCompacted", "(I)I"⟩
abbrev cX12_runsIfSorted : ByteArray := prog_1_method_44_code
def yX12_runsIfSorted : MethodName := ⟨RX12, "runsIfSorted", "(I)I"⟩
abbrev cX12_bestSortColumn : ByteArray := prog_1_method_45_code
def yX12_bestSortColumn : MethodName := ⟨RX12, "bestSortColumn", "()I"⟩
abbrev cX12_gap : ByteArray := prog_1_method_46_code
def yX12_gap : MethodName := ⟨RX12, "gap", "()I"⟩
abbrev cX12_addRow : ByteArray := prog_1_method_47_code
def yX12_addRow : MethodName := ⟨RX12, "addRow", "(I)I"⟩
abbrev cX12_removeRow : ByteArray := prog_1_method_48_code
def yX12_removeRow : MethodName := ⟨RX12, "removeRow", "(I)I"⟩
abbrev cX12_setValue : ByteArray := prog_1_method_49_code
def yX12_setValue : MethodName := ⟨RX12, "setValue", "(III)I"⟩
abbrev cX12_sort : ByteArray := prog_1_method_50_code
def yX12_sort : MethodName := ⟨RX12, "sort", "(IZ)I"⟩
abbrev cX12_addLess : ByteArray := prog_1_method_51_code
def yX12_addLess : MethodName := ⟨RX12, "addLess", "(II)I"⟩
abbrev cX12_addEqual : ByteArray := prog_1_method_52_code
def yX12_addEqual : MethodName := ⟨RX12, "addEqual", "(II)I"⟩
abbrev cX12_addGreater : ByteArray := prog_1_method_53_code
def yX12_addGreater : MethodName := ⟨RX12, "addGreater", "(II)I"⟩
abbrev cX12_removeCondition : ByteArray := prog_1_method_54_code
def yX12_removeCondition : MethodName := ⟨RX12, "removeCondition", "(I)I"⟩
abbrev cX12_deleteSelected : ByteArray := prog_1_method_55_code
def yX12_deleteSelected : MethodName := ⟨RX12, "deleteSelected", "()I"⟩
abbrev cX12_compact : ByteArray := prog_1_method_56_code
def yX12_compact : MethodName := ⟨RX12, "compact", "(I)I"⟩
abbrev cX12_undoableCount : ByteArray := prog_1_method_60_code
def yX12_undoableCount : MethodName := ⟨RX12, "undoableCount", "()I"⟩
abbrev cX12_undo : ByteArray := prog_1_method_61_code
def yX12_undo : MethodName := ⟨RX12, "undo", "()I"⟩
abbrev cX12_saveSnapshot : ByteArray := prog_1_method_62_code
def yX12_saveSnapshot : MethodName := ⟨RX12, "saveSnapshot", "()V"⟩
abbrev cX12_restoreSnapshot : ByteArray := prog_1_method_63_code
def yX12_restoreSnapshot : MethodName := ⟨RX12, "restoreSnapshot", "()I"⟩
abbrev cX12_checkLength : ByteArray := prog_1_method_64_code
def yX12_checkLength : MethodName := ⟨RX12, "checkLength", "(I)V"⟩
abbrev cX12_checkColumn : ByteArray := prog_1_method_65_code
def yX12_checkColumn : MethodName := ⟨RX12, "checkColumn", "(I)V"⟩
abbrev cX12_checkRow : ByteArray := prog_1_method_66_code
def yX12_checkRow : MethodName := ⟨RX12, "checkRow", "(I)V"⟩
abbrev cX12_checkCode : ByteArray := prog_1_method_67_code
def yX12_checkCode : MethodName := ⟨RX12, "checkCode", "(II)V"⟩
abbrev cX12_checkCondition : ByteArray := prog_1_method_68_code
def yX12_checkCondition : MethodName := ⟨RX12, "checkCondition", "(I)V"⟩
abbrev cX12_checkValue : ByteArray := prog_1_method_69_code
def yX12_checkValue : MethodName := ⟨RX12, "checkValue", "(I)V"⟩
abbrev cX12_checkAnySeen : ByteArray := prog_1_method_70_code
def yX12_checkAnySeen : MethodName := ⟨RX12, "checkAnySeen", "()V"⟩
abbrev cX12_wordsOf : ByteArray := prog_1_method_71_code
def yX12_wordsOf : MethodName := ⟨RX12, "wordsOf", "(I)I"⟩
abbrev cX12_sumOfSelected : ByteArray := prog_1_method_72_code
def yX12_sumOfSelected : MethodName := ⟨RX12, "sumOfSelected", "(I)J"⟩
abbrev cX12_collectSelected : ByteArray := prog_1_method_73_code
def yX12_collectSelected : MethodName := ⟨RX12, "collectSelected", "(I)V"⟩
abbrev cX12_runsAfterSorting : ByteArray := prog_1_method_74_code
def yX12_runsAfterSorting : MethodName := ⟨RX12, "runsAfterSorting", "(I)I"⟩
abbrev cX12_packingDifferences : ByteArray := prog_1_method_75_code
def yX12_packingDifferences : MethodName := ⟨RX12, "packingDifferences", "(LPackedTable$Column;)I"⟩
abbrev cX12_addCondition : ByteArray := prog_1_method_76_code
def yX12_addCondition : MethodName := ⟨RX12, "addCondition", "(III)I"⟩
abbrev cX12_sortRows : ByteArray := prog_1_method_77_code
def yX12_sortRows : MethodName := ⟨RX12, "sortRows", "(IZ)V"⟩
def RX13 : String := "PackedTableModel"
def TX13 : u_T := fun k => match k with
  | _ => ("", "", "", false)
def tyX13 : Nat → FieldType := fun k => match k with
  | _ => .int
theorem nmX13 : ∀ a, a < 0 → ∀ b, b < 0 → a ≠ b → (TX13 a).2.1 ≠ (TX13 b).2.1 := by decide +kernel
theorem tyX13_ok : ∀ k, k < 0 → parseFieldDescriptor (TX13 k).2.2.1 = some (tyX13 k) := by decide +kernel
def RJx145de : String := "java/io/Serializable"
def TJx145de : u_T := fun k => match k with
  | _ => ("", "", "", false)
def tyJx145de : Nat → FieldType := fun k => match k with
  | _ => .int
theorem nmJx145de : ∀ a, a < 0 → ∀ b, b < 0 → a ≠ b → (TJx145de a).2.1 ≠ (TJx145de b).2.1 := by decide +kernel
theorem tyJx145de_ok : ∀ k, k < 0 → parseFieldDescriptor (TJx145de k).2.2.1 = some (tyJx145de k) := by decide +kernel
def RJ5 : String := "java/lang/AbstractStringBuilder"
def TJ5 : u_T := fun k => match k with
  | _ => ("", "", "", false)
def tyJ5 : Nat → FieldType := fun k => match k with
  | _ => .int
theorem nmJ5 : ∀ a, a < 0 → ∀ b, b < 0 → a ≠ b → (TJ5 a).2.1 ≠ (TJ5 b).2.1 := by decide +kernel
theorem tyJ5_ok : ∀ k, k < 0 → parseFieldDescriptor (TJ5 k).2.2.1 = some (tyJ5 k) := by decide +kernel
abbrev cJ5_init_d00df : ByteArray := prog_16_method_2_code
def yJ5_init_d00df : MethodName := ⟨RJ5, "<init>", "(I)V"⟩
abbrev cJ5_init_a7421 : ByteArray := prog_16_method_3_code
def yJ5_init_a7421 : MethodName := ⟨RJ5, "<init>", "(Ljava/lang/String;)V"⟩
abbrev cJ5_length_8abf5 : ByteArray := prog_16_method_6_code
def yJ5_length_8abf5 : MethodName := ⟨RJ5, "length", "()I"⟩
abbrev cJ5_ensureCapacityInternal_d00df : ByteArray := prog_16_method_9_code
def yJ5_ensureCapacityInternal_d00df : MethodName := ⟨RJ5, "ensureCapacityInternal", "(I)V"⟩
abbrev cJ5_newCapacity_0f7a4 : ByteArray := prog_16_method_10_code
def yJ5_newCapacity_0f7a4 : MethodName := ⟨RJ5, "newCapacity", "(I)I"⟩
abbrev cJ5_inflate_da8c8 : ByteArray := prog_16_method_11_code
def yJ5_inflate_da8c8 : MethodName := ⟨RJ5, "inflate", "()V"⟩
abbrev cJ5_append_cf1ce : ByteArray := prog_16_method_22_code
def yJ5_append_cf1ce : MethodName := ⟨RJ5, "append", "(Ljava/lang/String;)Ljava/lang/AbstractStringBuilder;"⟩
abbrev cJ5_appendNull_278bc : ByteArray := prog_16_method_26_code
def yJ5_appendNull_278bc : MethodName := ⟨RJ5, "appendNull", "()Ljava/lang/AbstractStringBuilder;"⟩
abbrev cJ5_append_3fe6f : ByteArray := prog_16_method_31_code
def yJ5_append_3fe6f : MethodName := ⟨RJ5, "append", "(C)Ljava/lang/AbstractStringBuilder;"⟩
abbrev cJ5_append_c97b9 : ByteArray := prog_16_method_32_code
def yJ5_append_c97b9 : MethodName := ⟨RJ5, "append", "(I)Ljava/lang/AbstractStringBuilder;"⟩
abbrev cJ5_getValue_6d5f1 : ByteArray := prog_16_method_64_code
def yJ5_getValue_6d5f1 : MethodName := ⟨RJ5, "getValue", "()[B"⟩
abbrev cJ5_isLatin1_aae02 : ByteArray := prog_16_method_68_code
def yJ5_isLatin1_aae02 : MethodName := ⟨RJ5, "isLatin1", "()Z"⟩
abbrev cJ5_inflateIfNeededFor_a7421 : ByteArray := prog_16_method_71_code
def yJ5_inflateIfNeededFor_a7421 : MethodName := ⟨RJ5, "inflateIfNeededFor", "(Ljava/lang/String;)V"⟩
abbrev cJ5_putStringAt_47b60 : ByteArray := prog_16_method_73_code
def yJ5_putStringAt_47b60 : MethodName := ⟨RJ5, "putStringAt", "(ILjava/lang/String;)V"⟩
def RJx2cfe8 : String := "java/lang/Appendable"
def TJx2cfe8 : u_T := fun k => match k with
  | _ => ("", "", "", false)
def tyJx2cfe8 : Nat → FieldType := fun k => match k with
  | _ => .int
theorem nmJx2cfe8 : ∀ a, a < 0 → ∀ b, b < 0 → a ≠ b → (TJx2cfe8 a).2.1 ≠ (TJx2cfe8 b).2.1 := by decide +kernel
theorem tyJx2cfe8_ok : ∀ k, k < 0 → parseFieldDescriptor (TJx2cfe8 k).2.2.1 = some (tyJx2cfe8 k) := by decide +kernel
def RJx9f9b0 : String := "java/lang/CharSequence"
def TJx9f9b0 : u_T := fun k => match k with
  | _ => ("", "", "", false)
def tyJx9f9b0 : Nat → FieldType := fun k => match k with
  | _ => .int
theorem nmJx9f9b0 : ∀ a, a < 0 → ∀ b, b < 0 → a ≠ b → (TJx9f9b0 a).2.1 ≠ (TJx9f9b0 b).2.1 := by decide +kernel
theorem tyJx9f9b0_ok : ∀ k, k < 0 → parseFieldDescriptor (TJx9f9b0 k).2.2.1 = some (tyJx9f9b0 k) := by decide +kernel
def RJx8e188 : String := "java/lang/Cloneable"
def TJx8e188 : u_T := fun k => match k with
  | _ => ("", "", "", false)
def tyJx8e188 : Nat → FieldType := fun k => match k with
  | _ => .int
theorem nmJx8e188 : ∀ a, a < 0 → ∀ b, b < 0 → a ≠ b → (TJx8e188 a).2.1 ≠ (TJx8e188 b).2.1 := by decide +kernel
theorem tyJx8e188_ok : ∀ k, k < 0 → parseFieldDescriptor (TJx8e188 k).2.2.1 = some (tyJx8e188 k) := by decide +kernel
def RJxb160c : String := "java/lang/Comparable"
def TJxb160c : u_T := fun k => match k with
  | _ => ("", "", "", false)
def tyJxb160c : Nat → FieldType := fun k => match k with
  | _ => .int
theorem nmJxb160c : ∀ a, a < 0 → ∀ b, b < 0 → a ≠ b → (TJxb160c a).2.1 ≠ (TJxb160c b).2.1 := by decide +kernel
theorem tyJxb160c_ok : ∀ k, k < 0 → parseFieldDescriptor (TJxb160c k).2.2.1 = some (tyJxb160c k) := by decide +kernel
def RJx29ce0 : String := "java/lang/Enum"
def TJx29ce0 : u_T := fun k => match k with
  | _ => ("", "", "", false)
def tyJx29ce0 : Nat → FieldType := fun k => match k with
  | _ => .int
theorem nmJx29ce0 : ∀ a, a < 0 → ∀ b, b < 0 → a ≠ b → (TJx29ce0 a).2.1 ≠ (TJx29ce0 b).2.1 := by decide +kernel
theorem tyJx29ce0_ok : ∀ k, k < 0 → parseFieldDescriptor (TJx29ce0 k).2.2.1 = some (tyJx29ce0 k) := by decide +kernel
def RJ6 : String := "java/lang/Integer"
def TJ6 : u_T := fun k => match k with
  | _ => ("", "", "", false)
def tyJ6 : Nat → FieldType := fun k => match k with
  | _ => .int
theorem nmJ6 : ∀ a, a < 0 → ∀ b, b < 0 → a ≠ b → (TJ6 a).2.1 ≠ (TJ6 b).2.1 := by decide +kernel
theorem tyJ6_ok : ∀ k, k < 0 → parseFieldDescriptor (TJ6 k).2.2.1 = some (tyJ6 k) := by decide +kernel
abbrev cJ6_getChars_ba4f3 : ByteArray := prog_23_method_12_code
def yJ6_getChars_ba4f3 : MethodName := ⟨RJ6, "getChars", "(II[B)I"⟩
abbrev cJ6_stringSize_0f7a4 : ByteArray := prog_23_method_13_code
def yJ6_stringSize_0f7a4 : MethodName := ⟨RJ6, "stringSize", "(I)I"⟩
abbrev cJ6_signum_0f7a4 : ByteArray := prog_23_method_56_code
def yJ6_signum_0f7a4 : MethodName := ⟨RJ6, "signum", "(I)I"⟩
def RJ9 : String := "java/lang/Math"
def TJ9 : u_T := fun k => match k with
  | _ => ("", "", "", false)
def tyJ9 : Nat → FieldType := fun k => match k with
  | _ => .int
theorem nmJ9 : ∀ a, a < 0 → ∀ b, b < 0 → a ≠ b → (TJ9 a).2.1 ≠ (TJ9 b).2.1 := by decide +kernel
theorem tyJ9_ok : ∀ k, k < 0 → parseFieldDescriptor (TJ9 k).2.2.1 = some (tyJ9 k) := by decide +kernel
abbrev cJ9_max_7cf53 : ByteArray := prog_24_method_65_code
def yJ9_max_7cf53 : MethodName := ⟨RJ9, "max", "(II)I"⟩
abbrev cJ9_min_7cf53 : ByteArray := prog_24_method_69_code
def yJ9_min_7cf53 : MethodName := ⟨RJ9, "min", "(II)I"⟩
def RJxd2413 : String := "java/lang/Number"
def TJxd2413 : u_T := fun k => match k with
  | _ => ("", "", "", false)
def tyJxd2413 : Nat → FieldType := fun k => match k with
  | _ => .int
theorem nmJxd2413 : ∀ a, a < 0 → ∀ b, b < 0 → a ≠ b → (TJxd2413 a).2.1 ≠ (TJxd2413 b).2.1 := by decide +kernel
theorem tyJxd2413_ok : ∀ k, k < 0 → parseFieldDescriptor (TJxd2413 k).2.2.1 = some (tyJxd2413 k) := by decide +kernel
def RJ0 : String := "java/lang/String"
def TJ0 : u_T := fun k => match k with
  | 0 => ("java/lang/String", "value", "[B", true)
  | 1 => ("java/lang/String", "coder", "B", true)
  | 2 => ("java/lang/String", "hash", "I", false)
  | _ => ("java/lang/String", "hashIsZero", "Z", false)
def tyJ0 : Nat → FieldType := fun k => match k with
  | 0 => .array .byte
  | 1 => .byte
  | 2 => .int
  | _ => .boolean
theorem nmJ0 : ∀ a, a < 4 → ∀ b, b < 4 → a ≠ b → (TJ0 a).2.1 ≠ (TJ0 b).2.1 := by decide +kernel
theorem tyJ0_ok : ∀ k, k < 4 → parseFieldDescriptor (TJ0 k).2.2.1 = some (tyJ0 k) := by decide +kernel
abbrev cJ0_init_81219 : ByteArray := prog_27_method_53_code
def yJ0_init_81219 : MethodName := ⟨RJ0, "<init>", "(Ljava/lang/StringBuilder;)V"⟩
abbrev cJ0_length_8abf5 : ByteArray := prog_27_method_54_code
def yJ0_length_8abf5 : MethodName := ⟨RJ0, "length", "()I"⟩
abbrev cJ0_charAt_5068e : ByteArray := prog_27_method_56_code
def yJ0_charAt_5068e : MethodName := ⟨RJ0, "charAt", "(I)C"⟩
abbrev cJ0_getBytes_840e7 : ByteArray := prog_27_method_147_code
def yJ0_getBytes_840e7 : MethodName := ⟨RJ0, "getBytes", "([BIB)V"⟩
abbrev cJ0_init_db425 : ByteArray := prog_27_method_150_code
def yJ0_init_db425 : MethodName := ⟨RJ0, "<init>", "(Ljava/lang/AbstractStringBuilder;Ljava/lang/Void;)V"⟩
abbrev cJ0_coder_7d493 : ByteArray := prog_27_method_152_code
def yJ0_coder_7d493 : MethodName := ⟨RJ0, "coder", "()B"⟩
abbrev cJ0_isLatin1_aae02 : ByteArray := prog_27_method_154_code
def yJ0_isLatin1_aae02 : MethodName := ⟨RJ0, "isLatin1", "()Z"⟩
abbrev cJ0_checkIndex_df160 : ByteArray := prog_27_method_155_code
def yJ0_checkIndex_df160 : MethodName := ⟨RJ0, "checkIndex", "(II)V"⟩
abbrev cJ0_checkBoundsOffCount_cabcc : ByteArray := prog_27_method_157_code
def yJ0_checkBoundsOffCount_cabcc : MethodName := ⟨RJ0, "checkBoundsOffCount", "(III)I"⟩
abbrev cJ0_checkBoundsBeginEnd_23922 : ByteArray := prog_27_method_158_code
def yJ0_checkBoundsBeginEnd_23922 : MethodName := ⟨RJ0, "checkBoundsBeginEnd", "(III)V"⟩
def RJ4 : String := "java/lang/StringBuilder"
def TJ4 : u_T := fun k => match k with
  | 0 => ("java/lang/AbstractStringBuilder", "value", "[B", false)
  | 1 => ("java/lang/AbstractStringBuilder", "coder", "B", false)
  | 2 => ("java/lang/AbstractStringBuilder", "maybeLatin1", "Z", false)
  | _ => ("java/lang/AbstractStringBuilder", "count", "I", false)
def tyJ4 : Nat → FieldType := fun k => match k with
  | 0 => .array .byte
  | 1 => .byte
  | 2 => .boolean
  | _ => .int
theorem nmJ4 : ∀ a, a < 4 → ∀ b, b < 4 → a ≠ b → (TJ4 a).2.1 ≠ (TJ4 b).2.1 := by decide +kernel
theorem tyJ4_ok : ∀ k, k < 4 → parseFieldDescriptor (TJ4 k).2.2.1 = some (tyJ4 k) := by decide +kernel
abbrev cJ4_init_da8c8 : ByteArray := prog_28_method_1_code
def yJ4_init_da8c8 : MethodName := ⟨RJ4, "<init>", "()V"⟩
abbrev cJ4_init_a7421 : ByteArray := prog_28_method_3_code
def yJ4_init_a7421 : MethodName := ⟨RJ4, "<init>", "(Ljava/lang/String;)V"⟩
abbrev cJ4_append_15ec4 : ByteArray := prog_28_method_7_code
def yJ4_append_15ec4 : MethodName := ⟨RJ4, "append", "(Ljava/lang/String;)Ljava/lang/StringBuilder;"⟩
abbrev cJ4_append_cf468 : ByteArray := prog_28_method_14_code
def yJ4_append_cf468 : MethodName := ⟨RJ4, "append", "(C)Ljava/lang/StringBuilder;"⟩
abbrev cJ4_append_bf812 : ByteArray := prog_28_method_15_code
def yJ4_append_bf812 : MethodName := ⟨RJ4, "append", "(I)Ljava/lang/StringBuilder;"⟩
abbrev cJ4_toString_0e30d : ByteArray := prog_28_method_42_code
def yJ4_toString_0e30d : MethodName := ⟨RJ4, "toString", "()Ljava/lang/String;"⟩
abbrev cJ4_append_cf1ce : ByteArray := prog_28_method_80_code
def yJ4_append_cf1ce : MethodName := ⟨RJ4, "append", "(Ljava/lang/String;)Ljava/lang/AbstractStringBuilder;"⟩
abbrev cJ4_length_8abf5 : ByteArray := prog_28_method_93_code
def yJ4_length_8abf5 : MethodName := ⟨RJ4, "length", "()I"⟩
def RJ1 : String := "java/lang/StringLatin1"
def TJ1 : u_T := fun k => match k with
  | _ => ("", "", "", false)
def tyJ1 : Nat → FieldType := fun k => match k with
  | _ => .int
theorem nmJ1 : ∀ a, a < 0 → ∀ b, b < 0 → a ≠ b → (TJ1 a).2.1 ≠ (TJ1 b).2.1 := by decide +kernel
theorem tyJ1_ok : ∀ k, k < 0 → parseFieldDescriptor (TJ1 k).2.2.1 = some (tyJ1 k) := by decide +kernel
abbrev cJ1_charAt_3b067 : ByteArray := prog_29_method_2_code
def yJ1_charAt_3b067 : MethodName := ⟨RJ1, "charAt", "([BI)C"⟩
abbrev cJ1_canEncode_fc78d : ByteArray := prog_29_method_3_code
def yJ1_canEncode_fc78d : MethodName := ⟨RJ1, "canEncode", "(C)Z"⟩
abbrev cJ1_inflate_0e8fd : ByteArray := prog_29_method_50_code
def yJ1_inflate_0e8fd : MethodName := ⟨RJ1, "inflate", "([BI[BII)V"⟩
def RJ2 : String := "java/lang/StringUTF16"
def TJ2 : u_T := fun k => match k with
  | _ => ("", "", "", false)
def tyJ2 : Nat → FieldType := fun k => match k with
  | _ => .int
theorem nmJ2 : ∀ a, a < 0 → ∀ b, b < 0 → a ≠ b → (TJ2 a).2.1 ≠ (TJ2 b).2.1 := by decide +kernel
theorem tyJ2_ok : ∀ k, k < 0 → parseFieldDescriptor (TJ2 k).2.2.1 = some (tyJ2 k) := by decide +kernel
abbrev cJ2_newBytesFor_77867 : ByteArray := prog_30_method_2_code
def yJ2_newBytesFor_77867 : MethodName := ⟨RJ2, "newBytesFor", "(I)[B"⟩
abbrev cJ2_newBytesLength_0f7a4 : ByteArray := prog_30_method_3_code
def yJ2_newBytesLength_0f7a4 : MethodName := ⟨RJ2, "newBytesLength", "(I)I"⟩
abbrev cJ2_putChar_b72d1 : ByteArray := prog_30_method_4_code
def yJ2_putChar_b72d1 : MethodName := ⟨RJ2, "putChar", "([BII)V"⟩
abbrev cJ2_getChar_3b067 : ByteArray := prog_30_method_5_code
def yJ2_getChar_3b067 : MethodName := ⟨RJ2, "getChar", "([BI)C"⟩
abbrev cJ2_length_9d52b : ByteArray := prog_30_method_6_code
def yJ2_length_9d52b : MethodName := ⟨RJ2, "length", "([B)I"⟩
abbrev cJ2_coderFromArrayLen_85cad : ByteArray := prog_30_method_15_code
def yJ2_coderFromArrayLen_85cad : MethodName := ⟨RJ2, "coderFromArrayLen", "([BI)B"⟩
abbrev cJ2_compress_39247 : ByteArray := prog_30_method_17_code
def yJ2_compress_39247 : MethodName := ⟨RJ2, "compress", "([BII)[B"⟩
abbrev cJ2_compress_5af95 : ByteArray := prog_30_method_22_code
def yJ2_compress_5af95 : MethodName := ⟨RJ2, "compress", "([BI[BII)I"⟩
abbrev cJ2_putCharSB_b72d1 : ByteArray := prog_30_method_71_code
def yJ2_putCharSB_b72d1 : MethodName := ⟨RJ2, "putCharSB", "([BII)V"⟩
abbrev cJ2_getChars_46870 : ByteArray := prog_30_method_77_code
def yJ2_getChars_46870 : MethodName := ⟨RJ2, "getChars", "(III[B)I"⟩
abbrev cJ2_putCharsAt_cd4e5 : ByteArray := prog_30_method_81_code
def yJ2_putCharsAt_cd4e5 : MethodName := ⟨RJ2, "putCharsAt", "([BICCCC)I"⟩
abbrev cJ2_charAt_3b067 : ByteArray := prog_30_method_83_code
def yJ2_charAt_3b067 : MethodName := ⟨RJ2, "charAt", "([BI)C"⟩
abbrev cJ2_inflate_0e8fd : ByteArray := prog_30_method_86_code
def yJ2_inflate_0e8fd : MethodName := ⟨RJ2, "inflate", "([BI[BII)V"⟩
abbrev cJ2_getChars_ba4f3 : ByteArray := prog_30_method_89_code
def yJ2_getChars_ba4f3 : MethodName := ⟨RJ2, "getChars", "(II[B)I"⟩
abbrev cJ2_checkIndex_2214a : ByteArray := prog_30_method_91_code
def yJ2_checkIndex_2214a : MethodName := ⟨RJ2, "checkIndex", "(I[B)V"⟩
abbrev cJ2_checkBoundsBeginEnd_d044e : ByteArray := prog_30_method_93_code
def yJ2_checkBoundsBeginEnd_d044e : MethodName := ⟨RJ2, "checkBoundsBeginEnd", "(II[B)V"⟩
abbrev cJ2_checkBoundsOffCount_d044e : ByteArray := prog_30_method_94_code
def yJ2_checkBoundsOffCount_d044e : MethodName := ⟨RJ2, "checkBoundsOffCount", "(II[B)V"⟩
def RJ10 : String := "java/lang/System"
def TJ10 : u_T := fun k => match k with
  | _ => ("", "", "", false)
def tyJ10 : Nat → FieldType := fun k => match k with
  | _ => .int
theorem nmJ10 : ∀ a, a < 0 → ∀ b, b < 0 → a ≠ b → (TJ10 a).2.1 ≠ (TJ10 b).2.1 := by decide +kernel
theorem tyJ10_ok : ∀ k, k < 0 → parseFieldDescriptor (TJ10 k).2.2.1 = some (tyJ10 k) := by decide +kernel
def RJxfd54e : String := "java/lang/constant/Constable"
def TJxfd54e : u_T := fun k => match k with
  | _ => ("", "", "", false)
def tyJxfd54e : Nat → FieldType := fun k => match k with
  | _ => .int
theorem nmJxfd54e : ∀ a, a < 0 → ∀ b, b < 0 → a ≠ b → (TJxfd54e a).2.1 ≠ (TJxfd54e b).2.1 := by decide +kernel
theorem tyJxfd54e_ok : ∀ k, k < 0 → parseFieldDescriptor (TJxfd54e k).2.2.1 = some (tyJxfd54e k) := by decide +kernel
def RJx3cf43 : String := "java/lang/constant/ConstantDesc"
def TJx3cf43 : u_T := fun k => match k with
  | _ => ("", "", "", false)
def tyJx3cf43 : Nat → FieldType := fun k => match k with
  | _ => .int
theorem nmJx3cf43 : ∀ a, a < 0 → ∀ b, b < 0 → a ≠ b → (TJx3cf43 a).2.1 ≠ (TJx3cf43 b).2.1 := by decide +kernel
theorem tyJx3cf43_ok : ∀ k, k < 0 → parseFieldDescriptor (TJx3cf43 k).2.2.1 = some (tyJx3cf43 k) := by decide +kernel
def RJ7 : String := "java/util/Arrays"
def TJ7 : u_T := fun k => match k with
  | _ => ("", "", "", false)
def tyJ7 : Nat → FieldType := fun k => match k with
  | _ => .int
theorem nmJ7 : ∀ a, a < 0 → ∀ b, b < 0 → a ≠ b → (TJ7 a).2.1 ≠ (TJ7 b).2.1 := by decide +kernel
theorem tyJ7_ok : ∀ k, k < 0 → parseFieldDescriptor (TJ7 k).2.2.1 = some (tyJ7 k) := by decide +kernel
abbrev cJ7_fill_d0a16 : ByteArray := prog_33_method_101_code
def yJ7_fill_d0a16 : MethodName := ⟨RJ7, "fill", "([JJ)V"⟩
abbrev cJ7_copyOf_9075b : ByteArray := prog_33_method_121_code
def yJ7_copyOf_9075b : MethodName := ⟨RJ7, "copyOf", "([BI)[B"⟩
abbrev cJ7_copyOf_59c91 : ByteArray := prog_33_method_123_code
def yJ7_copyOf_59c91 : MethodName := ⟨RJ7, "copyOf", "([II)[I"⟩
abbrev cJ7_checkLength_df160 : ByteArray := prog_33_method_131_code
def yJ7_checkLength_df160 : MethodName := ⟨RJ7, "checkLength", "(II)V"⟩
abbrev cJ7_copyOfRange_39247 : ByteArray := prog_33_method_132_code
def yJ7_copyOfRange_39247 : MethodName := ⟨RJ7, "copyOfRange", "([BII)[B"⟩
abbrev cJ7_copyOfRangeByte_39247 : ByteArray := prog_33_method_133_code
def yJ7_copyOfRangeByte_39247 : MethodName := ⟨RJ7, "copyOfRangeByte", "([BII)[B"⟩
def RJ8 : String := "jdk/internal/util/ArraysSupport"
def TJ8 : u_T := fun k => match k with
  | _ => ("", "", "", false)
def tyJ8 : Nat → FieldType := fun k => match k with
  | _ => .int
theorem nmJ8 : ∀ a, a < 0 → ∀ b, b < 0 → a ≠ b → (TJ8 a).2.1 ≠ (TJ8 b).2.1 := by decide +kernel
theorem tyJ8_ok : ∀ k, k < 0 → parseFieldDescriptor (TJ8 k).2.2.1 = some (tyJ8 k) := by decide +kernel
abbrev cJ8_newLength_cabcc : ByteArray := prog_34_method_27_code
def yJ8_newLength_cabcc : MethodName := ⟨RJ8, "newLength", "(III)I"⟩
abbrev cJ8_hugeLength_7cf53 : ByteArray := prog_34_method_28_code
def yJ8_hugeLength_7cf53 : MethodName := ⟨RJ8, "hugeLength", "(II)I"⟩
def RJ3 : String := "jdk/internal/util/Preconditions"
def TJ3 : u_T := fun k => match k with
  | _ => ("", "", "", false)
def tyJ3 : Nat → FieldType := fun k => match k with
  | _ => .int
theorem nmJ3 : ∀ a, a < 0 → ∀ b, b < 0 → a ≠ b → (TJ3 a).2.1 ≠ (TJ3 b).2.1 := by decide +kernel
theorem tyJ3_ok : ∀ k, k < 0 → parseFieldDescriptor (TJ3 k).2.2.1 = some (tyJ3 k) := by decide +kernel
abbrev cJ3_checkIndex_8e157 : ByteArray := prog_35_method_11_code
def yJ3_checkIndex_8e157 : MethodName := ⟨RJ3, "checkIndex", "(IILjava/util/function/BiFunction;)I"⟩
abbrev cJ3_checkFromToIndex_8c36e : ByteArray := prog_35_method_12_code
def yJ3_checkFromToIndex_8c36e : MethodName := ⟨RJ3, "checkFromToIndex", "(IIILjava/util/function/BiFunction;)I"⟩
abbrev cJ3_checkFromIndexSize_8c36e : ByteArray := prog_35_method_13_code
def yJ3_checkFromIndexSize_8c36e : MethodName := ⟨RJ3, "checkFromIndexSize", "(IIILjava/util/function/BiFunction;)I"⟩
def RL : String := "PackedTableLaw"
abbrev cL_most : ByteArray := method_2_code
def yL_most : MethodName := ⟨RL, "most", "(II)I"⟩
abbrev cL_cell : ByteArray := method_3_code
def yL_cell : MethodName := ⟨RL, "cell", "([II)I"⟩
abbrev cL_add : ByteArray := method_4_code
def yL_add : MethodName := ⟨RL, "add", "(LPackedTable;[II)V"⟩
abbrev cL_say : ByteArray := method_5_code
def yL_say : MethodName := ⟨RL, "say", "(LPackedTable;[ILjava/lang/String;)V"⟩
abbrev cL_end : ByteArray := method_6_code
def yL_end : MethodName := ⟨RL, "end", "(LPackedTable;[I)I"⟩
abbrev cL_all : ByteArray := method_7_code
def yL_all : MethodName := ⟨RL, "all", "(LPackedTable;)[I"⟩
abbrev cL_alike : ByteArray := method_8_code
def yL_alike : MethodName := ⟨RL, "alike", "([I[I)Z"⟩
abbrev cL_areColumns : ByteArray := method_9_code
def yL_areColumns : MethodName := ⟨RL, "areColumns", "(LPackedTable;)Z"⟩
abbrev cL_isFilter : ByteArray := method_10_code
def yL_isFilter : MethodName := ⟨RL, "isFilter", "(LPackedTable;)Z"⟩
abbrev cL_act : ByteArray := method_11_code
def yL_act : MethodName := ⟨RL, "act", "(LPackedTable;[II)Z"⟩
abbrev cL_law : ByteArray := code
def yL_law : MethodName := ⟨RL, "law", "([I)Z"⟩
abbrev vwCl : List vw_C := [(RX1, TX1, 3), (RX2, TX2, 6), (RX3, TX3, 2), (RX4, TX4, 4), (RX5, TX5, 3), (RX6, TX6, 7), (RX8, TX8, 2), (RX9, TX9, 9), (RX10, TX10, 3), (RX11, TX11, 3), (RX12, TX12, 11), (RJ4, TJ4, 4), (RJ0, TJ0, 4)]
end
section
/-! the words that the tables hold, by their places; lwG: those that a call keeps -/
def lwG : List Cond := lw_tbl.filter goodWord
theorem lwG_tbl {w : Cond} (h : w ∈ lwG) : w ∈ lw_tbl := (List.mem_filter.mp h).1
theorem lwG_good {w : Cond} (h : w ∈ lwG) : goodWord w = true := (List.mem_filter.mp h).2
def lwN : List Cond := [Cond.methodLinkNest RX11 23 yX4_init RX12, Cond.methodLinkNest RX11 28 yX1_init RX12, Cond.methodLinkNest RX1 17 yX3_init RX12, Cond.methodLinkNest RX12 28 yX6_init RX12, Cond.methodLinkNest RX9 29 yX2_init RX12, Cond.methodLinkNest RX12 48 yX10_init RX12, Cond.methodLinkNest RX12 55 yX3_init RX12, Cond.methodLinkNest RX12 62 yX8_init RX12]
theorem lwN_tbl : ∀ w ∈ lwN, w ∈ lw_tbl := by decide +kernel
theorem mn_X11_23 : Cond.methodLinkNest RX11 23 yX4_init RX12 ∈ lwN := List.mem_of_getElem? (i := 0) rfl
theorem mn_X11_28 : Cond.methodLinkNest RX11 28 yX1_init RX12 ∈ lwN := List.mem_of_getElem? (i := 1) rfl
theorem mn_X1_17 : Cond.methodLinkNest RX1 17 yX3_init RX12 ∈ lwN := List.mem_of_getElem? (i := 2) rfl
theorem mn_X12_28 : Cond.methodLinkNest RX12 28 yX6_init RX12 ∈ lwN := List.mem_of_getElem? (i := 3) rfl
theorem mn_X9_29 : Cond.methodLinkNest RX9 29 yX2_init RX12 ∈ lwN := List.mem_of_getElem? (i := 4) rfl
theorem mn_X12_48 : Cond.methodLinkNest RX12 48 yX10_init RX12 ∈ lwN := List.mem_of_getElem? (i := 5) rfl
theorem mn_X12_55 : Cond.methodLinkNest RX12 55 yX3_init RX12 ∈ lwN := List.mem_of_getElem? (i := 6) rfl
theorem mn_X12_62 : Cond.methodLinkNest RX12 62 yX8_init RX12 ∈ lwN := List.mem_of_getElem? (i := 7) rfl
theorem lwN_warm {s U : State} (hW : s.WarmedH U.vm) : ∀ w ∈ lwN, va_Nw w s → va_Nw w U := by
  intro w hw h
  simp only [lwN, List.mem_cons, List.not_mem_nil, or_false] at hw
  rcases hw with rfl | rfl | rfl | rfl | rfl | rfl | rfl | rfl <;> first | exact va_Nw.warmF hW h | exact va_Nw.warmM hW h
theorem lwN_same {s U : State} (hW : s.vm = U.vm) : ∀ w ∈ lwN, va_Nw w s → va_Nw w U := by
  intro w hw h
  simp only [lwN, List.mem_cons, List.not_mem_nil, or_false] at hw
  rcases hw with rfl | rfl | rfl | rfl | rfl | rfl | rfl | rfl <;> exact va_Nw.same rfl hW h
end
section
/-! the words that the tables hold, by their places -/
theorem lw_in {w : Cond} (i : Nat) (h : lw_tbl[i]? = some w) (hg : goodWord w = true) : w ∈ lwG := List.mem_filter.mpr ⟨List.mem_of_getElem? h, hg⟩
theorem se_J5_ensureCapacityInternal_d00df : Cond.selects RJ4 yJ5_ensureCapacityInternal_d00df yJ5_ensureCapacityInternal_d00df ∈ lwG := lw_in 0 (by decide +kernel) (by decide +kernel)
theorem se_J5_newCapacity_0f7a4 : Cond.selects RJ4 yJ5_newCapacity_0f7a4 yJ5_newCapacity_0f7a4 ∈ lwG := lw_in 1 (by decide +kernel) (by decide +kernel)
theorem se_J5_putStringAt_47b60 : Cond.selects RJ4 yJ5_putStringAt_47b60 yJ5_putStringAt_47b60 ∈ lwG := lw_in 2 (by decide +kernel) (by decide +kernel)
theorem se_J5_inflateIfNeededFor_a7421 : Cond.selects RJ4 yJ5_inflateIfNeededFor_a7421 yJ5_inflateIfNeededFor_a7421 ∈ lwG := lw_in 3 (by decide +kernel) (by decide +kernel)
theorem se_X12_checkLength : Cond.selects RX12 yX12_checkLength yX12_checkLength ∈ lwG := lw_in 4 (by decide +kernel) (by decide +kernel)
theorem se_java_lang_Throwable_fillInStackTrace__I_Ljava_lang_Throwable_ : Cond.selects "java/lang/Throwable" (⟨"java/lang/Throwable", "fillInStackTrace", "(I)Ljava/lang/Throwable;"⟩ : MethodName) (⟨"java/lang/Throwable", "fillInStackTrace", "(I)Ljava/lang/Throwable;"⟩ : MethodName) ∈ lwG := lw_in 5 (by decide +kernel) (by decide +kernel)
theorem se_X9_start : Cond.selects RX9 yX9_start yX9_start ∈ lwG := lw_in 6 (by decide +kernel) (by decide +kernel)
theorem se_X6_kindAt : Cond.selects RX6 yX6_kindAt yX6_kindAt ∈ lwG := lw_in 7 (by decide +kernel) (by decide +kernel)
theorem se_X9_takeHead : Cond.selects RX9 yX9_takeHead yX9_takeHead ∈ lwG := lw_in 8 (by decide +kernel) (by decide +kernel)
theorem se_X9_takeWord : Cond.selects RX9 yX9_takeWord yX9_takeWord ∈ lwG := lw_in 9 (by decide +kernel) (by decide +kernel)
theorem se_X9_fail : Cond.selects RX9 yX9_fail yX9_fail ∈ lwG := lw_in 10 (by decide +kernel) (by decide +kernel)
theorem se_X9_takeNumber : Cond.selects RX9 yX9_takeNumber yX9_takeNumber ∈ lwG := lw_in 11 (by decide +kernel) (by decide +kernel)
theorem se_X9_takeSemicolon : Cond.selects RX9 yX9_takeSemicolon yX9_takeSemicolon ∈ lwG := lw_in 12 (by decide +kernel) (by decide +kernel)
theorem se_X9_takeTableRow : Cond.selects RX9 yX9_takeTableRow yX9_takeTableRow ∈ lwG := lw_in 13 (by decide +kernel) (by decide +kernel)
theorem se_X9_failAtExtraRow : Cond.selects RX9 yX9_failAtExtraRow yX9_failAtExtraRow ∈ lwG := lw_in 14 (by decide +kernel) (by decide +kernel)
theorem se_X9_takeRow : Cond.selects RX9 yX9_takeRow yX9_takeRow ∈ lwG := lw_in 15 (by decide +kernel) (by decide +kernel)
theorem se_X9_takeInteger : Cond.selects RX9 yX9_takeInteger yX9_takeInteger ∈ lwG := lw_in 16 (by decide +kernel) (by decide +kernel)
theorem se_X12_checkColumn : Cond.selects RX12 yX12_checkColumn yX12_checkColumn ∈ lwG := lw_in 17 (by decide +kernel) (by decide +kernel)
theorem se_X12_checkRow : Cond.selects RX12 yX12_checkRow yX12_checkRow ∈ lwG := lw_in 18 (by decide +kernel) (by decide +kernel)
theorem se_X12_checkCode : Cond.selects RX12 yX12_checkCode yX12_checkCode ∈ lwG := lw_in 19 (by decide +kernel) (by decide +kernel)
theorem se_X12_checkCondition : Cond.selects RX12 yX12_checkCondition yX12_checkCondition ∈ lwG := lw_in 20 (by decide +kernel) (by decide +kernel)
theorem se_X12_wordsOf : Cond.selects RX12 yX12_wordsOf yX12_wordsOf ∈ lwG := lw_in 21 (by decide +kernel) (by decide +kernel)
theorem se_X8_packCode : Cond.selects RX8 yX8_packCode yX8_packCode ∈ lwG := lw_in 22 (by decide +kernel) (by decide +kernel)
theorem se_X12_runsAfterSorting : Cond.selects RX12 yX12_runsAfterSorting yX12_runsAfterSorting ∈ lwG := lw_in 23 (by decide +kernel) (by decide +kernel)
theorem se_X11_fulfills : Cond.selects RX11 yX11_fulfills yX11_fulfills ∈ lwG := lw_in 24 (by decide +kernel) (by decide +kernel)
theorem se_X12_sumOfSelected : Cond.selects RX12 yX12_sumOfSelected yX12_sumOfSelected ∈ lwG := lw_in 25 (by decide +kernel) (by decide +kernel)
theorem se_X12_collectSelected : Cond.selects RX12 yX12_collectSelected yX12_collectSelected ∈ lwG := lw_in 26 (by decide +kernel) (by decide +kernel)
theorem se_X12_checkAnySeen : Cond.selects RX12 yX12_checkAnySeen yX12_checkAnySeen ∈ lwG := lw_in 27 (by decide +kernel) (by decide +kernel)
theorem se_X12_packingDifferences : Cond.selects RX12 yX12_packingDifferences yX12_packingDifferences ∈ lwG := lw_in 28 (by decide +kernel) (by decide +kernel)
theorem se_X11_moveRow : Cond.selects RX11 yX11_moveRow yX11_moveRow ∈ lwG := lw_in 29 (by decide +kernel) (by decide +kernel)
theorem se_X11_shorten : Cond.selects RX11 yX11_shorten yX11_shorten ∈ lwG := lw_in 30 (by decide +kernel) (by decide +kernel)
theorem se_X9_takeEnd : Cond.selects RX9 yX9_takeEnd yX9_takeEnd ∈ lwG := lw_in 31 (by decide +kernel) (by decide +kernel)
theorem se_X12_checkValue : Cond.selects RX12 yX12_checkValue yX12_checkValue ∈ lwG := lw_in 32 (by decide +kernel) (by decide +kernel)
theorem se_X12_sortRows : Cond.selects RX12 yX12_sortRows yX12_sortRows ∈ lwG := lw_in 33 (by decide +kernel) (by decide +kernel)
theorem se_X12_addCondition : Cond.selects RX12 yX12_addCondition yX12_addCondition ∈ lwG := lw_in 34 (by decide +kernel) (by decide +kernel)
theorem in_L : Cond.initialized RL ∈ lwG := lw_in 35 (by decide +kernel) (by decide +kernel)
theorem in_X12 : Cond.initialized RX12 ∈ lwG := lw_in 36 (by decide +kernel) (by decide +kernel)
theorem in_X11 : Cond.initialized RX11 ∈ lwG := lw_in 37 (by decide +kernel) (by decide +kernel)
theorem in_X4 : Cond.initialized RX4 ∈ lwG := lw_in 38 (by decide +kernel) (by decide +kernel)
theorem in_X1 : Cond.initialized RX1 ∈ lwG := lw_in 39 (by decide +kernel) (by decide +kernel)
theorem in_X3 : Cond.initialized RX3 ∈ lwG := lw_in 40 (by decide +kernel) (by decide +kernel)
theorem in_X5 : Cond.initialized RX5 ∈ lwG := lw_in 41 (by decide +kernel) (by decide +kernel)
theorem in_X6 : Cond.initialized RX6 ∈ lwG := lw_in 42 (by decide +kernel) (by decide +kernel)
theorem in_X9 : Cond.initialized RX9 ∈ lwG := lw_in 43 (by decide +kernel) (by decide +kernel)
theorem in_X2 : Cond.initialized RX2 ∈ lwG := lw_in 44 (by decide +kernel) (by decide +kernel)
theorem in_Jx29ce0 : Cond.initialized RJx29ce0 ∈ lwG := lw_in 45 (by decide +kernel) (by decide +kernel)
theorem in_X7 : Cond.initialized RX7 ∈ lwG := lw_in 46 (by decide +kernel) (by decide +kernel)
theorem in_X10 : Cond.initialized RX10 ∈ lwG := lw_in 47 (by decide +kernel) (by decide +kernel)
theorem in_X8 : Cond.initialized RX8 ∈ lwG := lw_in 48 (by decide +kernel) (by decide +kernel)
theorem in_J7 : Cond.initialized RJ7 ∈ lwG := lw_in 49 (by decide +kernel) (by decide +kernel)
theorem in_J9 : Cond.initialized RJ9 ∈ lwG := lw_in 50 (by decide +kernel) (by decide +kernel)
theorem in_J10 : Cond.initialized RJ10 ∈ lwG := lw_in 51 (by decide +kernel) (by decide +kernel)
theorem in_J5 : Cond.initialized RJ5 ∈ lwG := lw_in 52 (by decide +kernel) (by decide +kernel)
theorem in_J4 : Cond.initialized RJ4 ∈ lwG := lw_in 53 (by decide +kernel) (by decide +kernel)
theorem in_J0 : Cond.initialized RJ0 ∈ lwG := lw_in 54 (by decide +kernel) (by decide +kernel)
theorem in_J2 : Cond.initialized RJ2 ∈ lwG := lw_in 55 (by decide +kernel) (by decide +kernel)
theorem in_J8 : Cond.initialized RJ8 ∈ lwG := lw_in 56 (by decide +kernel) (by decide +kernel)
theorem in_J3 : Cond.initialized RJ3 ∈ lwG := lw_in 57 (by decide +kernel) (by decide +kernel)
theorem in_J1 : Cond.initialized RJ1 ∈ lwG := lw_in 58 (by decide +kernel) (by decide +kernel)
theorem in_Jxd2413 : Cond.initialized RJxd2413 ∈ lwG := lw_in 59 (by decide +kernel) (by decide +kernel)
theorem in_J6 : Cond.initialized RJ6 ∈ lwG := lw_in 60 (by decide +kernel) (by decide +kernel)
theorem in_java_lang_Throwable : Cond.initialized "java/lang/Throwable" ∈ lwG := lw_in 61 (by decide +kernel) (by decide +kernel)
theorem in_java_lang_Exception : Cond.initialized "java/lang/Exception" ∈ lwG := lw_in 62 (by decide +kernel) (by decide +kernel)
theorem in_java_lang_RuntimeException : Cond.initialized "java/lang/RuntimeException" ∈ lwG := lw_in 63 (by decide +kernel) (by decide +kernel)
theorem in_java_lang_IllegalArgumentException : Cond.initialized "java/lang/IllegalArgumentException" ∈ lwG := lw_in 64 (by decide +kernel) (by decide +kernel)
theorem in_java_lang_IndexOutOfBoundsException : Cond.initialized "java/lang/IndexOutOfBoundsException" ∈ lwG := lw_in 65 (by decide +kernel) (by decide +kernel)
theorem in_java_lang_IllegalStateException : Cond.initialized "java/lang/IllegalStateException" ∈ lwG := lw_in 66 (by decide +kernel) (by decide +kernel)
theorem cl_L_9 : Cond.classLink RL 9 RX12 ∈ lwG := lw_in 67 (by decide +kernel) (by decide +kernel)
theorem it_X12 : Cond.instantiable RX12 11 ∈ lwG := lw_in 68 (by decide +kernel) (by decide +kernel)
theorem ml_L_210 : Cond.methodLink RL 210 yX12_init ∈ lwG := lw_in 69 (by decide +kernel) (by decide +kernel)
theorem im_X12_init : Cond.instanceMethod yX12_init ∈ lwG := lw_in 70 (by decide +kernel) (by decide +kernel)
theorem co_X12_init : Cond.code yX12_init prog_1_method_1_code 1 (none : Option FieldType) ∈ lwG := lw_in 71 (by decide +kernel) (by decide +kernel)
theorem ml_X12_1 : Cond.methodLink RX12 1 (⟨"java/lang/Object", "<init>", "()V"⟩ : MethodName) ∈ lwG := lw_in 72 (by decide +kernel) (by decide +kernel)
theorem im_java_lang_Object__init____V : Cond.instanceMethod (⟨"java/lang/Object", "<init>", "()V"⟩ : MethodName) ∈ lwG := lw_in 73 (by decide +kernel) (by decide +kernel)
theorem co_java_lang_Object__init____V : Cond.code (⟨"java/lang/Object", "<init>", "()V"⟩ : MethodName) object_method_1_code 1 (none : Option FieldType) ∈ lwG := lw_in 74 (by decide +kernel) (by decide +kernel)
theorem cl_X12_7 : Cond.classLink RX12 7 RX11 ∈ lwG := lw_in 75 (by decide +kernel) (by decide +kernel)
theorem it_X11 : Cond.instantiable RX11 3 ∈ lwG := lw_in 76 (by decide +kernel) (by decide +kernel)
theorem ml_X12_9 : Cond.methodLink RX12 9 yX11_init ∈ lwG := lw_in 77 (by decide +kernel) (by decide +kernel)
theorem im_X11_init : Cond.instanceMethod yX11_init ∈ lwG := lw_in 78 (by decide +kernel) (by decide +kernel)
theorem co_X11_init : Cond.code yX11_init prog_13_method_1_code 2 (none : Option FieldType) ∈ lwG := lw_in 79 (by decide +kernel) (by decide +kernel)
theorem ml_X11_3 : Cond.methodLink RX11 3 (⟨"java/lang/Object", "<init>", "()V"⟩ : MethodName) ∈ lwG := lw_in 80 (by decide +kernel) (by decide +kernel)
theorem cl_X11_9 : Cond.classLink RX11 9 RX1 ∈ lwG := lw_in 81 (by decide +kernel) (by decide +kernel)
theorem ao__FieldType_object_PackedTable_Column_ : Cond.arrayOver (FieldType.object "PackedTable$Column") ∈ lw_tbl := List.mem_of_getElem? (i := 82) (by decide +kernel)
theorem cl_X11_21 : Cond.classLink RX11 21 RX4 ∈ lwG := lw_in 83 (by decide +kernel) (by decide +kernel)
theorem it_X4 : Cond.instantiable RX4 4 ∈ lwG := lw_in 84 (by decide +kernel) (by decide +kernel)
theorem im_X4_init : Cond.instanceMethod yX4_init ∈ lwG := lw_in 86 (by decide +kernel) (by decide +kernel)
theorem co_X4_init : Cond.code yX4_init prog_6_method_1_code 1 (none : Option FieldType) ∈ lwG := lw_in 87 (by decide +kernel) (by decide +kernel)
theorem ml_X4_3 : Cond.methodLink RX4 3 (⟨"java/lang/Object", "<init>", "()V"⟩ : MethodName) ∈ lwG := lw_in 88 (by decide +kernel) (by decide +kernel)
theorem fl_X4_9 : Cond.fieldLink RX4 9 "PackedTable$Filter" "columns" "[I" ∈ lwG := lw_in 89 (by decide +kernel) (by decide +kernel)
theorem fl_X4_15 : Cond.fieldLink RX4 15 "PackedTable$Filter" "values" "[I" ∈ lwG := lw_in 90 (by decide +kernel) (by decide +kernel)
theorem fl_X4_18 : Cond.fieldLink RX4 18 "PackedTable$Filter" "directions" "[I" ∈ lwG := lw_in 91 (by decide +kernel) (by decide +kernel)
theorem fl_X4_21 : Cond.fieldLink RX4 21 "PackedTable$Filter" "size" "I" ∈ lwG := lw_in 92 (by decide +kernel) (by decide +kernel)
theorem su_X4 : Cond.superclass RX4 "java/lang/Object" ∈ lwG := lw_in 101 (by decide +kernel) (by decide +kernel)
theorem ac_FieldType_int : Cond.arrayClass FieldType.int ∈ lwG := lw_in 102 (by decide +kernel) (by decide +kernel)
theorem it_X1 : Cond.instantiable RX1 3 ∈ lwG := lw_in 103 (by decide +kernel) (by decide +kernel)
theorem im_X1_init : Cond.instanceMethod yX1_init ∈ lwG := lw_in 105 (by decide +kernel) (by decide +kernel)
theorem co_X1_init : Cond.code yX1_init prog_3_method_1_code 1 (none : Option FieldType) ∈ lwG := lw_in 106 (by decide +kernel) (by decide +kernel)
theorem ml_X1_3 : Cond.methodLink RX1 3 (⟨"java/lang/Object", "<init>", "()V"⟩ : MethodName) ∈ lwG := lw_in 107 (by decide +kernel) (by decide +kernel)
theorem cl_X1_15 : Cond.classLink RX1 15 RX3 ∈ lwG := lw_in 108 (by decide +kernel) (by decide +kernel)
theorem it_X3 : Cond.instantiable RX3 2 ∈ lwG := lw_in 109 (by decide +kernel) (by decide +kernel)
theorem im_X3_init : Cond.instanceMethod yX3_init ∈ lwG := lw_in 111 (by decide +kernel) (by decide +kernel)
theorem co_X3_init : Cond.code yX3_init prog_5_method_1_code 1 (none : Option FieldType) ∈ lwG := lw_in 112 (by decide +kernel) (by decide +kernel)
theorem ml_X3_1 : Cond.methodLink RX3 1 (⟨"java/lang/Object", "<init>", "()V"⟩ : MethodName) ∈ lwG := lw_in 113 (by decide +kernel) (by decide +kernel)
theorem fl_X3_9 : Cond.fieldLink RX3 9 "PackedTable$Dictionary" "entries" "[I" ∈ lwG := lw_in 114 (by decide +kernel) (by decide +kernel)
theorem fl_X3_13 : Cond.fieldLink RX3 13 "PackedTable$Dictionary" "size" "I" ∈ lwG := lw_in 115 (by decide +kernel) (by decide +kernel)
theorem su_X3 : Cond.superclass RX3 "java/lang/Object" ∈ lwG := lw_in 120 (by decide +kernel) (by decide +kernel)
theorem fl_X1_9 : Cond.fieldLink RX1 9 "PackedTable$Column" "values" "[I" ∈ lwG := lw_in 121 (by decide +kernel) (by decide +kernel)
theorem fl_X1_18 : Cond.fieldLink RX1 18 "PackedTable$Column" "dictionary" "LPackedTable$Dictionary;" ∈ lwG := lw_in 122 (by decide +kernel) (by decide +kernel)
theorem fl_X1_22 : Cond.fieldLink RX1 22 "PackedTable$Column" "length" "I" ∈ lwG := lw_in 123 (by decide +kernel) (by decide +kernel)
theorem su_X1 : Cond.superclass RX1 "java/lang/Object" ∈ lwG := lw_in 130 (by decide +kernel) (by decide +kernel)
theorem fl_X11_11 : Cond.fieldLink RX11 11 "PackedTable$Store" "table" "[LPackedTable$Column;" ∈ lwG := lw_in 131 (by decide +kernel) (by decide +kernel)
theorem fl_X11_17 : Cond.fieldLink RX11 17 "PackedTable$Store" "columns" "I" ∈ lwG := lw_in 132 (by decide +kernel) (by decide +kernel)
theorem fl_X11_24 : Cond.fieldLink RX11 24 "PackedTable$Store" "filter" "LPackedTable$Filter;" ∈ lwG := lw_in 133 (by decide +kernel) (by decide +kernel)
theorem su_X11 : Cond.superclass RX11 "java/lang/Object" ∈ lwG := lw_in 140 (by decide +kernel) (by decide +kernel)
theorem cl_X12_19 : Cond.classLink RX12 19 RX5 ∈ lwG := lw_in 141 (by decide +kernel) (by decide +kernel)
theorem it_X5 : Cond.instantiable RX5 3 ∈ lwG := lw_in 142 (by decide +kernel) (by decide +kernel)
theorem ml_X12_21 : Cond.methodLink RX12 21 yX5_init ∈ lwG := lw_in 143 (by decide +kernel) (by decide +kernel)
theorem im_X5_init : Cond.instanceMethod yX5_init ∈ lwG := lw_in 144 (by decide +kernel) (by decide +kernel)
theorem co_X5_init : Cond.code yX5_init prog_7_method_1_code 2 (none : Option FieldType) ∈ lwG := lw_in 145 (by decide +kernel) (by decide +kernel)
theorem ml_X5_3 : Cond.methodLink RX5 3 (⟨"java/lang/Object", "<init>", "()V"⟩ : MethodName) ∈ lwG := lw_in 146 (by decide +kernel) (by decide +kernel)
theorem cl_X5_9 : Cond.classLink RX5 9 RX11 ∈ lwG := lw_in 147 (by decide +kernel) (by decide +kernel)
theorem ao__FieldType_object_PackedTable_Store_ : Cond.arrayOver (FieldType.object "PackedTable$Store") ∈ lw_tbl := List.mem_of_getElem? (i := 148) (by decide +kernel)
theorem ml_X5_17 : Cond.methodLink RX5 17 yX11_init ∈ lwG := lw_in 149 (by decide +kernel) (by decide +kernel)
theorem fl_X5_11 : Cond.fieldLink RX5 11 "PackedTable$History" "ring" "[LPackedTable$Store;" ∈ lwG := lw_in 150 (by decide +kernel) (by decide +kernel)
theorem fl_X5_22 : Cond.fieldLink RX5 22 "PackedTable$History" "next" "I" ∈ lwG := lw_in 151 (by decide +kernel) (by decide +kernel)
theorem fl_X5_18 : Cond.fieldLink RX5 18 "PackedTable$History" "size" "I" ∈ lwG := lw_in 152 (by decide +kernel) (by decide +kernel)
theorem su_X5 : Cond.superclass RX5 "java/lang/Object" ∈ lwG := lw_in 159 (by decide +kernel) (by decide +kernel)
theorem cl_X12_26 : Cond.classLink RX12 26 RX6 ∈ lwG := lw_in 160 (by decide +kernel) (by decide +kernel)
theorem it_X6 : Cond.instantiable RX6 7 ∈ lwG := lw_in 161 (by decide +kernel) (by decide +kernel)
theorem im_X6_init : Cond.instanceMethod yX6_init ∈ lwG := lw_in 163 (by decide +kernel) (by decide +kernel)
theorem co_X6_init : Cond.code yX6_init prog_8_method_1_code 1 (none : Option FieldType) ∈ lwG := lw_in 164 (by decide +kernel) (by decide +kernel)
theorem ml_X6_3 : Cond.methodLink RX6 3 (⟨"java/lang/Object", "<init>", "()V"⟩ : MethodName) ∈ lwG := lw_in 165 (by decide +kernel) (by decide +kernel)
theorem fl_X6_9 : Cond.fieldLink RX6 9 "PackedTable$Input" "bytes" "[B" ∈ lwG := lw_in 166 (by decide +kernel) (by decide +kernel)
theorem fl_X6_15 : Cond.fieldLink RX6 15 "PackedTable$Input" "size" "I" ∈ lwG := lw_in 167 (by decide +kernel) (by decide +kernel)
theorem fl_X6_25 : Cond.fieldLink RX6 25 "PackedTable$Input" "textLength" "I" ∈ lwG := lw_in 168 (by decide +kernel) (by decide +kernel)
theorem fl_X6_41 : Cond.fieldLink RX6 41 "PackedTable$Input" "kind" "I" ∈ lwG := lw_in 169 (by decide +kernel) (by decide +kernel)
theorem fl_X6_38 : Cond.fieldLink RX6 38 "PackedTable$Input" "start" "I" ∈ lwG := lw_in 170 (by decide +kernel) (by decide +kernel)
theorem fl_X6_28 : Cond.fieldLink RX6 28 "PackedTable$Input" "end" "I" ∈ lwG := lw_in 171 (by decide +kernel) (by decide +kernel)
theorem fl_X6_44 : Cond.fieldLink RX6 44 "PackedTable$Input" "number" "I" ∈ lwG := lw_in 172 (by decide +kernel) (by decide +kernel)
theorem su_X6 : Cond.superclass RX6 "java/lang/Object" ∈ lwG := lw_in 187 (by decide +kernel) (by decide +kernel)
theorem ac_FieldType_byte : Cond.arrayClass FieldType.byte ∈ lwG := lw_in 188 (by decide +kernel) (by decide +kernel)
theorem cl_X12_33 : Cond.classLink RX12 33 RX9 ∈ lwG := lw_in 189 (by decide +kernel) (by decide +kernel)
theorem it_X9 : Cond.instantiable RX9 9 ∈ lwG := lw_in 190 (by decide +kernel) (by decide +kernel)
theorem ml_X12_35 : Cond.methodLink RX12 35 yX9_init ∈ lwG := lw_in 191 (by decide +kernel) (by decide +kernel)
theorem im_X9_init : Cond.instanceMethod yX9_init ∈ lwG := lw_in 192 (by decide +kernel) (by decide +kernel)
theorem co_X9_init : Cond.code yX9_init prog_11_method_1_code 3 (none : Option FieldType) ∈ lwG := lw_in 193 (by decide +kernel) (by decide +kernel)
theorem ml_X9_3 : Cond.methodLink RX9 3 (⟨"java/lang/Object", "<init>", "()V"⟩ : MethodName) ∈ lwG := lw_in 194 (by decide +kernel) (by decide +kernel)
theorem cl_X9_19 : Cond.classLink RX9 19 RX2 ∈ lwG := lw_in 195 (by decide +kernel) (by decide +kernel)
theorem ao__FieldType_object_PackedTable_Command_ : Cond.arrayOver (FieldType.object "PackedTable$Command") ∈ lw_tbl := List.mem_of_getElem? (i := 196) (by decide +kernel)
theorem it_X2 : Cond.instantiable RX2 6 ∈ lwG := lw_in 197 (by decide +kernel) (by decide +kernel)
theorem im_X2_init : Cond.instanceMethod yX2_init ∈ lwG := lw_in 199 (by decide +kernel) (by decide +kernel)
theorem co_X2_init : Cond.code yX2_init prog_4_method_1_code 1 (none : Option FieldType) ∈ lwG := lw_in 200 (by decide +kernel) (by decide +kernel)
theorem ml_X2_3 : Cond.methodLink RX2 3 (⟨"java/lang/Object", "<init>", "()V"⟩ : MethodName) ∈ lwG := lw_in 201 (by decide +kernel) (by decide +kernel)
theorem fl_X2_9 : Cond.fieldLink RX2 9 "PackedTable$Kind" "ROW" "LPackedTable$Kind;" ∈ lwG := lw_in 202 (by decide +kernel) (by decide +kernel)
theorem fl_X2_15 : Cond.fieldLink RX2 15 "PackedTable$Command" "kind" "LPackedTable$Kind;" ∈ lwG := lw_in 204 (by decide +kernel) (by decide +kernel)
theorem fl_X2_20 : Cond.fieldLink RX2 20 "PackedTable$Command" "cells" "[I" ∈ lwG := lw_in 205 (by decide +kernel) (by decide +kernel)
theorem su_X2 : Cond.superclass RX2 "java/lang/Object" ∈ lwG := lw_in 218 (by decide +kernel) (by decide +kernel)
theorem fl_X9_25 : Cond.fieldLink RX9 25 "PackedTable$Parser" "input" "LPackedTable$Input;" ∈ lwG := lw_in 219 (by decide +kernel) (by decide +kernel)
theorem fl_X9_30 : Cond.fieldLink RX9 30 "PackedTable$Parser" "error" "I" ∈ lwG := lw_in 220 (by decide +kernel) (by decide +kernel)
theorem fl_X9_9 : Cond.fieldLink RX9 9 "PackedTable$Parser" "offset" "I" ∈ lwG := lw_in 221 (by decide +kernel) (by decide +kernel)
theorem fl_X9_91 : Cond.fieldLink RX9 91 "PackedTable$Parser" "number" "I" ∈ lwG := lw_in 222 (by decide +kernel) (by decide +kernel)
theorem fl_X9_33 : Cond.fieldLink RX9 33 "PackedTable$Parser" "columns" "I" ∈ lwG := lw_in 223 (by decide +kernel) (by decide +kernel)
theorem fl_X9_36 : Cond.fieldLink RX9 36 "PackedTable$Parser" "rows" "I" ∈ lwG := lw_in 224 (by decide +kernel) (by decide +kernel)
theorem fl_X9_15 : Cond.fieldLink RX9 15 "PackedTable$Parser" "cells" "[I" ∈ lwG := lw_in 225 (by decide +kernel) (by decide +kernel)
theorem fl_X9_21 : Cond.fieldLink RX9 21 "PackedTable$Parser" "commands" "[LPackedTable$Command;" ∈ lwG := lw_in 226 (by decide +kernel) (by decide +kernel)
theorem fl_X9_39 : Cond.fieldLink RX9 39 "PackedTable$Parser" "commandCount" "I" ∈ lwG := lw_in 227 (by decide +kernel) (by decide +kernel)
theorem su_X9 : Cond.superclass RX9 "java/lang/Object" ∈ lwG := lw_in 246 (by decide +kernel) (by decide +kernel)
theorem cl_X12_46 : Cond.classLink RX12 46 RX10 ∈ lwG := lw_in 247 (by decide +kernel) (by decide +kernel)
theorem it_X10 : Cond.instantiable RX10 3 ∈ lwG := lw_in 248 (by decide +kernel) (by decide +kernel)
theorem im_X10_init : Cond.instanceMethod yX10_init ∈ lwG := lw_in 250 (by decide +kernel) (by decide +kernel)
theorem co_X10_init : Cond.code yX10_init prog_12_method_1_code 1 (none : Option FieldType) ∈ lwG := lw_in 251 (by decide +kernel) (by decide +kernel)
theorem ml_X10_3 : Cond.methodLink RX10 3 (⟨"java/lang/Object", "<init>", "()V"⟩ : MethodName) ∈ lwG := lw_in 252 (by decide +kernel) (by decide +kernel)
theorem fl_X10_9 : Cond.fieldLink RX10 9 "PackedTable$RowOrder" "sources" "[I" ∈ lwG := lw_in 253 (by decide +kernel) (by decide +kernel)
theorem fl_X10_15 : Cond.fieldLink RX10 15 "PackedTable$RowOrder" "moved" "[I" ∈ lwG := lw_in 254 (by decide +kernel) (by decide +kernel)
theorem fl_X10_18 : Cond.fieldLink RX10 18 "PackedTable$RowOrder" "length" "I" ∈ lwG := lw_in 255 (by decide +kernel) (by decide +kernel)
theorem su_X10 : Cond.superclass RX10 "java/lang/Object" ∈ lwG := lw_in 262 (by decide +kernel) (by decide +kernel)
theorem cl_X12_53 : Cond.classLink RX12 53 RX3 ∈ lwG := lw_in 263 (by decide +kernel) (by decide +kernel)
theorem cl_X12_60 : Cond.classLink RX12 60 RX8 ∈ lwG := lw_in 265 (by decide +kernel) (by decide +kernel)
theorem it_X8 : Cond.instantiable RX8 2 ∈ lwG := lw_in 266 (by decide +kernel) (by decide +kernel)
theorem im_X8_init : Cond.instanceMethod yX8_init ∈ lwG := lw_in 268 (by decide +kernel) (by decide +kernel)
theorem co_X8_init : Cond.code yX8_init prog_10_method_1_code 1 (none : Option FieldType) ∈ lwG := lw_in 269 (by decide +kernel) (by decide +kernel)
theorem ml_X8_3 : Cond.methodLink RX8 3 (⟨"java/lang/Object", "<init>", "()V"⟩ : MethodName) ∈ lwG := lw_in 270 (by decide +kernel) (by decide +kernel)
theorem fl_X8_11 : Cond.fieldLink RX8 11 "PackedTable$Packer" "words" "[J" ∈ lwG := lw_in 271 (by decide +kernel) (by decide +kernel)
theorem fl_X8_33 : Cond.fieldLink RX8 33 "PackedTable$Packer" "width" "I" ∈ lwG := lw_in 272 (by decide +kernel) (by decide +kernel)
theorem su_X8 : Cond.superclass RX8 "java/lang/Object" ∈ lwG := lw_in 277 (by decide +kernel) (by decide +kernel)
theorem ac_FieldType_long : Cond.arrayClass FieldType.long ∈ lwG := lw_in 278 (by decide +kernel) (by decide +kernel)
theorem fl_X12_67 : Cond.fieldLink RX12 67 "PackedTable" "FIRST_CELLS" "[I" ∈ lwG := lw_in 279 (by decide +kernel) (by decide +kernel)
theorem ml_X12_71 : Cond.methodLink RX12 71 yX11_replace ∈ lwG := lw_in 281 (by decide +kernel) (by decide +kernel)
theorem im_X11_replace : Cond.instanceMethod yX11_replace ∈ lwG := lw_in 282 (by decide +kernel) (by decide +kernel)
theorem se_X11_replace : Cond.selects RX11 yX11_replace yX11_replace ∈ lwG := lw_in 283 (by decide +kernel) (by decide +kernel)
theorem co_X11_replace : Cond.code yX11_replace prog_13_method_9_code 5 (none : Option FieldType) ∈ lwG := lw_in 284 (by decide +kernel) (by decide +kernel)
theorem ml_X11_40 : Cond.methodLink RX11 40 yX4_clear ∈ lwG := lw_in 285 (by decide +kernel) (by decide +kernel)
theorem im_X4_clear : Cond.instanceMethod yX4_clear ∈ lwG := lw_in 286 (by decide +kernel) (by decide +kernel)
theorem se_X4_clear : Cond.selects RX4 yX4_clear yX4_clear ∈ lwG := lw_in 287 (by decide +kernel) (by decide +kernel)
theorem co_X4_clear : Cond.code yX4_clear prog_6_method_11_code 1 (none : Option FieldType) ∈ lwG := lw_in 288 (by decide +kernel) (by decide +kernel)
theorem ml_X11_43 : Cond.methodLink RX11 43 yX1_clear ∈ lwG := lw_in 289 (by decide +kernel) (by decide +kernel)
theorem im_X1_clear : Cond.instanceMethod yX1_clear ∈ lwG := lw_in 290 (by decide +kernel) (by decide +kernel)
theorem se_X1_clear : Cond.selects RX1 yX1_clear yX1_clear ∈ lwG := lw_in 291 (by decide +kernel) (by decide +kernel)
theorem co_X1_clear : Cond.code yX1_clear prog_3_method_6_code 1 (none : Option FieldType) ∈ lwG := lw_in 292 (by decide +kernel) (by decide +kernel)
theorem ml_X1_30 : Cond.methodLink RX1 30 yX3_clear ∈ lwG := lw_in 293 (by decide +kernel) (by decide +kernel)
theorem im_X3_clear : Cond.instanceMethod yX3_clear ∈ lwG := lw_in 294 (by decide +kernel) (by decide +kernel)
theorem se_X3_clear : Cond.selects RX3 yX3_clear yX3_clear ∈ lwG := lw_in 295 (by decide +kernel) (by decide +kernel)
theorem co_X3_clear : Cond.code yX3_clear prog_5_method_10_code 1 (none : Option FieldType) ∈ lwG := lw_in 296 (by decide +kernel) (by decide +kernel)
theorem ml_X11_44 : Cond.methodLink RX11 44 yX11_appendRow ∈ lwG := lw_in 297 (by decide +kernel) (by decide +kernel)
theorem im_X11_appendRow : Cond.instanceMethod yX11_appendRow ∈ lwG := lw_in 298 (by decide +kernel) (by decide +kernel)
theorem se_X11_appendRow : Cond.selects RX11 yX11_appendRow yX11_appendRow ∈ lwG := lw_in 299 (by decide +kernel) (by decide +kernel)
theorem co_X11_appendRow : Cond.code yX11_appendRow prog_13_method_10_code 4 (none : Option FieldType) ∈ lwG := lw_in 300 (by decide +kernel) (by decide +kernel)
theorem ml_X11_48 : Cond.methodLink RX11 48 yX1_append ∈ lwG := lw_in 301 (by decide +kernel) (by decide +kernel)
theorem im_X1_append : Cond.instanceMethod yX1_append ∈ lwG := lw_in 302 (by decide +kernel) (by decide +kernel)
theorem se_X1_append : Cond.selects RX1 yX1_append yX1_append ∈ lwG := lw_in 303 (by decide +kernel) (by decide +kernel)
theorem co_X1_append : Cond.code yX1_append prog_3_method_7_code 2 (none : Option FieldType) ∈ lwG := lw_in 304 (by decide +kernel) (by decide +kernel)
theorem ml_X1_33 : Cond.methodLink RX1 33 yX3_insert ∈ lwG := lw_in 305 (by decide +kernel) (by decide +kernel)
theorem im_X3_insert : Cond.instanceMethod yX3_insert ∈ lwG := lw_in 306 (by decide +kernel) (by decide +kernel)
theorem se_X3_insert : Cond.selects RX3 yX3_insert yX3_insert ∈ lwG := lw_in 307 (by decide +kernel) (by decide +kernel)
theorem co_X3_insert : Cond.code yX3_insert prog_5_method_9_code 3 (none : Option FieldType) ∈ lwG := lw_in 308 (by decide +kernel) (by decide +kernel)
theorem ml_X3_24 : Cond.methodLink RX3 24 yX3_countBelow ∈ lwG := lw_in 309 (by decide +kernel) (by decide +kernel)
theorem im_X3_countBelow : Cond.instanceMethod yX3_countBelow ∈ lwG := lw_in 310 (by decide +kernel) (by decide +kernel)
theorem se_X3_countBelow : Cond.selects RX3 yX3_countBelow yX3_countBelow ∈ lwG := lw_in 311 (by decide +kernel) (by decide +kernel)
theorem co_X3_countBelow : Cond.code yX3_countBelow prog_5_method_6_code 5 (some FieldType.int) ∈ lwG := lw_in 312 (by decide +kernel) (by decide +kernel)
theorem ml_X3_27 : Cond.methodLink RX3 27 yJ7_copyOf_59c91 ∈ lwG := lw_in 313 (by decide +kernel) (by decide +kernel)
theorem st_J7_copyOf_59c91 : Cond.static yJ7_copyOf_59c91 ∈ lwG := lw_in 314 (by decide +kernel) (by decide +kernel)
theorem co_J7_copyOf_59c91 : Cond.code yJ7_copyOf_59c91 prog_33_method_123_code 3 (some (FieldType.array FieldType.int)) ∈ lwG := lw_in 315 (by decide +kernel) (by decide +kernel)
theorem ml_J7_316 : Cond.methodLink RJ7 316 (⟨"[I", "clone", "()Ljava/lang/Object;"⟩ : MethodName) ∈ lwG := lw_in 316 (by decide +kernel) (by decide +kernel)
theorem sm__I_clone : Cond.sameMethod "[I" "java/lang/Object" "clone" "()Ljava/lang/Object;" ∈ lwG := lw_in 317 (by decide +kernel) (by decide +kernel)
theorem na_java_lang_Object_clone___Ljava_lang_Object_ : Cond.native (⟨"java/lang/Object", "clone", "()Ljava/lang/Object;"⟩ : MethodName) ∈ lwG := lw_in 318 (by decide +kernel) (by decide +kernel)
theorem im_java_lang_Object_clone___Ljava_lang_Object_ : Cond.instanceMethod (⟨"java/lang/Object", "clone", "()Ljava/lang/Object;"⟩ : MethodName) ∈ lwG := lw_in 319 (by decide +kernel) (by decide +kernel)
theorem se__I_clone___Ljava_lang_Object_ : Cond.selects "[I" (⟨"[I", "clone", "()Ljava/lang/Object;"⟩ : MethodName) (⟨"java/lang/Object", "clone", "()Ljava/lang/Object;"⟩ : MethodName) ∈ lwG := lw_in 320 (by decide +kernel) (by decide +kernel)
theorem cl_J7_317 : Cond.classLink RJ7 317 "[I" ∈ lwG := lw_in 322 (by decide +kernel) (by decide +kernel)
theorem ml_J7_304 : Cond.methodLink RJ7 304 yJ9_min_7cf53 ∈ lwG := lw_in 323 (by decide +kernel) (by decide +kernel)
theorem st_J9_min_7cf53 : Cond.static yJ9_min_7cf53 ∈ lwG := lw_in 324 (by decide +kernel) (by decide +kernel)
theorem co_J9_min_7cf53 : Cond.code yJ9_min_7cf53 prog_24_method_69_code 2 (some FieldType.int) ∈ lwG := lw_in 325 (by decide +kernel) (by decide +kernel)
theorem ml_J7_150 : Cond.methodLink RJ7 150 (⟨RJ10, "arraycopy", "(Ljava/lang/Object;ILjava/lang/Object;II)V"⟩ : MethodName) ∈ lwG := lw_in 326 (by decide +kernel) (by decide +kernel)
theorem st_J10_arraycopy__Ljava_lang_Object_ILjava_lang_Object_II_V : Cond.static (⟨RJ10, "arraycopy", "(Ljava/lang/Object;ILjava/lang/Object;II)V"⟩ : MethodName) ∈ lwG := lw_in 327 (by decide +kernel) (by decide +kernel)
theorem na_J10_arraycopy__Ljava_lang_Object_ILjava_lang_Object_II_V : Cond.native (⟨RJ10, "arraycopy", "(Ljava/lang/Object;ILjava/lang/Object;II)V"⟩ : MethodName) ∈ lwG := lw_in 328 (by decide +kernel) (by decide +kernel)
theorem ml_X3_33 : Cond.methodLink RX3 33 (⟨RJ10, "arraycopy", "(Ljava/lang/Object;ILjava/lang/Object;II)V"⟩ : MethodName) ∈ lwG := lw_in 329 (by decide +kernel) (by decide +kernel)
theorem fl_X12_10 : Cond.fieldLink RX12 10 "PackedTable" "store" "LPackedTable$Store;" ∈ lwG := lw_in 330 (by decide +kernel) (by decide +kernel)
theorem fl_X12_16 : Cond.fieldLink RX12 16 "PackedTable" "snapshot" "LPackedTable$Store;" ∈ lwG := lw_in 331 (by decide +kernel) (by decide +kernel)
theorem fl_X12_104 : Cond.fieldLink RX12 104 "PackedTable" "hasSnapshot" "Z" ∈ lwG := lw_in 332 (by decide +kernel) (by decide +kernel)
theorem fl_X12_22 : Cond.fieldLink RX12 22 "PackedTable" "history" "LPackedTable$History;" ∈ lwG := lw_in 333 (by decide +kernel) (by decide +kernel)
theorem fl_X12_29 : Cond.fieldLink RX12 29 "PackedTable" "input" "LPackedTable$Input;" ∈ lwG := lw_in 334 (by decide +kernel) (by decide +kernel)
theorem fl_X12_38 : Cond.fieldLink RX12 38 "PackedTable" "parser" "LPackedTable$Parser;" ∈ lwG := lw_in 335 (by decide +kernel) (by decide +kernel)
theorem fl_X12_42 : Cond.fieldLink RX12 42 "PackedTable" "output" "[B" ∈ lwG := lw_in 336 (by decide +kernel) (by decide +kernel)
theorem fl_X12_49 : Cond.fieldLink RX12 49 "PackedTable" "order" "LPackedTable$RowOrder;" ∈ lwG := lw_in 337 (by decide +kernel) (by decide +kernel)
theorem fl_X12_56 : Cond.fieldLink RX12 56 "PackedTable" "seen" "LPackedTable$Dictionary;" ∈ lwG := lw_in 338 (by decide +kernel) (by decide +kernel)
theorem fl_X12_63 : Cond.fieldLink RX12 63 "PackedTable" "packer" "LPackedTable$Packer;" ∈ lwG := lw_in 339 (by decide +kernel) (by decide +kernel)
theorem su_X12 : Cond.superclass RX12 "java/lang/Object" ∈ lwG := lw_in 362 (by decide +kernel) (by decide +kernel)
theorem ml_L_223 : Cond.methodLink RL 223 yX12_loadTable ∈ lwG := lw_in 363 (by decide +kernel) (by decide +kernel)
theorem im_X12_loadTable : Cond.instanceMethod yX12_loadTable ∈ lwG := lw_in 364 (by decide +kernel) (by decide +kernel)
theorem se_X12_loadTable : Cond.selects RX12 yX12_loadTable yX12_loadTable ∈ lwG := lw_in 365 (by decide +kernel) (by decide +kernel)
theorem co_X12_loadTable : Cond.code yX12_loadTable prog_1_method_3_code 3 (some FieldType.int) ∈ lwG := lw_in 366 (by decide +kernel) (by decide +kernel)
theorem ml_X12_83 : Cond.methodLink RX12 83 yX12_checkLength ∈ lwG := lw_in 367 (by decide +kernel) (by decide +kernel)
theorem im_X12_checkLength : Cond.instanceMethod yX12_checkLength ∈ lwG := lw_in 369 (by decide +kernel) (by decide +kernel)
theorem co_X12_checkLength : Cond.code yX12_checkLength prog_1_method_64_code 2 (none : Option FieldType) ∈ lwG := lw_in 370 (by decide +kernel) (by decide +kernel)
theorem ml_X12_75 : Cond.methodLink RX12 75 yX6_size ∈ lwG := lw_in 371 (by decide +kernel) (by decide +kernel)
theorem im_X6_size : Cond.instanceMethod yX6_size ∈ lwG := lw_in 372 (by decide +kernel) (by decide +kernel)
theorem se_X6_size : Cond.selects RX6 yX6_size yX6_size ∈ lwG := lw_in 373 (by decide +kernel) (by decide +kernel)
theorem co_X6_size : Cond.code yX6_size prog_8_method_2_code 1 (some FieldType.int) ∈ lwG := lw_in 374 (by decide +kernel) (by decide +kernel)
theorem cl_X12_347 : Cond.classLink RX12 347 "java/lang/IllegalArgumentException" ∈ lwG := lw_in 375 (by decide +kernel) (by decide +kernel)
theorem it_java_lang_IllegalArgumentException : Cond.instantiable "java/lang/IllegalArgumentException" 6 ∈ lwG := lw_in 376 (by decide +kernel) (by decide +kernel)
end
section
/-! the words that the tables hold, by their places -/
theorem se_java_lang_Throwable_fillInStackTrace__I_Ljava_lang_Throwable__b349 : Cond.selects "java/lang/IllegalArgumentException" (⟨"java/lang/Throwable", "fillInStackTrace", "(I)Ljava/lang/Throwable;"⟩ : MethodName) (⟨"java/lang/Throwable", "fillInStackTrace", "(I)Ljava/lang/Throwable;"⟩ : MethodName) ∈ lwG := lw_in 384 (by decide +kernel) (by decide +kernel)
theorem se_java_lang_Throwable_fillInStackTrace___Ljava_lang_Throwable_ : Cond.selects "java/lang/IllegalArgumentException" (⟨"java/lang/Throwable", "fillInStackTrace", "()Ljava/lang/Throwable;"⟩ : MethodName) (⟨"java/lang/Throwable", "fillInStackTrace", "()Ljava/lang/Throwable;"⟩ : MethodName) ∈ lwG := lw_in 385 (by decide +kernel) (by decide +kernel)
theorem fl_java_lang_Throwable_198 : Cond.fieldLink "java/lang/Throwable" 198 "java/lang/Throwable" "backtrace" "Ljava/lang/Object;" ∈ lwG := lw_in 396 (by decide +kernel) (by decide +kernel)
theorem su_java_lang_Throwable : Cond.superclass "java/lang/Throwable" "java/lang/Object" ∈ lwG := lw_in 397 (by decide +kernel) (by decide +kernel)
theorem im_java_lang_Throwable__init____V : Cond.instanceMethod (⟨"java/lang/Throwable", "<init>", "()V"⟩ : MethodName) ∈ lwG := lw_in 398 (by decide +kernel) (by decide +kernel)
theorem co_java_lang_Throwable__init____V : Cond.code (⟨"java/lang/Throwable", "<init>", "()V"⟩ : MethodName) prog_32_method_1_code 1 (none : Option FieldType) ∈ lwG := lw_in 399 (by decide +kernel) (by decide +kernel)
theorem ml_java_lang_Throwable_1 : Cond.methodLink "java/lang/Throwable" 1 (⟨"java/lang/Object", "<init>", "()V"⟩ : MethodName) ∈ lwG := lw_in 400 (by decide +kernel) (by decide +kernel)
theorem fl_java_lang_Throwable_13 : Cond.fieldLink "java/lang/Throwable" 13 "java/lang/Throwable" "UNASSIGNED_STACK" "[Ljava/lang/StackTraceElement;" ∈ lwG := lw_in 401 (by decide +kernel) (by decide +kernel)
theorem fl_java_lang_Throwable_20 : Cond.fieldLink "java/lang/Throwable" 20 "java/lang/Throwable" "SUPPRESSED_SENTINEL" "Ljava/util/List;" ∈ lwG := lw_in 403 (by decide +kernel) (by decide +kernel)
theorem ml_java_lang_Throwable_27 : Cond.methodLink "java/lang/Throwable" 27 (⟨"java/lang/Throwable", "fillInStackTrace", "()Ljava/lang/Throwable;"⟩ : MethodName) ∈ lwG := lw_in 405 (by decide +kernel) (by decide +kernel)
theorem im_java_lang_Throwable_fillInStackTrace___Ljava_lang_Throwable_ : Cond.instanceMethod (⟨"java/lang/Throwable", "fillInStackTrace", "()Ljava/lang/Throwable;"⟩ : MethodName) ∈ lwG := lw_in 406 (by decide +kernel) (by decide +kernel)
theorem sm_java_lang_Throwable_fillInStackTrace : Cond.sameMethod "java/lang/Throwable" "java/lang/Throwable" "fillInStackTrace" "()Ljava/lang/Throwable;" ∈ lwG := lw_in 407 (by decide +kernel) (by decide +kernel)
theorem se_java_lang_Throwable_fillInStackTrace___Ljava_lang_Throwable__b373 : Cond.selects "java/lang/IllegalStateException" (⟨"java/lang/Throwable", "fillInStackTrace", "()Ljava/lang/Throwable;"⟩ : MethodName) (⟨"java/lang/Throwable", "fillInStackTrace", "()Ljava/lang/Throwable;"⟩ : MethodName) ∈ lwG := lw_in 408 (by decide +kernel) (by decide +kernel)
theorem se_java_lang_Throwable_fillInStackTrace___Ljava_lang_Throwable__b374 : Cond.selects "java/lang/IndexOutOfBoundsException" (⟨"java/lang/Throwable", "fillInStackTrace", "()Ljava/lang/Throwable;"⟩ : MethodName) (⟨"java/lang/Throwable", "fillInStackTrace", "()Ljava/lang/Throwable;"⟩ : MethodName) ∈ lwG := lw_in 409 (by decide +kernel) (by decide +kernel)
theorem ml_java_lang_Throwable_202 : Cond.methodLink "java/lang/Throwable" 202 (⟨"java/lang/Throwable", "fillInStackTrace", "(I)Ljava/lang/Throwable;"⟩ : MethodName) ∈ lwG := lw_in 411 (by decide +kernel) (by decide +kernel)
theorem im_java_lang_Throwable_fillInStackTrace__I_Ljava_lang_Throwable_ : Cond.instanceMethod (⟨"java/lang/Throwable", "fillInStackTrace", "(I)Ljava/lang/Throwable;"⟩ : MethodName) ∈ lwG := lw_in 413 (by decide +kernel) (by decide +kernel)
theorem it_java_lang_Throwable : Cond.instantiable "java/lang/Throwable" 6 ∈ lwG := lw_in 414 (by decide +kernel) (by decide +kernel)
theorem na_java_lang_Throwable_fillInStackTrace__I_Ljava_lang_Throwable_ : Cond.native (⟨"java/lang/Throwable", "fillInStackTrace", "(I)Ljava/lang/Throwable;"⟩ : MethodName) ∈ lwG := lw_in 415 (by decide +kernel) (by decide +kernel)
theorem sr_X12_349 : Cond.stringRef RX12 349 "no such length" ∈ lw_tbl := List.mem_of_getElem? (i := 416) (by decide +kernel)
theorem ml_X12_351 : Cond.methodLink RX12 351 (⟨"java/lang/IllegalArgumentException", "<init>", "(Ljava/lang/String;)V"⟩ : MethodName) ∈ lwG := lw_in 417 (by decide +kernel) (by decide +kernel)
theorem im_java_lang_IllegalArgumentException__init___Ljava_lang_String__V : Cond.instanceMethod (⟨"java/lang/IllegalArgumentException", "<init>", "(Ljava/lang/String;)V"⟩ : MethodName) ∈ lwG := lw_in 418 (by decide +kernel) (by decide +kernel)
theorem co_java_lang_IllegalArgumentException__init___Ljava_lang_String__V : Cond.code (⟨"java/lang/IllegalArgumentException", "<init>", "(Ljava/lang/String;)V"⟩ : MethodName) prog_20_method_2_code 2 (none : Option FieldType) ∈ lwG := lw_in 419 (by decide +kernel) (by decide +kernel)
theorem ml_java_lang_IllegalArgumentException_7 : Cond.methodLink "java/lang/IllegalArgumentException" 7 (⟨"java/lang/RuntimeException", "<init>", "(Ljava/lang/String;)V"⟩ : MethodName) ∈ lwG := lw_in 420 (by decide +kernel) (by decide +kernel)
theorem im_java_lang_RuntimeException__init___Ljava_lang_String__V : Cond.instanceMethod (⟨"java/lang/RuntimeException", "<init>", "(Ljava/lang/String;)V"⟩ : MethodName) ∈ lwG := lw_in 421 (by decide +kernel) (by decide +kernel)
theorem co_java_lang_RuntimeException__init___Ljava_lang_String__V : Cond.code (⟨"java/lang/RuntimeException", "<init>", "(Ljava/lang/String;)V"⟩ : MethodName) prog_26_method_2_code 2 (none : Option FieldType) ∈ lwG := lw_in 422 (by decide +kernel) (by decide +kernel)
theorem ml_java_lang_RuntimeException_7 : Cond.methodLink "java/lang/RuntimeException" 7 (⟨"java/lang/Exception", "<init>", "(Ljava/lang/String;)V"⟩ : MethodName) ∈ lwG := lw_in 423 (by decide +kernel) (by decide +kernel)
theorem im_java_lang_Exception__init___Ljava_lang_String__V : Cond.instanceMethod (⟨"java/lang/Exception", "<init>", "(Ljava/lang/String;)V"⟩ : MethodName) ∈ lwG := lw_in 424 (by decide +kernel) (by decide +kernel)
theorem co_java_lang_Exception__init___Ljava_lang_String__V : Cond.code (⟨"java/lang/Exception", "<init>", "(Ljava/lang/String;)V"⟩ : MethodName) prog_19_method_2_code 2 (none : Option FieldType) ∈ lwG := lw_in 425 (by decide +kernel) (by decide +kernel)
theorem ml_java_lang_Exception_7 : Cond.methodLink "java/lang/Exception" 7 (⟨"java/lang/Throwable", "<init>", "(Ljava/lang/String;)V"⟩ : MethodName) ∈ lwG := lw_in 426 (by decide +kernel) (by decide +kernel)
theorem im_java_lang_Throwable__init___Ljava_lang_String__V : Cond.instanceMethod (⟨"java/lang/Throwable", "<init>", "(Ljava/lang/String;)V"⟩ : MethodName) ∈ lwG := lw_in 427 (by decide +kernel) (by decide +kernel)
theorem co_java_lang_Throwable__init___Ljava_lang_String__V : Cond.code (⟨"java/lang/Throwable", "<init>", "(Ljava/lang/String;)V"⟩ : MethodName) prog_32_method_2_code 2 (none : Option FieldType) ∈ lwG := lw_in 428 (by decide +kernel) (by decide +kernel)
theorem fl_java_lang_Throwable_198_b394 : Cond.fieldLink "java/lang/Throwable" 198 "java/lang/Throwable" "backtrace" "Ljava/lang/Object;" ∈ lwG := lw_in 429 (by decide +kernel) (by decide +kernel)
theorem fl_java_lang_Throwable_31 : Cond.fieldLink "java/lang/Throwable" 31 "java/lang/Throwable" "detailMessage" "Ljava/lang/String;" ∈ lwG := lw_in 430 (by decide +kernel) (by decide +kernel)
theorem fl_java_lang_Throwable_7 : Cond.fieldLink "java/lang/Throwable" 7 "java/lang/Throwable" "cause" "Ljava/lang/Throwable;" ∈ lwG := lw_in 431 (by decide +kernel) (by decide +kernel)
theorem fl_java_lang_Throwable_17 : Cond.fieldLink "java/lang/Throwable" 17 "java/lang/Throwable" "stackTrace" "[Ljava/lang/StackTraceElement;" ∈ lwG := lw_in 432 (by decide +kernel) (by decide +kernel)
theorem fl_java_lang_Throwable_24 : Cond.fieldLink "java/lang/Throwable" 24 "java/lang/Throwable" "suppressedExceptions" "Ljava/util/List;" ∈ lwG := lw_in 433 (by decide +kernel) (by decide +kernel)
theorem su_java_lang_IllegalArgumentException : Cond.superclass "java/lang/IllegalArgumentException" "java/lang/RuntimeException" ∈ lwG := lw_in 441 (by decide +kernel) (by decide +kernel)
theorem ml_X12_86 : Cond.methodLink RX12 86 yX9_readTable ∈ lwG := lw_in 442 (by decide +kernel) (by decide +kernel)
theorem im_X9_readTable : Cond.instanceMethod yX9_readTable ∈ lwG := lw_in 443 (by decide +kernel) (by decide +kernel)
theorem se_X9_readTable : Cond.selects RX9 yX9_readTable yX9_readTable ∈ lwG := lw_in 444 (by decide +kernel) (by decide +kernel)
theorem co_X9_readTable : Cond.code yX9_readTable prog_11_method_9_code 3 (some FieldType.boolean) ∈ lwG := lw_in 445 (by decide +kernel) (by decide +kernel)
theorem ml_X9_42 : Cond.methodLink RX9 42 yX9_start ∈ lwG := lw_in 446 (by decide +kernel) (by decide +kernel)
theorem im_X9_start : Cond.instanceMethod yX9_start ∈ lwG := lw_in 448 (by decide +kernel) (by decide +kernel)
theorem co_X9_start : Cond.code yX9_start prog_11_method_12_code 2 (none : Option FieldType) ∈ lwG := lw_in 449 (by decide +kernel) (by decide +kernel)
theorem ml_X9_75 : Cond.methodLink RX9 75 yX6_startText ∈ lwG := lw_in 450 (by decide +kernel) (by decide +kernel)
theorem im_X6_startText : Cond.instanceMethod yX6_startText ∈ lwG := lw_in 451 (by decide +kernel) (by decide +kernel)
theorem se_X6_startText : Cond.selects RX6 yX6_startText yX6_startText ∈ lwG := lw_in 452 (by decide +kernel) (by decide +kernel)
theorem co_X6_startText : Cond.code yX6_startText prog_8_method_5_code 2 (none : Option FieldType) ∈ lwG := lw_in 453 (by decide +kernel) (by decide +kernel)
theorem ml_X6_19 : Cond.methodLink RX6 19 yJ9_min_7cf53 ∈ lwG := lw_in 454 (by decide +kernel) (by decide +kernel)
theorem ml_X6_31 : Cond.methodLink RX6 31 yX6_next ∈ lwG := lw_in 455 (by decide +kernel) (by decide +kernel)
theorem im_X6_next : Cond.instanceMethod yX6_next ∈ lwG := lw_in 456 (by decide +kernel) (by decide +kernel)
theorem se_X6_next : Cond.selects RX6 yX6_next yX6_next ∈ lwG := lw_in 457 (by decide +kernel) (by decide +kernel)
theorem co_X6_next : Cond.code yX6_next prog_8_method_6_code 3 (none : Option FieldType) ∈ lwG := lw_in 458 (by decide +kernel) (by decide +kernel)
theorem ml_X6_34 : Cond.methodLink RX6 34 yX6_kindAt ∈ lwG := lw_in 459 (by decide +kernel) (by decide +kernel)
theorem im_X6_kindAt : Cond.instanceMethod yX6_kindAt ∈ lwG := lw_in 461 (by decide +kernel) (by decide +kernel)
theorem co_X6_kindAt : Cond.code yX6_kindAt prog_8_method_7_code 3 (some FieldType.int) ∈ lwG := lw_in 462 (by decide +kernel) (by decide +kernel)
theorem kc_X6_47 : Cond.constant RX6 47 (100000 : Int32) ∈ lwG := lw_in 463 (by decide +kernel) (by decide +kernel)
theorem ml_X9_46 : Cond.methodLink RX9 46 yX9_takeHead ∈ lwG := lw_in 464 (by decide +kernel) (by decide +kernel)
theorem im_X9_takeHead : Cond.instanceMethod yX9_takeHead ∈ lwG := lw_in 466 (by decide +kernel) (by decide +kernel)
theorem co_X9_takeHead : Cond.code yX9_takeHead prog_11_method_14_code 1 (some FieldType.boolean) ∈ lwG := lw_in 467 (by decide +kernel) (by decide +kernel)
theorem sr_X9_81 : Cond.stringRef RX9 81 "table" ∈ lw_tbl := List.mem_of_getElem? (i := 468) (by decide +kernel)
theorem ml_X9_83 : Cond.methodLink RX9 83 yX9_takeWord ∈ lwG := lw_in 469 (by decide +kernel) (by decide +kernel)
theorem im_X9_takeWord : Cond.instanceMethod yX9_takeWord ∈ lwG := lw_in 471 (by decide +kernel) (by decide +kernel)
theorem co_X9_takeWord : Cond.code yX9_takeWord prog_11_method_27_code 2 (some FieldType.boolean) ∈ lwG := lw_in 472 (by decide +kernel) (by decide +kernel)
theorem ml_X9_133 : Cond.methodLink RX9 133 yX6_isWord ∈ lwG := lw_in 473 (by decide +kernel) (by decide +kernel)
theorem im_X6_isWord : Cond.instanceMethod yX6_isWord ∈ lwG := lw_in 474 (by decide +kernel) (by decide +kernel)
theorem se_X6_isWord : Cond.selects RX6 yX6_isWord yX6_isWord ∈ lwG := lw_in 475 (by decide +kernel) (by decide +kernel)
theorem co_X6_isWord : Cond.code yX6_isWord prog_8_method_14_code 3 (some FieldType.boolean) ∈ lwG := lw_in 476 (by decide +kernel) (by decide +kernel)
theorem ml_X6_48 : Cond.methodLink RX6 48 yJ0_length_8abf5 ∈ lwG := lw_in 477 (by decide +kernel) (by decide +kernel)
theorem im_J0_length_8abf5 : Cond.instanceMethod yJ0_length_8abf5 ∈ lwG := lw_in 478 (by decide +kernel) (by decide +kernel)
theorem se_J0_length_8abf5 : Cond.selects RJ0 yJ0_length_8abf5 yJ0_length_8abf5 ∈ lwG := lw_in 479 (by decide +kernel) (by decide +kernel)
theorem co_J0_length_8abf5 : Cond.code yJ0_length_8abf5 prog_27_method_54_code 1 (some FieldType.int) ∈ lwG := lw_in 480 (by decide +kernel) (by decide +kernel)
theorem ml_J0_335 : Cond.methodLink RJ0 335 yJ0_coder_7d493 ∈ lwG := lw_in 481 (by decide +kernel) (by decide +kernel)
theorem im_J0_coder_7d493 : Cond.instanceMethod yJ0_coder_7d493 ∈ lwG := lw_in 482 (by decide +kernel) (by decide +kernel)
theorem se_J0_coder_7d493 : Cond.selects RJ0 yJ0_coder_7d493 yJ0_coder_7d493 ∈ lwG := lw_in 483 (by decide +kernel) (by decide +kernel)
theorem co_J0_coder_7d493 : Cond.code yJ0_coder_7d493 prog_27_method_152_code 1 (some FieldType.byte) ∈ lwG := lw_in 484 (by decide +kernel) (by decide +kernel)
theorem fl_J0_38 : Cond.fieldLink RJ0 38 "java/lang/String" "COMPACT_STRINGS" "Z" ∈ lwG := lw_in 485 (by decide +kernel) (by decide +kernel)
theorem ml_X6_54 : Cond.methodLink RX6 54 yJ0_charAt_5068e ∈ lwG := lw_in 487 (by decide +kernel) (by decide +kernel)
theorem im_J0_charAt_5068e : Cond.instanceMethod yJ0_charAt_5068e ∈ lwG := lw_in 488 (by decide +kernel) (by decide +kernel)
theorem se_J0_charAt_5068e : Cond.selects RJ0 yJ0_charAt_5068e yJ0_charAt_5068e ∈ lwG := lw_in 489 (by decide +kernel) (by decide +kernel)
theorem co_J0_charAt_5068e : Cond.code yJ0_charAt_5068e prog_27_method_56_code 2 (some FieldType.char) ∈ lwG := lw_in 490 (by decide +kernel) (by decide +kernel)
theorem ml_J0_492 : Cond.methodLink RJ0 492 yJ0_isLatin1_aae02 ∈ lwG := lw_in 491 (by decide +kernel) (by decide +kernel)
theorem im_J0_isLatin1_aae02 : Cond.instanceMethod yJ0_isLatin1_aae02 ∈ lwG := lw_in 492 (by decide +kernel) (by decide +kernel)
theorem se_J0_isLatin1_aae02 : Cond.selects RJ0 yJ0_isLatin1_aae02 yJ0_isLatin1_aae02 ∈ lwG := lw_in 493 (by decide +kernel) (by decide +kernel)
theorem co_J0_isLatin1_aae02 : Cond.code yJ0_isLatin1_aae02 prog_27_method_154_code 1 (some FieldType.boolean) ∈ lwG := lw_in 494 (by decide +kernel) (by decide +kernel)
theorem ml_J0_495 : Cond.methodLink RJ0 495 yJ1_charAt_3b067 ∈ lwG := lw_in 495 (by decide +kernel) (by decide +kernel)
theorem st_J1_charAt_3b067 : Cond.static yJ1_charAt_3b067 ∈ lwG := lw_in 496 (by decide +kernel) (by decide +kernel)
theorem co_J1_charAt_3b067 : Cond.code yJ1_charAt_3b067 prog_29_method_2_code 2 (some FieldType.char) ∈ lwG := lw_in 497 (by decide +kernel) (by decide +kernel)
theorem ml_J1_9 : Cond.methodLink RJ1 9 yJ0_checkIndex_df160 ∈ lwG := lw_in 498 (by decide +kernel) (by decide +kernel)
theorem st_J0_checkIndex_df160 : Cond.static yJ0_checkIndex_df160 ∈ lwG := lw_in 499 (by decide +kernel) (by decide +kernel)
theorem co_J0_checkIndex_df160 : Cond.code yJ0_checkIndex_df160 prog_27_method_155_code 2 (none : Option FieldType) ∈ lwG := lw_in 500 (by decide +kernel) (by decide +kernel)
theorem fl_J0_1053 : Cond.fieldLink RJ0 1053 "jdk/internal/util/Preconditions" "SIOOBE_FORMATTER" "Ljava/util/function/BiFunction;" ∈ lwG := lw_in 501 (by decide +kernel) (by decide +kernel)
theorem ml_J0_1059 : Cond.methodLink RJ0 1059 yJ3_checkIndex_8e157 ∈ lwG := lw_in 503 (by decide +kernel) (by decide +kernel)
theorem st_J3_checkIndex_8e157 : Cond.static yJ3_checkIndex_8e157 ∈ lwG := lw_in 504 (by decide +kernel) (by decide +kernel)
theorem co_J3_checkIndex_8e157 : Cond.code yJ3_checkIndex_8e157 prog_35_method_11_code 3 (some FieldType.int) ∈ lwG := lw_in 505 (by decide +kernel) (by decide +kernel)
theorem ml_J0_498 : Cond.methodLink RJ0 498 yJ2_charAt_3b067 ∈ lwG := lw_in 506 (by decide +kernel) (by decide +kernel)
theorem st_J2_charAt_3b067 : Cond.static yJ2_charAt_3b067 ∈ lwG := lw_in 507 (by decide +kernel) (by decide +kernel)
theorem co_J2_charAt_3b067 : Cond.code yJ2_charAt_3b067 prog_30_method_83_code 2 (some FieldType.char) ∈ lwG := lw_in 508 (by decide +kernel) (by decide +kernel)
theorem ml_J2_67 : Cond.methodLink RJ2 67 yJ2_checkIndex_2214a ∈ lwG := lw_in 509 (by decide +kernel) (by decide +kernel)
theorem st_J2_checkIndex_2214a : Cond.static yJ2_checkIndex_2214a ∈ lwG := lw_in 510 (by decide +kernel) (by decide +kernel)
theorem co_J2_checkIndex_2214a : Cond.code yJ2_checkIndex_2214a prog_30_method_91_code 2 (none : Option FieldType) ∈ lwG := lw_in 511 (by decide +kernel) (by decide +kernel)
theorem ml_J2_48 : Cond.methodLink RJ2 48 yJ2_length_9d52b ∈ lwG := lw_in 512 (by decide +kernel) (by decide +kernel)
theorem st_J2_length_9d52b : Cond.static yJ2_length_9d52b ∈ lwG := lw_in 513 (by decide +kernel) (by decide +kernel)
theorem co_J2_length_9d52b : Cond.code yJ2_length_9d52b prog_30_method_6_code 1 (some FieldType.int) ∈ lwG := lw_in 514 (by decide +kernel) (by decide +kernel)
theorem ml_J2_414 : Cond.methodLink RJ2 414 yJ0_checkIndex_df160 ∈ lwG := lw_in 515 (by decide +kernel) (by decide +kernel)
theorem ml_J2_71 : Cond.methodLink RJ2 71 yJ2_getChar_3b067 ∈ lwG := lw_in 516 (by decide +kernel) (by decide +kernel)
theorem st_J2_getChar_3b067 : Cond.static yJ2_getChar_3b067 ∈ lwG := lw_in 517 (by decide +kernel) (by decide +kernel)
theorem co_J2_getChar_3b067 : Cond.code yJ2_getChar_3b067 prog_30_method_5_code 2 (some FieldType.char) ∈ lwG := lw_in 518 (by decide +kernel) (by decide +kernel)
theorem fl_J2_44 : Cond.fieldLink RJ2 44 "java/lang/StringUTF16" "$assertionsDisabled" "Z" ∈ lwG := lw_in 519 (by decide +kernel) (by decide +kernel)
theorem fl_J2_59 : Cond.fieldLink RJ2 59 "java/lang/StringUTF16" "HI_BYTE_SHIFT" "I" ∈ lwG := lw_in 521 (by decide +kernel) (by decide +kernel)
theorem fl_J2_63 : Cond.fieldLink RJ2 63 "java/lang/StringUTF16" "LO_BYTE_SHIFT" "I" ∈ lwG := lw_in 523 (by decide +kernel) (by decide +kernel)
theorem ml_X9_100 : Cond.methodLink RX9 100 yX9_fail ∈ lwG := lw_in 525 (by decide +kernel) (by decide +kernel)
theorem im_X9_fail : Cond.instanceMethod yX9_fail ∈ lwG := lw_in 527 (by decide +kernel) (by decide +kernel)
theorem co_X9_fail : Cond.code yX9_fail prog_11_method_13_code 2 (some FieldType.boolean) ∈ lwG := lw_in 528 (by decide +kernel) (by decide +kernel)
theorem ml_X9_78 : Cond.methodLink RX9 78 yX6_offset ∈ lwG := lw_in 529 (by decide +kernel) (by decide +kernel)
theorem im_X6_offset : Cond.instanceMethod yX6_offset ∈ lwG := lw_in 530 (by decide +kernel) (by decide +kernel)
theorem se_X6_offset : Cond.selects RX6 yX6_offset yX6_offset ∈ lwG := lw_in 531 (by decide +kernel) (by decide +kernel)
theorem co_X6_offset : Cond.code yX6_offset prog_8_method_8_code 1 (some FieldType.int) ∈ lwG := lw_in 532 (by decide +kernel) (by decide +kernel)
theorem ml_X9_120 : Cond.methodLink RX9 120 yX6_next ∈ lwG := lw_in 533 (by decide +kernel) (by decide +kernel)
theorem ml_X9_87 : Cond.methodLink RX9 87 yX9_takeNumber ∈ lwG := lw_in 534 (by decide +kernel) (by decide +kernel)
theorem im_X9_takeNumber : Cond.instanceMethod yX9_takeNumber ∈ lwG := lw_in 536 (by decide +kernel) (by decide +kernel)
theorem co_X9_takeNumber : Cond.code yX9_takeNumber prog_11_method_26_code 3 (some FieldType.boolean) ∈ lwG := lw_in 537 (by decide +kernel) (by decide +kernel)
theorem ml_X9_104 : Cond.methodLink RX9 104 yX6_isNumber ∈ lwG := lw_in 538 (by decide +kernel) (by decide +kernel)
theorem im_X6_isNumber : Cond.instanceMethod yX6_isNumber ∈ lwG := lw_in 539 (by decide +kernel) (by decide +kernel)
theorem se_X6_isNumber : Cond.selects RX6 yX6_isNumber yX6_isNumber ∈ lwG := lw_in 540 (by decide +kernel) (by decide +kernel)
theorem co_X6_isNumber : Cond.code yX6_isNumber prog_8_method_10_code 1 (some FieldType.boolean) ∈ lwG := lw_in 541 (by decide +kernel) (by decide +kernel)
theorem ml_X9_107 : Cond.methodLink RX9 107 yX6_number ∈ lwG := lw_in 542 (by decide +kernel) (by decide +kernel)
theorem im_X6_number : Cond.instanceMethod yX6_number ∈ lwG := lw_in 543 (by decide +kernel) (by decide +kernel)
theorem se_X6_number : Cond.selects RX6 yX6_number yX6_number ∈ lwG := lw_in 544 (by decide +kernel) (by decide +kernel)
theorem co_X6_number : Cond.code yX6_number prog_8_method_11_code 1 (some FieldType.int) ∈ lwG := lw_in 545 (by decide +kernel) (by decide +kernel)
theorem ml_X9_72 : Cond.methodLink RX9 72 yX9_takeSemicolon ∈ lwG := lw_in 546 (by decide +kernel) (by decide +kernel)
theorem im_X9_takeSemicolon : Cond.instanceMethod yX9_takeSemicolon ∈ lwG := lw_in 548 (by decide +kernel) (by decide +kernel)
theorem co_X9_takeSemicolon : Cond.code yX9_takeSemicolon prog_11_method_28_code 1 (some FieldType.boolean) ∈ lwG := lw_in 549 (by decide +kernel) (by decide +kernel)
theorem ml_X9_171 : Cond.methodLink RX9 171 yX6_isSemicolon ∈ lwG := lw_in 550 (by decide +kernel) (by decide +kernel)
theorem im_X6_isSemicolon : Cond.instanceMethod yX6_isSemicolon ∈ lwG := lw_in 551 (by decide +kernel) (by decide +kernel)
theorem se_X6_isSemicolon : Cond.selects RX6 yX6_isSemicolon yX6_isSemicolon ∈ lwG := lw_in 552 (by decide +kernel) (by decide +kernel)
theorem co_X6_isSemicolon : Cond.code yX6_isSemicolon prog_8_method_12_code 1 (some FieldType.boolean) ∈ lwG := lw_in 553 (by decide +kernel) (by decide +kernel)
theorem ml_X9_50 : Cond.methodLink RX9 50 yX6_isAtEnd ∈ lwG := lw_in 554 (by decide +kernel) (by decide +kernel)
theorem im_X6_isAtEnd : Cond.instanceMethod yX6_isAtEnd ∈ lwG := lw_in 555 (by decide +kernel) (by decide +kernel)
theorem se_X6_isAtEnd : Cond.selects RX6 yX6_isAtEnd yX6_isAtEnd ∈ lwG := lw_in 556 (by decide +kernel) (by decide +kernel)
theorem co_X6_isAtEnd : Cond.code yX6_isAtEnd prog_8_method_9_code 1 (some FieldType.boolean) ∈ lwG := lw_in 557 (by decide +kernel) (by decide +kernel)
theorem ml_X9_55 : Cond.methodLink RX9 55 yX9_takeTableRow ∈ lwG := lw_in 558 (by decide +kernel) (by decide +kernel)
theorem im_X9_takeTableRow : Cond.instanceMethod yX9_takeTableRow ∈ lwG := lw_in 560 (by decide +kernel) (by decide +kernel)
theorem co_X9_takeTableRow : Cond.code yX9_takeTableRow prog_11_method_15_code 1 (some FieldType.boolean) ∈ lwG := lw_in 561 (by decide +kernel) (by decide +kernel)
theorem ml_X9_94 : Cond.methodLink RX9 94 yX9_failAtExtraRow ∈ lwG := lw_in 562 (by decide +kernel) (by decide +kernel)
theorem im_X9_failAtExtraRow : Cond.instanceMethod yX9_failAtExtraRow ∈ lwG := lw_in 564 (by decide +kernel) (by decide +kernel)
theorem co_X9_failAtExtraRow : Cond.code yX9_failAtExtraRow prog_11_method_16_code 1 (some FieldType.boolean) ∈ lwG := lw_in 565 (by decide +kernel) (by decide +kernel)
theorem ml_X9_97 : Cond.methodLink RX9 97 yX6_isMinus ∈ lwG := lw_in 566 (by decide +kernel) (by decide +kernel)
theorem im_X6_isMinus : Cond.instanceMethod yX6_isMinus ∈ lwG := lw_in 567 (by decide +kernel) (by decide +kernel)
theorem se_X6_isMinus : Cond.selects RX6 yX6_isMinus yX6_isMinus ∈ lwG := lw_in 568 (by decide +kernel) (by decide +kernel)
theorem co_X6_isMinus : Cond.code yX6_isMinus prog_8_method_13_code 1 (some FieldType.boolean) ∈ lwG := lw_in 569 (by decide +kernel) (by decide +kernel)
theorem ml_X9_58 : Cond.methodLink RX9 58 yX9_takeRow ∈ lwG := lw_in 570 (by decide +kernel) (by decide +kernel)
theorem im_X9_takeRow : Cond.instanceMethod yX9_takeRow ∈ lwG := lw_in 572 (by decide +kernel) (by decide +kernel)
theorem co_X9_takeRow : Cond.code yX9_takeRow prog_11_method_17_code 4 (some FieldType.boolean) ∈ lwG := lw_in 573 (by decide +kernel) (by decide +kernel)
theorem ml_X9_109 : Cond.methodLink RX9 109 yX9_takeInteger ∈ lwG := lw_in 574 (by decide +kernel) (by decide +kernel)
theorem im_X9_takeInteger : Cond.instanceMethod yX9_takeInteger ∈ lwG := lw_in 576 (by decide +kernel) (by decide +kernel)
theorem co_X9_takeInteger : Cond.code yX9_takeInteger prog_11_method_25_code 3 (some FieldType.boolean) ∈ lwG := lw_in 577 (by decide +kernel) (by decide +kernel)
theorem ml_X12_90 : Cond.methodLink RX12 90 yX6_clear ∈ lwG := lw_in 578 (by decide +kernel) (by decide +kernel)
theorem im_X6_clear : Cond.instanceMethod yX6_clear ∈ lwG := lw_in 579 (by decide +kernel) (by decide +kernel)
theorem se_X6_clear : Cond.selects RX6 yX6_clear yX6_clear ∈ lwG := lw_in 580 (by decide +kernel) (by decide +kernel)
theorem co_X6_clear : Cond.code yX6_clear prog_8_method_4_code 1 (none : Option FieldType) ∈ lwG := lw_in 581 (by decide +kernel) (by decide +kernel)
theorem ml_X12_93 : Cond.methodLink RX12 93 yX9_columns ∈ lwG := lw_in 582 (by decide +kernel) (by decide +kernel)
theorem im_X9_columns : Cond.instanceMethod yX9_columns ∈ lwG := lw_in 583 (by decide +kernel) (by decide +kernel)
theorem se_X9_columns : Cond.selects RX9 yX9_columns yX9_columns ∈ lwG := lw_in 584 (by decide +kernel) (by decide +kernel)
theorem co_X9_columns : Cond.code yX9_columns prog_11_method_4_code 1 (some FieldType.int) ∈ lwG := lw_in 585 (by decide +kernel) (by decide +kernel)
theorem ml_X12_96 : Cond.methodLink RX12 96 yX9_rows ∈ lwG := lw_in 586 (by decide +kernel) (by decide +kernel)
theorem im_X9_rows : Cond.instanceMethod yX9_rows ∈ lwG := lw_in 587 (by decide +kernel) (by decide +kernel)
theorem se_X9_rows : Cond.selects RX9 yX9_rows yX9_rows ∈ lwG := lw_in 588 (by decide +kernel) (by decide +kernel)
theorem co_X9_rows : Cond.code yX9_rows prog_11_method_5_code 1 (some FieldType.int) ∈ lwG := lw_in 589 (by decide +kernel) (by decide +kernel)
theorem ml_X12_99 : Cond.methodLink RX12 99 yX9_cells ∈ lwG := lw_in 590 (by decide +kernel) (by decide +kernel)
theorem im_X9_cells : Cond.instanceMethod yX9_cells ∈ lwG := lw_in 591 (by decide +kernel) (by decide +kernel)
theorem se_X9_cells : Cond.selects RX9 yX9_cells yX9_cells ∈ lwG := lw_in 592 (by decide +kernel) (by decide +kernel)
theorem co_X9_cells : Cond.code yX9_cells prog_11_method_6_code 1 (some (FieldType.array FieldType.int)) ∈ lwG := lw_in 593 (by decide +kernel) (by decide +kernel)
theorem ml_X12_103 : Cond.methodLink RX12 103 yX5_clear ∈ lwG := lw_in 594 (by decide +kernel) (by decide +kernel)
theorem im_X5_clear : Cond.instanceMethod yX5_clear ∈ lwG := lw_in 595 (by decide +kernel) (by decide +kernel)
theorem se_X5_clear : Cond.selects RX5 yX5_clear yX5_clear ∈ lwG := lw_in 596 (by decide +kernel) (by decide +kernel)
theorem co_X5_clear : Cond.code yX5_clear prog_7_method_3_code 1 (none : Option FieldType) ∈ lwG := lw_in 597 (by decide +kernel) (by decide +kernel)
theorem ml_X12_108 : Cond.methodLink RX12 108 yX11_rows ∈ lwG := lw_in 598 (by decide +kernel) (by decide +kernel)
theorem im_X11_rows : Cond.instanceMethod yX11_rows ∈ lwG := lw_in 599 (by decide +kernel) (by decide +kernel)
theorem se_X11_rows : Cond.selects RX11 yX11_rows yX11_rows ∈ lwG := lw_in 600 (by decide +kernel) (by decide +kernel)
theorem co_X11_rows : Cond.code yX11_rows prog_13_method_3_code 1 (some FieldType.int) ∈ lwG := lw_in 601 (by decide +kernel) (by decide +kernel)
theorem ml_X11_29 : Cond.methodLink RX11 29 yX1_length ∈ lwG := lw_in 602 (by decide +kernel) (by decide +kernel)
theorem im_X1_length : Cond.instanceMethod yX1_length ∈ lwG := lw_in 603 (by decide +kernel) (by decide +kernel)
theorem se_X1_length : Cond.selects RX1 yX1_length yX1_length ∈ lwG := lw_in 604 (by decide +kernel) (by decide +kernel)
theorem co_X1_length : Cond.code yX1_length prog_3_method_2_code 1 (some FieldType.int) ∈ lwG := lw_in 605 (by decide +kernel) (by decide +kernel)
theorem ml_L_226 : Cond.methodLink RL 226 yX12_undoableCount ∈ lwG := lw_in 606 (by decide +kernel) (by decide +kernel)
theorem im_X12_undoableCount : Cond.instanceMethod yX12_undoableCount ∈ lwG := lw_in 607 (by decide +kernel) (by decide +kernel)
theorem se_X12_undoableCount : Cond.selects RX12 yX12_undoableCount yX12_undoableCount ∈ lwG := lw_in 608 (by decide +kernel) (by decide +kernel)
theorem co_X12_undoableCount : Cond.code yX12_undoableCount prog_1_method_60_code 1 (some FieldType.int) ∈ lwG := lw_in 609 (by decide +kernel) (by decide +kernel)
theorem ml_X12_336 : Cond.methodLink RX12 336 yX5_size ∈ lwG := lw_in 610 (by decide +kernel) (by decide +kernel)
theorem im_X5_size : Cond.instanceMethod yX5_size ∈ lwG := lw_in 611 (by decide +kernel) (by decide +kernel)
theorem se_X5_size : Cond.selects RX5 yX5_size yX5_size ∈ lwG := lw_in 612 (by decide +kernel) (by decide +kernel)
theorem co_X5_size : Cond.code yX5_size prog_7_method_2_code 1 (some FieldType.int) ∈ lwG := lw_in 613 (by decide +kernel) (by decide +kernel)
theorem ml_L_244 : Cond.methodLink RL 244 yX12_undo ∈ lwG := lw_in 614 (by decide +kernel) (by decide +kernel)
theorem im_X12_undo : Cond.instanceMethod yX12_undo ∈ lwG := lw_in 615 (by decide +kernel) (by decide +kernel)
theorem se_X12_undo : Cond.selects RX12 yX12_undo yX12_undo ∈ lwG := lw_in 616 (by decide +kernel) (by decide +kernel)
theorem co_X12_undo : Cond.code yX12_undo prog_1_method_61_code 1 (some FieldType.int) ∈ lwG := lw_in 617 (by decide +kernel) (by decide +kernel)
theorem cl_X12_266 : Cond.classLink RX12 266 "java/lang/IllegalStateException" ∈ lwG := lw_in 618 (by decide +kernel) (by decide +kernel)
theorem it_java_lang_IllegalStateException : Cond.instantiable "java/lang/IllegalStateException" 6 ∈ lwG := lw_in 619 (by decide +kernel) (by decide +kernel)
theorem se_java_lang_Throwable_fillInStackTrace__I_Ljava_lang_Throwable__b586 : Cond.selects "java/lang/IllegalStateException" (⟨"java/lang/Throwable", "fillInStackTrace", "(I)Ljava/lang/Throwable;"⟩ : MethodName) (⟨"java/lang/Throwable", "fillInStackTrace", "(I)Ljava/lang/Throwable;"⟩ : MethodName) ∈ lwG := lw_in 621 (by decide +kernel) (by decide +kernel)
theorem sr_X12_337 : Cond.stringRef RX12 337 "nothing to undo" ∈ lw_tbl := List.mem_of_getElem? (i := 627) (by decide +kernel)
theorem ml_X12_270 : Cond.methodLink RX12 270 (⟨"java/lang/IllegalStateException", "<init>", "(Ljava/lang/String;)V"⟩ : MethodName) ∈ lwG := lw_in 628 (by decide +kernel) (by decide +kernel)
theorem im_java_lang_IllegalStateException__init___Ljava_lang_String__V : Cond.instanceMethod (⟨"java/lang/IllegalStateException", "<init>", "(Ljava/lang/String;)V"⟩ : MethodName) ∈ lwG := lw_in 629 (by decide +kernel) (by decide +kernel)
theorem co_java_lang_IllegalStateException__init___Ljava_lang_String__V : Cond.code (⟨"java/lang/IllegalStateException", "<init>", "(Ljava/lang/String;)V"⟩ : MethodName) prog_21_method_2_code 2 (none : Option FieldType) ∈ lwG := lw_in 630 (by decide +kernel) (by decide +kernel)
theorem ml_java_lang_IllegalStateException_7 : Cond.methodLink "java/lang/IllegalStateException" 7 (⟨"java/lang/RuntimeException", "<init>", "(Ljava/lang/String;)V"⟩ : MethodName) ∈ lwG := lw_in 631 (by decide +kernel) (by decide +kernel)
theorem su_java_lang_IllegalStateException : Cond.superclass "java/lang/IllegalStateException" "java/lang/RuntimeException" ∈ lwG := lw_in 633 (by decide +kernel) (by decide +kernel)
theorem ml_X12_339 : Cond.methodLink RX12 339 yX5_takeBack ∈ lwG := lw_in 634 (by decide +kernel) (by decide +kernel)
theorem im_X5_takeBack : Cond.instanceMethod yX5_takeBack ∈ lwG := lw_in 635 (by decide +kernel) (by decide +kernel)
theorem se_X5_takeBack : Cond.selects RX5 yX5_takeBack yX5_takeBack ∈ lwG := lw_in 636 (by decide +kernel) (by decide +kernel)
theorem co_X5_takeBack : Cond.code yX5_takeBack prog_7_method_5_code 2 (none : Option FieldType) ∈ lwG := lw_in 637 (by decide +kernel) (by decide +kernel)
theorem ml_X5_25 : Cond.methodLink RX5 25 yX11_copyFrom ∈ lwG := lw_in 638 (by decide +kernel) (by decide +kernel)
theorem im_X11_copyFrom : Cond.instanceMethod yX11_copyFrom ∈ lwG := lw_in 639 (by decide +kernel) (by decide +kernel)
theorem se_X11_copyFrom : Cond.selects RX11 yX11_copyFrom yX11_copyFrom ∈ lwG := lw_in 640 (by decide +kernel) (by decide +kernel)
theorem co_X11_copyFrom : Cond.code yX11_copyFrom prog_13_method_24_code 3 (none : Option FieldType) ∈ lwG := lw_in 641 (by decide +kernel) (by decide +kernel)
theorem ml_X11_115 : Cond.methodLink RX11 115 yX1_copyFrom ∈ lwG := lw_in 642 (by decide +kernel) (by decide +kernel)
theorem im_X1_copyFrom : Cond.instanceMethod yX1_copyFrom ∈ lwG := lw_in 643 (by decide +kernel) (by decide +kernel)
theorem se_X1_copyFrom : Cond.selects RX1 yX1_copyFrom yX1_copyFrom ∈ lwG := lw_in 644 (by decide +kernel) (by decide +kernel)
theorem co_X1_copyFrom : Cond.code yX1_copyFrom prog_3_method_19_code 2 (none : Option FieldType) ∈ lwG := lw_in 645 (by decide +kernel) (by decide +kernel)
theorem ml_X1_59 : Cond.methodLink RX1 59 (⟨RJ10, "arraycopy", "(Ljava/lang/Object;ILjava/lang/Object;II)V"⟩ : MethodName) ∈ lwG := lw_in 646 (by decide +kernel) (by decide +kernel)
theorem ml_X1_65 : Cond.methodLink RX1 65 yX3_copyFrom ∈ lwG := lw_in 647 (by decide +kernel) (by decide +kernel)
theorem im_X3_copyFrom : Cond.instanceMethod yX3_copyFrom ∈ lwG := lw_in 648 (by decide +kernel) (by decide +kernel)
theorem se_X3_copyFrom : Cond.selects RX3 yX3_copyFrom yX3_copyFrom ∈ lwG := lw_in 649 (by decide +kernel) (by decide +kernel)
theorem co_X3_copyFrom : Cond.code yX3_copyFrom prog_5_method_11_code 2 (none : Option FieldType) ∈ lwG := lw_in 650 (by decide +kernel) (by decide +kernel)
theorem ml_X11_119 : Cond.methodLink RX11 119 yX4_copyFrom ∈ lwG := lw_in 651 (by decide +kernel) (by decide +kernel)
theorem im_X4_copyFrom : Cond.instanceMethod yX4_copyFrom ∈ lwG := lw_in 652 (by decide +kernel) (by decide +kernel)
theorem se_X4_copyFrom : Cond.selects RX4 yX4_copyFrom yX4_copyFrom ∈ lwG := lw_in 653 (by decide +kernel) (by decide +kernel)
theorem co_X4_copyFrom : Cond.code yX4_copyFrom prog_6_method_12_code 2 (none : Option FieldType) ∈ lwG := lw_in 654 (by decide +kernel) (by decide +kernel)
theorem ml_X4_31 : Cond.methodLink RX4 31 (⟨RJ10, "arraycopy", "(Ljava/lang/Object;ILjava/lang/Object;II)V"⟩ : MethodName) ∈ lwG := lw_in 655 (by decide +kernel) (by decide +kernel)
theorem ml_L_251 : Cond.methodLink RL 251 yX12_saveSnapshot ∈ lwG := lw_in 656 (by decide +kernel) (by decide +kernel)
theorem im_X12_saveSnapshot : Cond.instanceMethod yX12_saveSnapshot ∈ lwG := lw_in 657 (by decide +kernel) (by decide +kernel)
theorem se_X12_saveSnapshot : Cond.selects RX12 yX12_saveSnapshot yX12_saveSnapshot ∈ lwG := lw_in 658 (by decide +kernel) (by decide +kernel)
theorem co_X12_saveSnapshot : Cond.code yX12_saveSnapshot prog_1_method_62_code 1 (none : Option FieldType) ∈ lwG := lw_in 659 (by decide +kernel) (by decide +kernel)
theorem ml_X12_342 : Cond.methodLink RX12 342 yX11_copyFrom ∈ lwG := lw_in 660 (by decide +kernel) (by decide +kernel)
theorem ml_L_254 : Cond.methodLink RL 254 yX12_restoreSnapshot ∈ lwG := lw_in 661 (by decide +kernel) (by decide +kernel)
theorem im_X12_restoreSnapshot : Cond.instanceMethod yX12_restoreSnapshot ∈ lwG := lw_in 662 (by decide +kernel) (by decide +kernel)
theorem se_X12_restoreSnapshot : Cond.selects RX12 yX12_restoreSnapshot yX12_restoreSnapshot ∈ lwG := lw_in 663 (by decide +kernel) (by decide +kernel)
theorem co_X12_restoreSnapshot : Cond.code yX12_restoreSnapshot prog_1_method_63_code 1 (some FieldType.int) ∈ lwG := lw_in 664 (by decide +kernel) (by decide +kernel)
theorem sr_X12_345 : Cond.stringRef RX12 345 "no snapshot" ∈ lw_tbl := List.mem_of_getElem? (i := 665) (by decide +kernel)
theorem ml_L_146 : Cond.methodLink RL 146 yL_most ∈ lwG := lw_in 666 (by decide +kernel) (by decide +kernel)
theorem st_L_most : Cond.static yL_most ∈ lwG := lw_in 667 (by decide +kernel) (by decide +kernel)
theorem co_L_most : Cond.code yL_most method_2_code 2 (some FieldType.int) ∈ lwG := lw_in 668 (by decide +kernel) (by decide +kernel)
theorem kc_L_7 : Cond.constant RL 7 (2147483647 : Int32) ∈ lwG := lw_in 669 (by decide +kernel) (by decide +kernel)
theorem ml_L_211 : Cond.methodLink RL 211 yL_cell ∈ lwG := lw_in 670 (by decide +kernel) (by decide +kernel)
theorem st_L_cell : Cond.static yL_cell ∈ lwG := lw_in 671 (by decide +kernel) (by decide +kernel)
theorem co_L_cell : Cond.code yL_cell method_3_code 2 (some FieldType.int) ∈ lwG := lw_in 672 (by decide +kernel) (by decide +kernel)
theorem ml_L_170 : Cond.methodLink RL 170 yL_say ∈ lwG := lw_in 673 (by decide +kernel) (by decide +kernel)
theorem st_L_say : Cond.static yL_say ∈ lwG := lw_in 674 (by decide +kernel) (by decide +kernel)
theorem co_L_say : Cond.code yL_say method_5_code 4 (none : Option FieldType) ∈ lwG := lw_in 675 (by decide +kernel) (by decide +kernel)
theorem ml_L_14 : Cond.methodLink RL 14 yJ0_length_8abf5 ∈ lwG := lw_in 676 (by decide +kernel) (by decide +kernel)
theorem ml_L_20 : Cond.methodLink RL 20 yJ0_charAt_5068e ∈ lwG := lw_in 677 (by decide +kernel) (by decide +kernel)
theorem ml_L_24 : Cond.methodLink RL 24 yL_add ∈ lwG := lw_in 678 (by decide +kernel) (by decide +kernel)
theorem st_L_add : Cond.static yL_add ∈ lwG := lw_in 679 (by decide +kernel) (by decide +kernel)
theorem co_L_add : Cond.code yL_add method_4_code 4 (none : Option FieldType) ∈ lwG := lw_in 680 (by decide +kernel) (by decide +kernel)
theorem ml_L_8 : Cond.methodLink RL 8 yX12_appendText ∈ lwG := lw_in 681 (by decide +kernel) (by decide +kernel)
theorem im_X12_appendText : Cond.instanceMethod yX12_appendText ∈ lwG := lw_in 682 (by decide +kernel) (by decide +kernel)
theorem se_X12_appendText : Cond.selects RX12 yX12_appendText yX12_appendText ∈ lwG := lw_in 683 (by decide +kernel) (by decide +kernel)
theorem co_X12_appendText : Cond.code yX12_appendText prog_1_method_2_code 6 (some FieldType.int) ∈ lwG := lw_in 684 (by decide +kernel) (by decide +kernel)
theorem ml_X12_79 : Cond.methodLink RX12 79 yX6_append ∈ lwG := lw_in 685 (by decide +kernel) (by decide +kernel)
theorem im_X6_append : Cond.instanceMethod yX6_append ∈ lwG := lw_in 686 (by decide +kernel) (by decide +kernel)
theorem se_X6_append : Cond.selects RX6 yX6_append yX6_append ∈ lwG := lw_in 687 (by decide +kernel) (by decide +kernel)
end
section
/-! the words that the tables hold, by their places -/
theorem co_X6_append : Cond.code yX6_append prog_8_method_3_code 3 (none : Option FieldType) ∈ lwG := lw_in 688 (by decide +kernel) (by decide +kernel)
theorem ml_L_174 : Cond.methodLink RL 174 yL_end ∈ lwG := lw_in 689 (by decide +kernel) (by decide +kernel)
theorem st_L_end : Cond.static yL_end ∈ lwG := lw_in 690 (by decide +kernel) (by decide +kernel)
theorem co_L_end : Cond.code yL_end method_6_code 3 (some FieldType.int) ∈ lwG := lw_in 691 (by decide +kernel) (by decide +kernel)
theorem ml_L_236 : Cond.methodLink RL 236 yL_all ∈ lwG := lw_in 692 (by decide +kernel) (by decide +kernel)
theorem st_L_all : Cond.static yL_all ∈ lwG := lw_in 693 (by decide +kernel) (by decide +kernel)
theorem co_L_all : Cond.code yL_all method_7_code 8 (some (FieldType.array FieldType.int)) ∈ lwG := lw_in 694 (by decide +kernel) (by decide +kernel)
theorem ml_L_30 : Cond.methodLink RL 30 yX12_columnCount ∈ lwG := lw_in 695 (by decide +kernel) (by decide +kernel)
theorem im_X12_columnCount : Cond.instanceMethod yX12_columnCount ∈ lwG := lw_in 696 (by decide +kernel) (by decide +kernel)
theorem se_X12_columnCount : Cond.selects RX12 yX12_columnCount yX12_columnCount ∈ lwG := lw_in 697 (by decide +kernel) (by decide +kernel)
theorem co_X12_columnCount : Cond.code yX12_columnCount prog_1_method_6_code 1 (some FieldType.int) ∈ lwG := lw_in 698 (by decide +kernel) (by decide +kernel)
theorem ml_X12_115 : Cond.methodLink RX12 115 yX11_columns ∈ lwG := lw_in 699 (by decide +kernel) (by decide +kernel)
theorem im_X11_columns : Cond.instanceMethod yX11_columns ∈ lwG := lw_in 700 (by decide +kernel) (by decide +kernel)
theorem se_X11_columns : Cond.selects RX11 yX11_columns yX11_columns ∈ lwG := lw_in 701 (by decide +kernel) (by decide +kernel)
theorem co_X11_columns : Cond.code yX11_columns prog_13_method_2_code 1 (some FieldType.int) ∈ lwG := lw_in 702 (by decide +kernel) (by decide +kernel)
theorem ml_L_33 : Cond.methodLink RL 33 yX12_rowCount ∈ lwG := lw_in 703 (by decide +kernel) (by decide +kernel)
theorem im_X12_rowCount : Cond.instanceMethod yX12_rowCount ∈ lwG := lw_in 704 (by decide +kernel) (by decide +kernel)
theorem se_X12_rowCount : Cond.selects RX12 yX12_rowCount yX12_rowCount ∈ lwG := lw_in 705 (by decide +kernel) (by decide +kernel)
theorem co_X12_rowCount : Cond.code yX12_rowCount prog_1_method_7_code 1 (some FieldType.int) ∈ lwG := lw_in 706 (by decide +kernel) (by decide +kernel)
theorem ml_L_36 : Cond.methodLink RL 36 yX12_dictionarySize ∈ lwG := lw_in 707 (by decide +kernel) (by decide +kernel)
theorem im_X12_dictionarySize : Cond.instanceMethod yX12_dictionarySize ∈ lwG := lw_in 708 (by decide +kernel) (by decide +kernel)
theorem se_X12_dictionarySize : Cond.selects RX12 yX12_dictionarySize yX12_dictionarySize ∈ lwG := lw_in 709 (by decide +kernel) (by decide +kernel)
theorem co_X12_dictionarySize : Cond.code yX12_dictionarySize prog_1_method_10_code 2 (some FieldType.int) ∈ lwG := lw_in 710 (by decide +kernel) (by decide +kernel)
theorem ml_X12_116 : Cond.methodLink RX12 116 yX12_checkColumn ∈ lwG := lw_in 711 (by decide +kernel) (by decide +kernel)
theorem im_X12_checkColumn : Cond.instanceMethod yX12_checkColumn ∈ lwG := lw_in 713 (by decide +kernel) (by decide +kernel)
theorem co_X12_checkColumn : Cond.code yX12_checkColumn prog_1_method_65_code 2 (none : Option FieldType) ∈ lwG := lw_in 714 (by decide +kernel) (by decide +kernel)
theorem cl_X12_166 : Cond.classLink RX12 166 "java/lang/IndexOutOfBoundsException" ∈ lwG := lw_in 715 (by decide +kernel) (by decide +kernel)
theorem it_java_lang_IndexOutOfBoundsException : Cond.instantiable "java/lang/IndexOutOfBoundsException" 6 ∈ lwG := lw_in 716 (by decide +kernel) (by decide +kernel)
theorem se_java_lang_Throwable_fillInStackTrace__I_Ljava_lang_Throwable__b683 : Cond.selects "java/lang/IndexOutOfBoundsException" (⟨"java/lang/Throwable", "fillInStackTrace", "(I)Ljava/lang/Throwable;"⟩ : MethodName) (⟨"java/lang/Throwable", "fillInStackTrace", "(I)Ljava/lang/Throwable;"⟩ : MethodName) ∈ lwG := lw_in 718 (by decide +kernel) (by decide +kernel)
theorem sr_X12_352 : Cond.stringRef RX12 352 "no such column" ∈ lw_tbl := List.mem_of_getElem? (i := 724) (by decide +kernel)
theorem ml_X12_170 : Cond.methodLink RX12 170 (⟨"java/lang/IndexOutOfBoundsException", "<init>", "(Ljava/lang/String;)V"⟩ : MethodName) ∈ lwG := lw_in 725 (by decide +kernel) (by decide +kernel)
theorem im_java_lang_IndexOutOfBoundsException__init___Ljava_lang_String__V : Cond.instanceMethod (⟨"java/lang/IndexOutOfBoundsException", "<init>", "(Ljava/lang/String;)V"⟩ : MethodName) ∈ lwG := lw_in 726 (by decide +kernel) (by decide +kernel)
theorem co_java_lang_IndexOutOfBoundsException__init___Ljava_lang_String__V : Cond.code (⟨"java/lang/IndexOutOfBoundsException", "<init>", "(Ljava/lang/String;)V"⟩ : MethodName) prog_22_method_2_code 2 (none : Option FieldType) ∈ lwG := lw_in 727 (by decide +kernel) (by decide +kernel)
theorem ml_java_lang_IndexOutOfBoundsException_7 : Cond.methodLink "java/lang/IndexOutOfBoundsException" 7 (⟨"java/lang/RuntimeException", "<init>", "(Ljava/lang/String;)V"⟩ : MethodName) ∈ lwG := lw_in 728 (by decide +kernel) (by decide +kernel)
theorem su_java_lang_IndexOutOfBoundsException : Cond.superclass "java/lang/IndexOutOfBoundsException" "java/lang/RuntimeException" ∈ lwG := lw_in 730 (by decide +kernel) (by decide +kernel)
theorem ml_X12_135 : Cond.methodLink RX12 135 yX11_dictionary ∈ lwG := lw_in 731 (by decide +kernel) (by decide +kernel)
theorem im_X11_dictionary : Cond.instanceMethod yX11_dictionary ∈ lwG := lw_in 732 (by decide +kernel) (by decide +kernel)
theorem se_X11_dictionary : Cond.selects RX11 yX11_dictionary yX11_dictionary ∈ lwG := lw_in 733 (by decide +kernel) (by decide +kernel)
theorem co_X11_dictionary : Cond.code yX11_dictionary prog_13_method_5_code 2 (some (FieldType.object "PackedTable$Dictionary")) ∈ lwG := lw_in 734 (by decide +kernel) (by decide +kernel)
theorem ml_X11_33 : Cond.methodLink RX11 33 yX1_dictionary ∈ lwG := lw_in 735 (by decide +kernel) (by decide +kernel)
theorem im_X1_dictionary : Cond.instanceMethod yX1_dictionary ∈ lwG := lw_in 736 (by decide +kernel) (by decide +kernel)
theorem se_X1_dictionary : Cond.selects RX1 yX1_dictionary yX1_dictionary ∈ lwG := lw_in 737 (by decide +kernel) (by decide +kernel)
theorem co_X1_dictionary : Cond.code yX1_dictionary prog_3_method_3_code 1 (some (FieldType.object "PackedTable$Dictionary")) ∈ lwG := lw_in 738 (by decide +kernel) (by decide +kernel)
theorem ml_X12_139 : Cond.methodLink RX12 139 yX3_size ∈ lwG := lw_in 739 (by decide +kernel) (by decide +kernel)
theorem im_X3_size : Cond.instanceMethod yX3_size ∈ lwG := lw_in 740 (by decide +kernel) (by decide +kernel)
theorem se_X3_size : Cond.selects RX3 yX3_size yX3_size ∈ lwG := lw_in 741 (by decide +kernel) (by decide +kernel)
theorem co_X3_size : Cond.code yX3_size prog_5_method_3_code 1 (some FieldType.int) ∈ lwG := lw_in 742 (by decide +kernel) (by decide +kernel)
theorem ml_L_40 : Cond.methodLink RL 40 yX12_conditionCount ∈ lwG := lw_in 743 (by decide +kernel) (by decide +kernel)
theorem im_X12_conditionCount : Cond.instanceMethod yX12_conditionCount ∈ lwG := lw_in 744 (by decide +kernel) (by decide +kernel)
theorem se_X12_conditionCount : Cond.selects RX12 yX12_conditionCount yX12_conditionCount ∈ lwG := lw_in 745 (by decide +kernel) (by decide +kernel)
theorem co_X12_conditionCount : Cond.code yX12_conditionCount prog_1_method_24_code 1 (some FieldType.int) ∈ lwG := lw_in 746 (by decide +kernel) (by decide +kernel)
theorem ml_X12_198 : Cond.methodLink RX12 198 yX11_filter ∈ lwG := lw_in 747 (by decide +kernel) (by decide +kernel)
theorem im_X11_filter : Cond.instanceMethod yX11_filter ∈ lwG := lw_in 748 (by decide +kernel) (by decide +kernel)
theorem se_X11_filter : Cond.selects RX11 yX11_filter yX11_filter ∈ lwG := lw_in 749 (by decide +kernel) (by decide +kernel)
theorem co_X11_filter : Cond.code yX11_filter prog_13_method_6_code 1 (some (FieldType.object "PackedTable$Filter")) ∈ lwG := lw_in 750 (by decide +kernel) (by decide +kernel)
theorem ml_X12_202 : Cond.methodLink RX12 202 yX4_size ∈ lwG := lw_in 751 (by decide +kernel) (by decide +kernel)
theorem im_X4_size : Cond.instanceMethod yX4_size ∈ lwG := lw_in 752 (by decide +kernel) (by decide +kernel)
theorem se_X4_size : Cond.selects RX4 yX4_size yX4_size ∈ lwG := lw_in 753 (by decide +kernel) (by decide +kernel)
theorem co_X4_size : Cond.code yX4_size prog_6_method_2_code 1 (some FieldType.int) ∈ lwG := lw_in 754 (by decide +kernel) (by decide +kernel)
theorem ml_L_43 : Cond.methodLink RL 43 yX12_value ∈ lwG := lw_in 755 (by decide +kernel) (by decide +kernel)
theorem im_X12_value : Cond.instanceMethod yX12_value ∈ lwG := lw_in 756 (by decide +kernel) (by decide +kernel)
theorem se_X12_value : Cond.selects RX12 yX12_value yX12_value ∈ lwG := lw_in 757 (by decide +kernel) (by decide +kernel)
theorem co_X12_value : Cond.code yX12_value prog_1_method_8_code 3 (some FieldType.int) ∈ lwG := lw_in 758 (by decide +kernel) (by decide +kernel)
theorem ml_X12_119 : Cond.methodLink RX12 119 yX12_checkRow ∈ lwG := lw_in 759 (by decide +kernel) (by decide +kernel)
theorem im_X12_checkRow : Cond.instanceMethod yX12_checkRow ∈ lwG := lw_in 761 (by decide +kernel) (by decide +kernel)
theorem co_X12_checkRow : Cond.code yX12_checkRow prog_1_method_66_code 2 (none : Option FieldType) ∈ lwG := lw_in 762 (by decide +kernel) (by decide +kernel)
theorem ml_X12_354 : Cond.methodLink RX12 354 yX11_hasRow ∈ lwG := lw_in 763 (by decide +kernel) (by decide +kernel)
theorem im_X11_hasRow : Cond.instanceMethod yX11_hasRow ∈ lwG := lw_in 764 (by decide +kernel) (by decide +kernel)
theorem se_X11_hasRow : Cond.selects RX11 yX11_hasRow yX11_hasRow ∈ lwG := lw_in 765 (by decide +kernel) (by decide +kernel)
theorem co_X11_hasRow : Cond.code yX11_hasRow prog_13_method_8_code 2 (some FieldType.boolean) ∈ lwG := lw_in 766 (by decide +kernel) (by decide +kernel)
theorem ml_X11_37 : Cond.methodLink RX11 37 yX11_rows ∈ lwG := lw_in 767 (by decide +kernel) (by decide +kernel)
theorem sr_X12_357 : Cond.stringRef RX12 357 "no such row" ∈ lw_tbl := List.mem_of_getElem? (i := 768) (by decide +kernel)
theorem ml_X12_122 : Cond.methodLink RX12 122 yX11_column ∈ lwG := lw_in 769 (by decide +kernel) (by decide +kernel)
theorem im_X11_column : Cond.instanceMethod yX11_column ∈ lwG := lw_in 770 (by decide +kernel) (by decide +kernel)
theorem se_X11_column : Cond.selects RX11 yX11_column yX11_column ∈ lwG := lw_in 771 (by decide +kernel) (by decide +kernel)
theorem co_X11_column : Cond.code yX11_column prog_13_method_4_code 2 (some (FieldType.object "PackedTable$Column")) ∈ lwG := lw_in 772 (by decide +kernel) (by decide +kernel)
theorem ml_X12_126 : Cond.methodLink RX12 126 yX1_valueAt ∈ lwG := lw_in 773 (by decide +kernel) (by decide +kernel)
theorem im_X1_valueAt : Cond.instanceMethod yX1_valueAt ∈ lwG := lw_in 774 (by decide +kernel) (by decide +kernel)
theorem se_X1_valueAt : Cond.selects RX1 yX1_valueAt yX1_valueAt ∈ lwG := lw_in 775 (by decide +kernel) (by decide +kernel)
theorem co_X1_valueAt : Cond.code yX1_valueAt prog_3_method_4_code 2 (some FieldType.int) ∈ lwG := lw_in 776 (by decide +kernel) (by decide +kernel)
theorem ml_L_47 : Cond.methodLink RL 47 yX12_dictionaryValue ∈ lwG := lw_in 777 (by decide +kernel) (by decide +kernel)
theorem im_X12_dictionaryValue : Cond.instanceMethod yX12_dictionaryValue ∈ lwG := lw_in 778 (by decide +kernel) (by decide +kernel)
theorem se_X12_dictionaryValue : Cond.selects RX12 yX12_dictionaryValue yX12_dictionaryValue ∈ lwG := lw_in 779 (by decide +kernel) (by decide +kernel)
theorem co_X12_dictionaryValue : Cond.code yX12_dictionaryValue prog_1_method_11_code 3 (some FieldType.int) ∈ lwG := lw_in 780 (by decide +kernel) (by decide +kernel)
theorem ml_X12_140 : Cond.methodLink RX12 140 yX12_checkCode ∈ lwG := lw_in 781 (by decide +kernel) (by decide +kernel)
theorem im_X12_checkCode : Cond.instanceMethod yX12_checkCode ∈ lwG := lw_in 783 (by decide +kernel) (by decide +kernel)
theorem co_X12_checkCode : Cond.code yX12_checkCode prog_1_method_67_code 3 (none : Option FieldType) ∈ lwG := lw_in 784 (by decide +kernel) (by decide +kernel)
theorem sr_X12_359 : Cond.stringRef RX12 359 "no such code" ∈ lw_tbl := List.mem_of_getElem? (i := 785) (by decide +kernel)
theorem ml_X12_144 : Cond.methodLink RX12 144 yX3_entry ∈ lwG := lw_in 786 (by decide +kernel) (by decide +kernel)
theorem im_X3_entry : Cond.instanceMethod yX3_entry ∈ lwG := lw_in 787 (by decide +kernel) (by decide +kernel)
theorem se_X3_entry : Cond.selects RX3 yX3_entry yX3_entry ∈ lwG := lw_in 788 (by decide +kernel) (by decide +kernel)
theorem co_X3_entry : Cond.code yX3_entry prog_5_method_5_code 2 (some FieldType.int) ∈ lwG := lw_in 789 (by decide +kernel) (by decide +kernel)
theorem ml_L_50 : Cond.methodLink RL 50 yX12_conditionColumn ∈ lwG := lw_in 790 (by decide +kernel) (by decide +kernel)
theorem im_X12_conditionColumn : Cond.instanceMethod yX12_conditionColumn ∈ lwG := lw_in 791 (by decide +kernel) (by decide +kernel)
theorem se_X12_conditionColumn : Cond.selects RX12 yX12_conditionColumn yX12_conditionColumn ∈ lwG := lw_in 792 (by decide +kernel) (by decide +kernel)
theorem co_X12_conditionColumn : Cond.code yX12_conditionColumn prog_1_method_25_code 2 (some FieldType.int) ∈ lwG := lw_in 793 (by decide +kernel) (by decide +kernel)
theorem ml_X12_205 : Cond.methodLink RX12 205 yX12_checkCondition ∈ lwG := lw_in 794 (by decide +kernel) (by decide +kernel)
theorem im_X12_checkCondition : Cond.instanceMethod yX12_checkCondition ∈ lwG := lw_in 796 (by decide +kernel) (by decide +kernel)
theorem co_X12_checkCondition : Cond.code yX12_checkCondition prog_1_method_68_code 2 (none : Option FieldType) ∈ lwG := lw_in 797 (by decide +kernel) (by decide +kernel)
theorem ml_X12_361 : Cond.methodLink RX12 361 yX4_has ∈ lwG := lw_in 798 (by decide +kernel) (by decide +kernel)
theorem im_X4_has : Cond.instanceMethod yX4_has ∈ lwG := lw_in 799 (by decide +kernel) (by decide +kernel)
theorem se_X4_has : Cond.selects RX4 yX4_has yX4_has ∈ lwG := lw_in 800 (by decide +kernel) (by decide +kernel)
theorem co_X4_has : Cond.code yX4_has prog_6_method_4_code 2 (some FieldType.boolean) ∈ lwG := lw_in 801 (by decide +kernel) (by decide +kernel)
theorem sr_X12_364 : Cond.stringRef RX12 364 "no such condition" ∈ lw_tbl := List.mem_of_getElem? (i := 802) (by decide +kernel)
theorem ml_X12_208 : Cond.methodLink RX12 208 yX4_columnOf ∈ lwG := lw_in 803 (by decide +kernel) (by decide +kernel)
theorem im_X4_columnOf : Cond.instanceMethod yX4_columnOf ∈ lwG := lw_in 804 (by decide +kernel) (by decide +kernel)
theorem se_X4_columnOf : Cond.selects RX4 yX4_columnOf yX4_columnOf ∈ lwG := lw_in 805 (by decide +kernel) (by decide +kernel)
theorem co_X4_columnOf : Cond.code yX4_columnOf prog_6_method_5_code 2 (some FieldType.int) ∈ lwG := lw_in 806 (by decide +kernel) (by decide +kernel)
theorem ml_L_53 : Cond.methodLink RL 53 yX12_conditionValue ∈ lwG := lw_in 807 (by decide +kernel) (by decide +kernel)
theorem im_X12_conditionValue : Cond.instanceMethod yX12_conditionValue ∈ lwG := lw_in 808 (by decide +kernel) (by decide +kernel)
theorem se_X12_conditionValue : Cond.selects RX12 yX12_conditionValue yX12_conditionValue ∈ lwG := lw_in 809 (by decide +kernel) (by decide +kernel)
theorem co_X12_conditionValue : Cond.code yX12_conditionValue prog_1_method_26_code 2 (some FieldType.int) ∈ lwG := lw_in 810 (by decide +kernel) (by decide +kernel)
theorem ml_X12_211 : Cond.methodLink RX12 211 yX4_valueOf ∈ lwG := lw_in 811 (by decide +kernel) (by decide +kernel)
theorem im_X4_valueOf : Cond.instanceMethod yX4_valueOf ∈ lwG := lw_in 812 (by decide +kernel) (by decide +kernel)
theorem se_X4_valueOf : Cond.selects RX4 yX4_valueOf yX4_valueOf ∈ lwG := lw_in 813 (by decide +kernel) (by decide +kernel)
theorem co_X4_valueOf : Cond.code yX4_valueOf prog_6_method_6_code 2 (some FieldType.int) ∈ lwG := lw_in 814 (by decide +kernel) (by decide +kernel)
theorem ml_L_56 : Cond.methodLink RL 56 yX12_conditionDirection ∈ lwG := lw_in 815 (by decide +kernel) (by decide +kernel)
theorem im_X12_conditionDirection : Cond.instanceMethod yX12_conditionDirection ∈ lwG := lw_in 816 (by decide +kernel) (by decide +kernel)
theorem se_X12_conditionDirection : Cond.selects RX12 yX12_conditionDirection yX12_conditionDirection ∈ lwG := lw_in 817 (by decide +kernel) (by decide +kernel)
theorem co_X12_conditionDirection : Cond.code yX12_conditionDirection prog_1_method_27_code 2 (some FieldType.int) ∈ lwG := lw_in 818 (by decide +kernel) (by decide +kernel)
theorem ml_X12_214 : Cond.methodLink RX12 214 yX4_directionOf ∈ lwG := lw_in 819 (by decide +kernel) (by decide +kernel)
theorem im_X4_directionOf : Cond.instanceMethod yX4_directionOf ∈ lwG := lw_in 820 (by decide +kernel) (by decide +kernel)
theorem se_X4_directionOf : Cond.selects RX4 yX4_directionOf yX4_directionOf ∈ lwG := lw_in 821 (by decide +kernel) (by decide +kernel)
theorem co_X4_directionOf : Cond.code yX4_directionOf prog_6_method_7_code 2 (some FieldType.int) ∈ lwG := lw_in 822 (by decide +kernel) (by decide +kernel)
theorem ml_L_247 : Cond.methodLink RL 247 yL_alike ∈ lwG := lw_in 823 (by decide +kernel) (by decide +kernel)
theorem st_L_alike : Cond.static yL_alike ∈ lwG := lw_in 824 (by decide +kernel) (by decide +kernel)
theorem co_L_alike : Cond.code yL_alike method_8_code 3 (some FieldType.boolean) ∈ lwG := lw_in 825 (by decide +kernel) (by decide +kernel)
theorem ml_L_229 : Cond.methodLink RL 229 yL_areColumns ∈ lwG := lw_in 826 (by decide +kernel) (by decide +kernel)
theorem st_L_areColumns : Cond.static yL_areColumns ∈ lwG := lw_in 827 (by decide +kernel) (by decide +kernel)
theorem co_L_areColumns : Cond.code yL_areColumns method_9_code 11 (some FieldType.boolean) ∈ lwG := lw_in 828 (by decide +kernel) (by decide +kernel)
theorem ml_L_59 : Cond.methodLink RL 59 yX12_bitWidth ∈ lwG := lw_in 829 (by decide +kernel) (by decide +kernel)
theorem im_X12_bitWidth : Cond.instanceMethod yX12_bitWidth ∈ lwG := lw_in 830 (by decide +kernel) (by decide +kernel)
theorem se_X12_bitWidth : Cond.selects RX12 yX12_bitWidth yX12_bitWidth ∈ lwG := lw_in 831 (by decide +kernel) (by decide +kernel)
theorem co_X12_bitWidth : Cond.code yX12_bitWidth prog_1_method_16_code 2 (some FieldType.int) ∈ lwG := lw_in 832 (by decide +kernel) (by decide +kernel)
theorem ml_X12_160 : Cond.methodLink RX12 160 yX3_width ∈ lwG := lw_in 833 (by decide +kernel) (by decide +kernel)
theorem im_X3_width : Cond.instanceMethod yX3_width ∈ lwG := lw_in 834 (by decide +kernel) (by decide +kernel)
theorem se_X3_width : Cond.selects RX3 yX3_width yX3_width ∈ lwG := lw_in 835 (by decide +kernel) (by decide +kernel)
theorem co_X3_width : Cond.code yX3_width prog_5_method_4_code 1 (some FieldType.int) ∈ lwG := lw_in 836 (by decide +kernel) (by decide +kernel)
theorem ml_X3_17 : Cond.methodLink RX3 17 yX3_widthFor ∈ lwG := lw_in 837 (by decide +kernel) (by decide +kernel)
theorem st_X3_widthFor : Cond.static yX3_widthFor ∈ lwG := lw_in 838 (by decide +kernel) (by decide +kernel)
theorem co_X3_widthFor : Cond.code yX3_widthFor prog_5_method_2_code 2 (some FieldType.int) ∈ lwG := lw_in 839 (by decide +kernel) (by decide +kernel)
theorem ml_L_62 : Cond.methodLink RL 62 yX12_frequency ∈ lwG := lw_in 840 (by decide +kernel) (by decide +kernel)
theorem im_X12_frequency : Cond.instanceMethod yX12_frequency ∈ lwG := lw_in 841 (by decide +kernel) (by decide +kernel)
theorem se_X12_frequency : Cond.selects RX12 yX12_frequency yX12_frequency ∈ lwG := lw_in 842 (by decide +kernel) (by decide +kernel)
theorem co_X12_frequency : Cond.code yX12_frequency prog_1_method_14_code 3 (some FieldType.int) ∈ lwG := lw_in 843 (by decide +kernel) (by decide +kernel)
theorem ml_X12_154 : Cond.methodLink RX12 154 yX1_occurrences ∈ lwG := lw_in 844 (by decide +kernel) (by decide +kernel)
theorem im_X1_occurrences : Cond.instanceMethod yX1_occurrences ∈ lwG := lw_in 845 (by decide +kernel) (by decide +kernel)
theorem se_X1_occurrences : Cond.selects RX1 yX1_occurrences yX1_occurrences ∈ lwG := lw_in 846 (by decide +kernel) (by decide +kernel)
theorem co_X1_occurrences : Cond.code yX1_occurrences prog_3_method_14_code 4 (some FieldType.int) ∈ lwG := lw_in 847 (by decide +kernel) (by decide +kernel)
theorem ml_L_65 : Cond.methodLink RL 65 yX12_findCode ∈ lwG := lw_in 848 (by decide +kernel) (by decide +kernel)
theorem im_X12_findCode : Cond.instanceMethod yX12_findCode ∈ lwG := lw_in 849 (by decide +kernel) (by decide +kernel)
theorem se_X12_findCode : Cond.selects RX12 yX12_findCode yX12_findCode ∈ lwG := lw_in 850 (by decide +kernel) (by decide +kernel)
theorem co_X12_findCode : Cond.code yX12_findCode prog_1_method_12_code 3 (some FieldType.int) ∈ lwG := lw_in 851 (by decide +kernel) (by decide +kernel)
theorem ml_X12_147 : Cond.methodLink RX12 147 yX3_find ∈ lwG := lw_in 852 (by decide +kernel) (by decide +kernel)
theorem im_X3_find : Cond.instanceMethod yX3_find ∈ lwG := lw_in 853 (by decide +kernel) (by decide +kernel)
theorem se_X3_find : Cond.selects RX3 yX3_find yX3_find ∈ lwG := lw_in 854 (by decide +kernel) (by decide +kernel)
theorem co_X3_find : Cond.code yX3_find prog_5_method_8_code 3 (some FieldType.int) ∈ lwG := lw_in 855 (by decide +kernel) (by decide +kernel)
theorem ml_L_68 : Cond.methodLink RL 68 yX12_packedWord ∈ lwG := lw_in 856 (by decide +kernel) (by decide +kernel)
theorem im_X12_packedWord : Cond.instanceMethod yX12_packedWord ∈ lwG := lw_in 857 (by decide +kernel) (by decide +kernel)
theorem se_X12_packedWord : Cond.selects RX12 yX12_packedWord yX12_packedWord ∈ lwG := lw_in 858 (by decide +kernel) (by decide +kernel)
theorem co_X12_packedWord : Cond.code yX12_packedWord prog_1_method_18_code 3 (some FieldType.long) ∈ lwG := lw_in 859 (by decide +kernel) (by decide +kernel)
theorem ml_X12_163 : Cond.methodLink RX12 163 yX12_wordsOf ∈ lwG := lw_in 860 (by decide +kernel) (by decide +kernel)
theorem im_X12_wordsOf : Cond.instanceMethod yX12_wordsOf ∈ lwG := lw_in 862 (by decide +kernel) (by decide +kernel)
theorem co_X12_wordsOf : Cond.code yX12_wordsOf prog_1_method_71_code 2 (some FieldType.int) ∈ lwG := lw_in 863 (by decide +kernel) (by decide +kernel)
theorem sr_X12_168 : Cond.stringRef RX12 168 "no such word" ∈ lw_tbl := List.mem_of_getElem? (i := 864) (by decide +kernel)
theorem ml_X12_173 : Cond.methodLink RX12 173 yX8_pack ∈ lwG := lw_in 865 (by decide +kernel) (by decide +kernel)
theorem im_X8_pack : Cond.instanceMethod yX8_pack ∈ lwG := lw_in 866 (by decide +kernel) (by decide +kernel)
theorem se_X8_pack : Cond.selects RX8 yX8_pack yX8_pack ∈ lwG := lw_in 867 (by decide +kernel) (by decide +kernel)
theorem co_X8_pack : Cond.code yX8_pack prog_10_method_2_code 3 (none : Option FieldType) ∈ lwG := lw_in 868 (by decide +kernel) (by decide +kernel)
theorem ml_X8_15 : Cond.methodLink RX8 15 yJ7_fill_d0a16 ∈ lwG := lw_in 869 (by decide +kernel) (by decide +kernel)
theorem st_J7_fill_d0a16 : Cond.static yJ7_fill_d0a16 ∈ lwG := lw_in 870 (by decide +kernel) (by decide +kernel)
theorem co_J7_fill_d0a16 : Cond.code yJ7_fill_d0a16 prog_33_method_101_code 5 (none : Option FieldType) ∈ lwG := lw_in 871 (by decide +kernel) (by decide +kernel)
theorem ml_X8_21 : Cond.methodLink RX8 21 yX1_dictionary ∈ lwG := lw_in 872 (by decide +kernel) (by decide +kernel)
theorem ml_X8_27 : Cond.methodLink RX8 27 yX3_width ∈ lwG := lw_in 873 (by decide +kernel) (by decide +kernel)
theorem ml_X8_36 : Cond.methodLink RX8 36 yX1_length ∈ lwG := lw_in 874 (by decide +kernel) (by decide +kernel)
theorem ml_X8_39 : Cond.methodLink RX8 39 yX1_codeAt ∈ lwG := lw_in 875 (by decide +kernel) (by decide +kernel)
theorem im_X1_codeAt : Cond.instanceMethod yX1_codeAt ∈ lwG := lw_in 876 (by decide +kernel) (by decide +kernel)
theorem se_X1_codeAt : Cond.selects RX1 yX1_codeAt yX1_codeAt ∈ lwG := lw_in 877 (by decide +kernel) (by decide +kernel)
theorem co_X1_codeAt : Cond.code yX1_codeAt prog_3_method_5_code 2 (some FieldType.int) ∈ lwG := lw_in 878 (by decide +kernel) (by decide +kernel)
theorem ml_X1_26 : Cond.methodLink RX1 26 yX3_find ∈ lwG := lw_in 879 (by decide +kernel) (by decide +kernel)
theorem ml_X8_43 : Cond.methodLink RX8 43 yX8_packCode ∈ lwG := lw_in 880 (by decide +kernel) (by decide +kernel)
theorem im_X8_packCode : Cond.instanceMethod yX8_packCode ∈ lwG := lw_in 882 (by decide +kernel) (by decide +kernel)
theorem co_X8_packCode : Cond.code yX8_packCode prog_10_method_3_code 7 (none : Option FieldType) ∈ lwG := lw_in 883 (by decide +kernel) (by decide +kernel)
theorem ml_X12_177 : Cond.methodLink RX12 177 yX8_word ∈ lwG := lw_in 884 (by decide +kernel) (by decide +kernel)
theorem im_X8_word : Cond.instanceMethod yX8_word ∈ lwG := lw_in 885 (by decide +kernel) (by decide +kernel)
theorem se_X8_word : Cond.selects RX8 yX8_word yX8_word ∈ lwG := lw_in 886 (by decide +kernel) (by decide +kernel)
theorem co_X8_word : Cond.code yX8_word prog_10_method_5_code 2 (some FieldType.long) ∈ lwG := lw_in 887 (by decide +kernel) (by decide +kernel)
theorem ml_L_72 : Cond.methodLink RL 72 yX12_code ∈ lwG := lw_in 888 (by decide +kernel) (by decide +kernel)
theorem im_X12_code : Cond.instanceMethod yX12_code ∈ lwG := lw_in 889 (by decide +kernel) (by decide +kernel)
theorem se_X12_code : Cond.selects RX12 yX12_code yX12_code ∈ lwG := lw_in 890 (by decide +kernel) (by decide +kernel)
theorem co_X12_code : Cond.code yX12_code prog_1_method_9_code 3 (some FieldType.int) ∈ lwG := lw_in 891 (by decide +kernel) (by decide +kernel)
theorem ml_X12_132 : Cond.methodLink RX12 132 yX1_codeAt ∈ lwG := lw_in 892 (by decide +kernel) (by decide +kernel)
theorem ml_L_75 : Cond.methodLink RL 75 yX12_staleCount ∈ lwG := lw_in 893 (by decide +kernel) (by decide +kernel)
theorem im_X12_staleCount : Cond.instanceMethod yX12_staleCount ∈ lwG := lw_in 894 (by decide +kernel) (by decide +kernel)
theorem se_X12_staleCount : Cond.selects RX12 yX12_staleCount yX12_staleCount ∈ lwG := lw_in 895 (by decide +kernel) (by decide +kernel)
theorem co_X12_staleCount : Cond.code yX12_staleCount prog_1_method_13_code 2 (some FieldType.int) ∈ lwG := lw_in 896 (by decide +kernel) (by decide +kernel)
theorem ml_X12_150 : Cond.methodLink RX12 150 yX1_collectInto ∈ lwG := lw_in 897 (by decide +kernel) (by decide +kernel)
theorem im_X1_collectInto : Cond.instanceMethod yX1_collectInto ∈ lwG := lw_in 898 (by decide +kernel) (by decide +kernel)
theorem se_X1_collectInto : Cond.selects RX1 yX1_collectInto yX1_collectInto ∈ lwG := lw_in 899 (by decide +kernel) (by decide +kernel)
theorem co_X1_collectInto : Cond.code yX1_collectInto prog_3_method_12_code 3 (none : Option FieldType) ∈ lwG := lw_in 900 (by decide +kernel) (by decide +kernel)
theorem ml_L_78 : Cond.methodLink RL 78 yX12_wordCount ∈ lwG := lw_in 901 (by decide +kernel) (by decide +kernel)
theorem im_X12_wordCount : Cond.instanceMethod yX12_wordCount ∈ lwG := lw_in 902 (by decide +kernel) (by decide +kernel)
theorem se_X12_wordCount : Cond.selects RX12 yX12_wordCount yX12_wordCount ∈ lwG := lw_in 903 (by decide +kernel) (by decide +kernel)
theorem co_X12_wordCount : Cond.code yX12_wordCount prog_1_method_17_code 2 (some FieldType.int) ∈ lwG := lw_in 904 (by decide +kernel) (by decide +kernel)
theorem ml_L_81 : Cond.methodLink RL 81 yX12_bitWidthCompacted ∈ lwG := lw_in 905 (by decide +kernel) (by decide +kernel)
theorem im_X12_bitWidthCompacted : Cond.instanceMethod yX12_bitWidthCompacted ∈ lwG := lw_in 906 (by decide +kernel) (by decide +kernel)
theorem se_X12_bitWidthCompacted : Cond.selects RX12 yX12_bitWidthCompacted yX12_bitWidthCompacted ∈ lwG := lw_in 907 (by decide +kernel) (by decide +kernel)
theorem co_X12_bitWidthCompacted : Cond.code yX12_bitWidthCompacted prog_1_method_43_code 2 (some FieldType.int) ∈ lwG := lw_in 908 (by decide +kernel) (by decide +kernel)
theorem ml_L_84 : Cond.methodLink RL 84 yX12_runCount ∈ lwG := lw_in 909 (by decide +kernel) (by decide +kernel)
theorem im_X12_runCount : Cond.instanceMethod yX12_runCount ∈ lwG := lw_in 910 (by decide +kernel) (by decide +kernel)
theorem se_X12_runCount : Cond.selects RX12 yX12_runCount yX12_runCount ∈ lwG := lw_in 911 (by decide +kernel) (by decide +kernel)
theorem co_X12_runCount : Cond.code yX12_runCount prog_1_method_21_code 2 (some FieldType.int) ∈ lwG := lw_in 912 (by decide +kernel) (by decide +kernel)
theorem ml_X12_184 : Cond.methodLink RX12 184 yX10_reset ∈ lwG := lw_in 913 (by decide +kernel) (by decide +kernel)
theorem im_X10_reset : Cond.instanceMethod yX10_reset ∈ lwG := lw_in 914 (by decide +kernel) (by decide +kernel)
theorem se_X10_reset : Cond.selects RX10 yX10_reset yX10_reset ∈ lwG := lw_in 915 (by decide +kernel) (by decide +kernel)
theorem co_X10_reset : Cond.code yX10_reset prog_12_method_2_code 3 (none : Option FieldType) ∈ lwG := lw_in 916 (by decide +kernel) (by decide +kernel)
theorem ml_X12_187 : Cond.methodLink RX12 187 yX1_runsIn ∈ lwG := lw_in 917 (by decide +kernel) (by decide +kernel)
theorem im_X1_runsIn : Cond.instanceMethod yX1_runsIn ∈ lwG := lw_in 918 (by decide +kernel) (by decide +kernel)
theorem se_X1_runsIn : Cond.selects RX1 yX1_runsIn yX1_runsIn ∈ lwG := lw_in 919 (by decide +kernel) (by decide +kernel)
theorem co_X1_runsIn : Cond.code yX1_runsIn prog_3_method_16_code 4 (some FieldType.int) ∈ lwG := lw_in 920 (by decide +kernel) (by decide +kernel)
theorem ml_X1_50 : Cond.methodLink RX1 50 yX10_source ∈ lwG := lw_in 921 (by decide +kernel) (by decide +kernel)
theorem im_X10_source : Cond.instanceMethod yX10_source ∈ lwG := lw_in 922 (by decide +kernel) (by decide +kernel)
theorem se_X10_source : Cond.selects RX10 yX10_source yX10_source ∈ lwG := lw_in 923 (by decide +kernel) (by decide +kernel)
theorem co_X10_source : Cond.code yX10_source prog_12_method_5_code 2 (some FieldType.int) ∈ lwG := lw_in 924 (by decide +kernel) (by decide +kernel)
theorem ml_L_87 : Cond.methodLink RL 87 yX12_isSorted ∈ lwG := lw_in 925 (by decide +kernel) (by decide +kernel)
theorem im_X12_isSorted : Cond.instanceMethod yX12_isSorted ∈ lwG := lw_in 926 (by decide +kernel) (by decide +kernel)
theorem se_X12_isSorted : Cond.selects RX12 yX12_isSorted yX12_isSorted ∈ lwG := lw_in 927 (by decide +kernel) (by decide +kernel)
theorem co_X12_isSorted : Cond.code yX12_isSorted prog_1_method_23_code 2 (some FieldType.boolean) ∈ lwG := lw_in 928 (by decide +kernel) (by decide +kernel)
theorem ml_X12_194 : Cond.methodLink RX12 194 yX1_isAscending ∈ lwG := lw_in 929 (by decide +kernel) (by decide +kernel)
theorem im_X1_isAscending : Cond.instanceMethod yX1_isAscending ∈ lwG := lw_in 930 (by decide +kernel) (by decide +kernel)
theorem se_X1_isAscending : Cond.selects RX1 yX1_isAscending yX1_isAscending ∈ lwG := lw_in 931 (by decide +kernel) (by decide +kernel)
theorem co_X1_isAscending : Cond.code yX1_isAscending prog_3_method_18_code 2 (some FieldType.boolean) ∈ lwG := lw_in 932 (by decide +kernel) (by decide +kernel)
theorem ml_L_91 : Cond.methodLink RL 91 yX12_longestRun ∈ lwG := lw_in 933 (by decide +kernel) (by decide +kernel)
theorem im_X12_longestRun : Cond.instanceMethod yX12_longestRun ∈ lwG := lw_in 934 (by decide +kernel) (by decide +kernel)
theorem se_X12_longestRun : Cond.selects RX12 yX12_longestRun yX12_longestRun ∈ lwG := lw_in 935 (by decide +kernel) (by decide +kernel)
theorem co_X12_longestRun : Cond.code yX12_longestRun prog_1_method_22_code 2 (some FieldType.int) ∈ lwG := lw_in 936 (by decide +kernel) (by decide +kernel)
theorem ml_X12_191 : Cond.methodLink RX12 191 yX1_greatestRun ∈ lwG := lw_in 937 (by decide +kernel) (by decide +kernel)
theorem im_X1_greatestRun : Cond.instanceMethod yX1_greatestRun ∈ lwG := lw_in 938 (by decide +kernel) (by decide +kernel)
theorem se_X1_greatestRun : Cond.selects RX1 yX1_greatestRun yX1_greatestRun ∈ lwG := lw_in 939 (by decide +kernel) (by decide +kernel)
theorem co_X1_greatestRun : Cond.code yX1_greatestRun prog_3_method_17_code 5 (some FieldType.int) ∈ lwG := lw_in 940 (by decide +kernel) (by decide +kernel)
theorem ml_X1_53 : Cond.methodLink RX1 53 yJ9_max_7cf53 ∈ lwG := lw_in 941 (by decide +kernel) (by decide +kernel)
theorem st_J9_max_7cf53 : Cond.static yJ9_max_7cf53 ∈ lwG := lw_in 942 (by decide +kernel) (by decide +kernel)
theorem co_J9_max_7cf53 : Cond.code yJ9_max_7cf53 prog_24_method_65_code 2 (some FieldType.int) ∈ lwG := lw_in 943 (by decide +kernel) (by decide +kernel)
theorem ml_L_94 : Cond.methodLink RL 94 yX12_commonestCode ∈ lwG := lw_in 944 (by decide +kernel) (by decide +kernel)
theorem im_X12_commonestCode : Cond.instanceMethod yX12_commonestCode ∈ lwG := lw_in 945 (by decide +kernel) (by decide +kernel)
theorem se_X12_commonestCode : Cond.selects RX12 yX12_commonestCode yX12_commonestCode ∈ lwG := lw_in 946 (by decide +kernel) (by decide +kernel)
theorem co_X12_commonestCode : Cond.code yX12_commonestCode prog_1_method_15_code 2 (some FieldType.int) ∈ lwG := lw_in 947 (by decide +kernel) (by decide +kernel)
theorem ml_X12_157 : Cond.methodLink RX12 157 yX1_commonest ∈ lwG := lw_in 948 (by decide +kernel) (by decide +kernel)
theorem im_X1_commonest : Cond.instanceMethod yX1_commonest ∈ lwG := lw_in 949 (by decide +kernel) (by decide +kernel)
theorem se_X1_commonest : Cond.selects RX1 yX1_commonest yX1_commonest ∈ lwG := lw_in 950 (by decide +kernel) (by decide +kernel)
theorem co_X1_commonest : Cond.code yX1_commonest prog_3_method_15_code 5 (some FieldType.int) ∈ lwG := lw_in 951 (by decide +kernel) (by decide +kernel)
theorem ml_X1_47 : Cond.methodLink RX1 47 yX1_occurrences ∈ lwG := lw_in 952 (by decide +kernel) (by decide +kernel)
theorem ml_L_97 : Cond.methodLink RL 97 yX12_runsIfSorted ∈ lwG := lw_in 953 (by decide +kernel) (by decide +kernel)
theorem im_X12_runsIfSorted : Cond.instanceMethod yX12_runsIfSorted ∈ lwG := lw_in 954 (by decide +kernel) (by decide +kernel)
theorem se_X12_runsIfSorted : Cond.selects RX12 yX12_runsIfSorted yX12_runsIfSorted ∈ lwG := lw_in 955 (by decide +kernel) (by decide +kernel)
theorem co_X12_runsIfSorted : Cond.code yX12_runsIfSorted prog_1_method_44_code 2 (some FieldType.int) ∈ lwG := lw_in 956 (by decide +kernel) (by decide +kernel)
theorem ml_X12_253 : Cond.methodLink RX12 253 yX12_runsAfterSorting ∈ lwG := lw_in 957 (by decide +kernel) (by decide +kernel)
theorem im_X12_runsAfterSorting : Cond.instanceMethod yX12_runsAfterSorting ∈ lwG := lw_in 959 (by decide +kernel) (by decide +kernel)
theorem co_X12_runsAfterSorting : Cond.code yX12_runsAfterSorting prog_1_method_74_code 4 (some FieldType.int) ∈ lwG := lw_in 960 (by decide +kernel) (by decide +kernel)
theorem ml_X12_374 : Cond.methodLink RX12 374 yX10_sortBy ∈ lwG := lw_in 961 (by decide +kernel) (by decide +kernel)
end
section
/-! the words that the tables hold, by their places -/
theorem im_X10_sortBy : Cond.instanceMethod yX10_sortBy ∈ lwG := lw_in 962 (by decide +kernel) (by decide +kernel)
theorem se_X10_sortBy : Cond.selects RX10 yX10_sortBy yX10_sortBy ∈ lwG := lw_in 963 (by decide +kernel) (by decide +kernel)
theorem co_X10_sortBy : Cond.code yX10_sortBy prog_12_method_3_code 7 (none : Option FieldType) ∈ lwG := lw_in 964 (by decide +kernel) (by decide +kernel)
theorem ml_X10_22 : Cond.methodLink RX10 22 yX1_length ∈ lwG := lw_in 965 (by decide +kernel) (by decide +kernel)
theorem ml_X10_27 : Cond.methodLink RX10 27 yX10_reset ∈ lwG := lw_in 966 (by decide +kernel) (by decide +kernel)
theorem ml_X10_31 : Cond.methodLink RX10 31 yX1_valueAt ∈ lwG := lw_in 967 (by decide +kernel) (by decide +kernel)
theorem ml_X10_35 : Cond.methodLink RX10 35 yX10_isWrong ∈ lwG := lw_in 968 (by decide +kernel) (by decide +kernel)
theorem st_X10_isWrong : Cond.static yX10_isWrong ∈ lwG := lw_in 969 (by decide +kernel) (by decide +kernel)
theorem co_X10_isWrong : Cond.code yX10_isWrong prog_12_method_4_code 3 (some FieldType.boolean) ∈ lwG := lw_in 970 (by decide +kernel) (by decide +kernel)
theorem ml_L_100 : Cond.methodLink RL 100 yX12_bestSortColumn ∈ lwG := lw_in 971 (by decide +kernel) (by decide +kernel)
theorem im_X12_bestSortColumn : Cond.instanceMethod yX12_bestSortColumn ∈ lwG := lw_in 972 (by decide +kernel) (by decide +kernel)
theorem se_X12_bestSortColumn : Cond.selects RX12 yX12_bestSortColumn yX12_bestSortColumn ∈ lwG := lw_in 973 (by decide +kernel) (by decide +kernel)
theorem co_X12_bestSortColumn : Cond.code yX12_bestSortColumn prog_1_method_45_code 5 (some FieldType.int) ∈ lwG := lw_in 974 (by decide +kernel) (by decide +kernel)
theorem ml_L_103 : Cond.methodLink RL 103 yX12_packedBits ∈ lwG := lw_in 975 (by decide +kernel) (by decide +kernel)
theorem im_X12_packedBits : Cond.instanceMethod yX12_packedBits ∈ lwG := lw_in 976 (by decide +kernel) (by decide +kernel)
theorem se_X12_packedBits : Cond.selects RX12 yX12_packedBits yX12_packedBits ∈ lwG := lw_in 977 (by decide +kernel) (by decide +kernel)
theorem co_X12_packedBits : Cond.code yX12_packedBits prog_1_method_19_code 3 (some FieldType.int) ∈ lwG := lw_in 978 (by decide +kernel) (by decide +kernel)
theorem ml_L_233 : Cond.methodLink RL 233 yL_isFilter ∈ lwG := lw_in 979 (by decide +kernel) (by decide +kernel)
theorem st_L_isFilter : Cond.static yL_isFilter ∈ lwG := lw_in 980 (by decide +kernel) (by decide +kernel)
theorem co_L_isFilter : Cond.code yL_isFilter method_10_code 13 (some FieldType.boolean) ∈ lwG := lw_in 981 (by decide +kernel) (by decide +kernel)
theorem ml_L_106 : Cond.methodLink RL 106 yX12_lowerCode ∈ lwG := lw_in 982 (by decide +kernel) (by decide +kernel)
theorem im_X12_lowerCode : Cond.instanceMethod yX12_lowerCode ∈ lwG := lw_in 983 (by decide +kernel) (by decide +kernel)
theorem se_X12_lowerCode : Cond.selects RX12 yX12_lowerCode yX12_lowerCode ∈ lwG := lw_in 984 (by decide +kernel) (by decide +kernel)
theorem co_X12_lowerCode : Cond.code yX12_lowerCode prog_1_method_28_code 2 (some FieldType.int) ∈ lwG := lw_in 985 (by decide +kernel) (by decide +kernel)
theorem ml_X12_217 : Cond.methodLink RX12 217 yX11_lowerEnd ∈ lwG := lw_in 986 (by decide +kernel) (by decide +kernel)
theorem im_X11_lowerEnd : Cond.instanceMethod yX11_lowerEnd ∈ lwG := lw_in 987 (by decide +kernel) (by decide +kernel)
theorem se_X11_lowerEnd : Cond.selects RX11 yX11_lowerEnd yX11_lowerEnd ∈ lwG := lw_in 988 (by decide +kernel) (by decide +kernel)
theorem co_X11_lowerEnd : Cond.code yX11_lowerEnd prog_13_method_21_code 4 (some FieldType.int) ∈ lwG := lw_in 989 (by decide +kernel) (by decide +kernel)
theorem ml_X11_71 : Cond.methodLink RX11 71 yX4_columnOf ∈ lwG := lw_in 990 (by decide +kernel) (by decide +kernel)
theorem ml_X11_91 : Cond.methodLink RX11 91 yX11_dictionary ∈ lwG := lw_in 991 (by decide +kernel) (by decide +kernel)
theorem ml_X11_94 : Cond.methodLink RX11 94 yX4_valueOf ∈ lwG := lw_in 992 (by decide +kernel) (by decide +kernel)
theorem ml_X11_97 : Cond.methodLink RX11 97 yX4_directionOf ∈ lwG := lw_in 993 (by decide +kernel) (by decide +kernel)
theorem ml_X11_100 : Cond.methodLink RX11 100 yX3_countBelow ∈ lwG := lw_in 994 (by decide +kernel) (by decide +kernel)
theorem ml_L_109 : Cond.methodLink RL 109 yX12_upperCode ∈ lwG := lw_in 995 (by decide +kernel) (by decide +kernel)
theorem im_X12_upperCode : Cond.instanceMethod yX12_upperCode ∈ lwG := lw_in 996 (by decide +kernel) (by decide +kernel)
theorem se_X12_upperCode : Cond.selects RX12 yX12_upperCode yX12_upperCode ∈ lwG := lw_in 997 (by decide +kernel) (by decide +kernel)
theorem co_X12_upperCode : Cond.code yX12_upperCode prog_1_method_29_code 2 (some FieldType.int) ∈ lwG := lw_in 998 (by decide +kernel) (by decide +kernel)
theorem ml_X12_220 : Cond.methodLink RX12 220 yX11_upperEnd ∈ lwG := lw_in 999 (by decide +kernel) (by decide +kernel)
theorem im_X11_upperEnd : Cond.instanceMethod yX11_upperEnd ∈ lwG := lw_in 1000 (by decide +kernel) (by decide +kernel)
theorem se_X11_upperEnd : Cond.selects RX11 yX11_upperEnd yX11_upperEnd ∈ lwG := lw_in 1001 (by decide +kernel) (by decide +kernel)
theorem co_X11_upperEnd : Cond.code yX11_upperEnd prog_13_method_22_code 4 (some FieldType.int) ∈ lwG := lw_in 1002 (by decide +kernel) (by decide +kernel)
theorem ml_X11_105 : Cond.methodLink RX11 105 yX3_size ∈ lwG := lw_in 1003 (by decide +kernel) (by decide +kernel)
theorem ml_L_112 : Cond.methodLink RL 112 yX12_isSelected ∈ lwG := lw_in 1004 (by decide +kernel) (by decide +kernel)
theorem im_X12_isSelected : Cond.instanceMethod yX12_isSelected ∈ lwG := lw_in 1005 (by decide +kernel) (by decide +kernel)
theorem se_X12_isSelected : Cond.selects RX12 yX12_isSelected yX12_isSelected ∈ lwG := lw_in 1006 (by decide +kernel) (by decide +kernel)
theorem co_X12_isSelected : Cond.code yX12_isSelected prog_1_method_32_code 2 (some FieldType.boolean) ∈ lwG := lw_in 1007 (by decide +kernel) (by decide +kernel)
theorem ml_X12_226 : Cond.methodLink RX12 226 yX11_selects ∈ lwG := lw_in 1008 (by decide +kernel) (by decide +kernel)
theorem im_X11_selects : Cond.instanceMethod yX11_selects ∈ lwG := lw_in 1009 (by decide +kernel) (by decide +kernel)
theorem se_X11_selects : Cond.selects RX11 yX11_selects yX11_selects ∈ lwG := lw_in 1010 (by decide +kernel) (by decide +kernel)
theorem co_X11_selects : Cond.code yX11_selects prog_13_method_19_code 2 (some FieldType.boolean) ∈ lwG := lw_in 1011 (by decide +kernel) (by decide +kernel)
theorem ml_X11_88 : Cond.methodLink RX11 88 yX11_firstRejecting ∈ lwG := lw_in 1012 (by decide +kernel) (by decide +kernel)
theorem im_X11_firstRejecting : Cond.instanceMethod yX11_firstRejecting ∈ lwG := lw_in 1013 (by decide +kernel) (by decide +kernel)
theorem se_X11_firstRejecting : Cond.selects RX11 yX11_firstRejecting yX11_firstRejecting ∈ lwG := lw_in 1014 (by decide +kernel) (by decide +kernel)
theorem co_X11_firstRejecting : Cond.code yX11_firstRejecting prog_13_method_18_code 3 (some FieldType.int) ∈ lwG := lw_in 1015 (by decide +kernel) (by decide +kernel)
theorem ml_X11_85 : Cond.methodLink RX11 85 yX4_size ∈ lwG := lw_in 1016 (by decide +kernel) (by decide +kernel)
theorem ml_X11_82 : Cond.methodLink RX11 82 yX11_fulfills ∈ lwG := lw_in 1017 (by decide +kernel) (by decide +kernel)
theorem im_X11_fulfills : Cond.instanceMethod yX11_fulfills ∈ lwG := lw_in 1019 (by decide +kernel) (by decide +kernel)
theorem co_X11_fulfills : Cond.code yX11_fulfills prog_13_method_16_code 3 (some FieldType.boolean) ∈ lwG := lw_in 1020 (by decide +kernel) (by decide +kernel)
theorem ml_X11_75 : Cond.methodLink RX11 75 yX1_valueAt ∈ lwG := lw_in 1021 (by decide +kernel) (by decide +kernel)
theorem ml_X11_78 : Cond.methodLink RX11 78 yX4_allows ∈ lwG := lw_in 1022 (by decide +kernel) (by decide +kernel)
theorem im_X4_allows : Cond.instanceMethod yX4_allows ∈ lwG := lw_in 1023 (by decide +kernel) (by decide +kernel)
theorem se_X4_allows : Cond.selects RX4 yX4_allows yX4_allows ∈ lwG := lw_in 1024 (by decide +kernel) (by decide +kernel)
theorem co_X4_allows : Cond.code yX4_allows prog_6_method_8_code 3 (some FieldType.boolean) ∈ lwG := lw_in 1025 (by decide +kernel) (by decide +kernel)
theorem ml_X4_25 : Cond.methodLink RX4 25 yJ6_signum_0f7a4 ∈ lwG := lw_in 1026 (by decide +kernel) (by decide +kernel)
theorem st_J6_signum_0f7a4 : Cond.static yJ6_signum_0f7a4 ∈ lwG := lw_in 1027 (by decide +kernel) (by decide +kernel)
theorem co_J6_signum_0f7a4 : Cond.code yJ6_signum_0f7a4 prog_23_method_56_code 1 (some FieldType.int) ∈ lwG := lw_in 1028 (by decide +kernel) (by decide +kernel)
theorem ml_L_115 : Cond.methodLink RL 115 yX12_rejectedBy ∈ lwG := lw_in 1029 (by decide +kernel) (by decide +kernel)
theorem im_X12_rejectedBy : Cond.instanceMethod yX12_rejectedBy ∈ lwG := lw_in 1030 (by decide +kernel) (by decide +kernel)
theorem se_X12_rejectedBy : Cond.selects RX12 yX12_rejectedBy yX12_rejectedBy ∈ lwG := lw_in 1031 (by decide +kernel) (by decide +kernel)
theorem co_X12_rejectedBy : Cond.code yX12_rejectedBy prog_1_method_35_code 2 (some FieldType.int) ∈ lwG := lw_in 1032 (by decide +kernel) (by decide +kernel)
theorem ml_X12_232 : Cond.methodLink RX12 232 yX11_firstRejecting ∈ lwG := lw_in 1033 (by decide +kernel) (by decide +kernel)
theorem ml_L_118 : Cond.methodLink RL 118 yX12_selectedRow ∈ lwG := lw_in 1034 (by decide +kernel) (by decide +kernel)
theorem im_X12_selectedRow : Cond.instanceMethod yX12_selectedRow ∈ lwG := lw_in 1035 (by decide +kernel) (by decide +kernel)
theorem se_X12_selectedRow : Cond.selects RX12 yX12_selectedRow yX12_selectedRow ∈ lwG := lw_in 1036 (by decide +kernel) (by decide +kernel)
theorem co_X12_selectedRow : Cond.code yX12_selectedRow prog_1_method_34_code 4 (some FieldType.int) ∈ lwG := lw_in 1037 (by decide +kernel) (by decide +kernel)
theorem ml_L_121 : Cond.methodLink RL 121 yX12_matches ∈ lwG := lw_in 1038 (by decide +kernel) (by decide +kernel)
theorem im_X12_matches : Cond.instanceMethod yX12_matches ∈ lwG := lw_in 1039 (by decide +kernel) (by decide +kernel)
theorem se_X12_matches : Cond.selects RX12 yX12_matches yX12_matches ∈ lwG := lw_in 1040 (by decide +kernel) (by decide +kernel)
theorem co_X12_matches : Cond.code yX12_matches prog_1_method_30_code 2 (some FieldType.int) ∈ lwG := lw_in 1041 (by decide +kernel) (by decide +kernel)
theorem ml_X12_223 : Cond.methodLink RX12 223 yX11_rowsFulfilling ∈ lwG := lw_in 1042 (by decide +kernel) (by decide +kernel)
theorem im_X11_rowsFulfilling : Cond.instanceMethod yX11_rowsFulfilling ∈ lwG := lw_in 1043 (by decide +kernel) (by decide +kernel)
theorem se_X11_rowsFulfilling : Cond.selects RX11 yX11_rowsFulfilling yX11_rowsFulfilling ∈ lwG := lw_in 1044 (by decide +kernel) (by decide +kernel)
theorem co_X11_rowsFulfilling : Cond.code yX11_rowsFulfilling prog_13_method_17_code 4 (some FieldType.int) ∈ lwG := lw_in 1045 (by decide +kernel) (by decide +kernel)
theorem ml_L_124 : Cond.methodLink RL 124 yX12_strictestCondition ∈ lwG := lw_in 1046 (by decide +kernel) (by decide +kernel)
theorem im_X12_strictestCondition : Cond.instanceMethod yX12_strictestCondition ∈ lwG := lw_in 1047 (by decide +kernel) (by decide +kernel)
theorem se_X12_strictestCondition : Cond.selects RX12 yX12_strictestCondition yX12_strictestCondition ∈ lwG := lw_in 1048 (by decide +kernel) (by decide +kernel)
theorem co_X12_strictestCondition : Cond.code yX12_strictestCondition prog_1_method_31_code 5 (some FieldType.int) ∈ lwG := lw_in 1049 (by decide +kernel) (by decide +kernel)
theorem ml_L_127 : Cond.methodLink RL 127 yX12_sumSelected ∈ lwG := lw_in 1050 (by decide +kernel) (by decide +kernel)
theorem im_X12_sumSelected : Cond.instanceMethod yX12_sumSelected ∈ lwG := lw_in 1051 (by decide +kernel) (by decide +kernel)
theorem se_X12_sumSelected : Cond.selects RX12 yX12_sumSelected yX12_sumSelected ∈ lwG := lw_in 1052 (by decide +kernel) (by decide +kernel)
theorem co_X12_sumSelected : Cond.code yX12_sumSelected prog_1_method_36_code 2 (some FieldType.long) ∈ lwG := lw_in 1053 (by decide +kernel) (by decide +kernel)
theorem ml_X12_235 : Cond.methodLink RX12 235 yX12_sumOfSelected ∈ lwG := lw_in 1054 (by decide +kernel) (by decide +kernel)
theorem im_X12_sumOfSelected : Cond.instanceMethod yX12_sumOfSelected ∈ lwG := lw_in 1056 (by decide +kernel) (by decide +kernel)
theorem co_X12_sumOfSelected : Cond.code yX12_sumOfSelected prog_1_method_72_code 5 (some FieldType.long) ∈ lwG := lw_in 1057 (by decide +kernel) (by decide +kernel)
theorem ml_L_131 : Cond.methodLink RL 131 yX12_smallestSelected ∈ lwG := lw_in 1058 (by decide +kernel) (by decide +kernel)
theorem im_X12_smallestSelected : Cond.instanceMethod yX12_smallestSelected ∈ lwG := lw_in 1059 (by decide +kernel) (by decide +kernel)
theorem se_X12_smallestSelected : Cond.selects RX12 yX12_smallestSelected yX12_smallestSelected ∈ lwG := lw_in 1060 (by decide +kernel) (by decide +kernel)
theorem co_X12_smallestSelected : Cond.code yX12_smallestSelected prog_1_method_37_code 2 (some FieldType.int) ∈ lwG := lw_in 1061 (by decide +kernel) (by decide +kernel)
theorem ml_X12_238 : Cond.methodLink RX12 238 yX12_collectSelected ∈ lwG := lw_in 1062 (by decide +kernel) (by decide +kernel)
theorem im_X12_collectSelected : Cond.instanceMethod yX12_collectSelected ∈ lwG := lw_in 1064 (by decide +kernel) (by decide +kernel)
theorem co_X12_collectSelected : Cond.code yX12_collectSelected prog_1_method_73_code 3 (none : Option FieldType) ∈ lwG := lw_in 1065 (by decide +kernel) (by decide +kernel)
theorem ml_X12_370 : Cond.methodLink RX12 370 yX3_clear ∈ lwG := lw_in 1066 (by decide +kernel) (by decide +kernel)
theorem ml_X12_371 : Cond.methodLink RX12 371 yX3_insert ∈ lwG := lw_in 1067 (by decide +kernel) (by decide +kernel)
theorem ml_X12_241 : Cond.methodLink RX12 241 yX12_checkAnySeen ∈ lwG := lw_in 1068 (by decide +kernel) (by decide +kernel)
theorem im_X12_checkAnySeen : Cond.instanceMethod yX12_checkAnySeen ∈ lwG := lw_in 1070 (by decide +kernel) (by decide +kernel)
theorem co_X12_checkAnySeen : Cond.code yX12_checkAnySeen prog_1_method_70_code 1 (none : Option FieldType) ∈ lwG := lw_in 1071 (by decide +kernel) (by decide +kernel)
theorem sr_X12_368 : Cond.stringRef RX12 368 "no row is selected" ∈ lw_tbl := List.mem_of_getElem? (i := 1072) (by decide +kernel)
theorem ml_L_134 : Cond.methodLink RL 134 yX12_greatestSelected ∈ lwG := lw_in 1073 (by decide +kernel) (by decide +kernel)
theorem im_X12_greatestSelected : Cond.instanceMethod yX12_greatestSelected ∈ lwG := lw_in 1074 (by decide +kernel) (by decide +kernel)
theorem se_X12_greatestSelected : Cond.selects RX12 yX12_greatestSelected yX12_greatestSelected ∈ lwG := lw_in 1075 (by decide +kernel) (by decide +kernel)
theorem co_X12_greatestSelected : Cond.code yX12_greatestSelected prog_1_method_38_code 2 (some FieldType.int) ∈ lwG := lw_in 1076 (by decide +kernel) (by decide +kernel)
theorem ml_L_137 : Cond.methodLink RL 137 yX12_distinctSelected ∈ lwG := lw_in 1077 (by decide +kernel) (by decide +kernel)
theorem im_X12_distinctSelected : Cond.instanceMethod yX12_distinctSelected ∈ lwG := lw_in 1078 (by decide +kernel) (by decide +kernel)
theorem se_X12_distinctSelected : Cond.selects RX12 yX12_distinctSelected yX12_distinctSelected ∈ lwG := lw_in 1079 (by decide +kernel) (by decide +kernel)
theorem co_X12_distinctSelected : Cond.code yX12_distinctSelected prog_1_method_39_code 2 (some FieldType.int) ∈ lwG := lw_in 1080 (by decide +kernel) (by decide +kernel)
theorem ml_L_140 : Cond.methodLink RL 140 yX12_selectedCount ∈ lwG := lw_in 1081 (by decide +kernel) (by decide +kernel)
theorem im_X12_selectedCount : Cond.instanceMethod yX12_selectedCount ∈ lwG := lw_in 1082 (by decide +kernel) (by decide +kernel)
theorem se_X12_selectedCount : Cond.selects RX12 yX12_selectedCount yX12_selectedCount ∈ lwG := lw_in 1083 (by decide +kernel) (by decide +kernel)
theorem co_X12_selectedCount : Cond.code yX12_selectedCount prog_1_method_33_code 1 (some FieldType.int) ∈ lwG := lw_in 1084 (by decide +kernel) (by decide +kernel)
theorem ml_X12_229 : Cond.methodLink RX12 229 yX11_selectedRows ∈ lwG := lw_in 1085 (by decide +kernel) (by decide +kernel)
theorem im_X11_selectedRows : Cond.instanceMethod yX11_selectedRows ∈ lwG := lw_in 1086 (by decide +kernel) (by decide +kernel)
theorem se_X11_selectedRows : Cond.selects RX11 yX11_selectedRows yX11_selectedRows ∈ lwG := lw_in 1087 (by decide +kernel) (by decide +kernel)
theorem co_X11_selectedRows : Cond.code yX11_selectedRows prog_13_method_20_code 3 (some FieldType.int) ∈ lwG := lw_in 1088 (by decide +kernel) (by decide +kernel)
theorem ml_X11_59 : Cond.methodLink RX11 59 yX11_selects ∈ lwG := lw_in 1089 (by decide +kernel) (by decide +kernel)
theorem ml_L_143 : Cond.methodLink RL 143 yX12_gap ∈ lwG := lw_in 1090 (by decide +kernel) (by decide +kernel)
theorem im_X12_gap : Cond.instanceMethod yX12_gap ∈ lwG := lw_in 1091 (by decide +kernel) (by decide +kernel)
theorem se_X12_gap : Cond.selects RX12 yX12_gap yX12_gap ∈ lwG := lw_in 1092 (by decide +kernel) (by decide +kernel)
theorem co_X12_gap : Cond.code yX12_gap prog_1_method_46_code 3 (some FieldType.int) ∈ lwG := lw_in 1093 (by decide +kernel) (by decide +kernel)
theorem ml_X12_256 : Cond.methodLink RX12 256 yX11_selectsByCode ∈ lwG := lw_in 1094 (by decide +kernel) (by decide +kernel)
theorem im_X11_selectsByCode : Cond.instanceMethod yX11_selectsByCode ∈ lwG := lw_in 1095 (by decide +kernel) (by decide +kernel)
theorem se_X11_selectsByCode : Cond.selects RX11 yX11_selectsByCode yX11_selectsByCode ∈ lwG := lw_in 1096 (by decide +kernel) (by decide +kernel)
theorem co_X11_selectsByCode : Cond.code yX11_selectsByCode prog_13_method_23_code 4 (some FieldType.boolean) ∈ lwG := lw_in 1097 (by decide +kernel) (by decide +kernel)
theorem ml_X11_106 : Cond.methodLink RX11 106 yX1_codeAt ∈ lwG := lw_in 1098 (by decide +kernel) (by decide +kernel)
theorem ml_X11_109 : Cond.methodLink RX11 109 yX11_lowerEnd ∈ lwG := lw_in 1099 (by decide +kernel) (by decide +kernel)
theorem ml_X11_112 : Cond.methodLink RX11 112 yX11_upperEnd ∈ lwG := lw_in 1100 (by decide +kernel) (by decide +kernel)
theorem ml_X12_259 : Cond.methodLink RX12 259 yX12_packingDifferences ∈ lwG := lw_in 1101 (by decide +kernel) (by decide +kernel)
theorem im_X12_packingDifferences : Cond.instanceMethod yX12_packingDifferences ∈ lwG := lw_in 1103 (by decide +kernel) (by decide +kernel)
theorem co_X12_packingDifferences : Cond.code yX12_packingDifferences prog_1_method_75_code 5 (some FieldType.int) ∈ lwG := lw_in 1104 (by decide +kernel) (by decide +kernel)
theorem ml_X12_378 : Cond.methodLink RX12 378 yX1_length ∈ lwG := lw_in 1105 (by decide +kernel) (by decide +kernel)
theorem ml_X12_381 : Cond.methodLink RX12 381 yX8_unpack ∈ lwG := lw_in 1106 (by decide +kernel) (by decide +kernel)
theorem im_X8_unpack : Cond.instanceMethod yX8_unpack ∈ lwG := lw_in 1107 (by decide +kernel) (by decide +kernel)
theorem se_X8_unpack : Cond.selects RX8 yX8_unpack yX8_unpack ∈ lwG := lw_in 1108 (by decide +kernel) (by decide +kernel)
theorem co_X8_unpack : Cond.code yX8_unpack prog_10_method_4_code 6 (some FieldType.int) ∈ lwG := lw_in 1109 (by decide +kernel) (by decide +kernel)
theorem ml_X12_384 : Cond.methodLink RX12 384 yX1_dictionary ∈ lwG := lw_in 1110 (by decide +kernel) (by decide +kernel)
theorem ml_L_240 : Cond.methodLink RL 240 yL_act ∈ lwG := lw_in 1111 (by decide +kernel) (by decide +kernel)
theorem st_L_act : Cond.static yL_act ∈ lwG := lw_in 1112 (by decide +kernel) (by decide +kernel)
set_option maxRecDepth 100000 in
theorem co_L_act0 : tables_1_5[118]? = some (Cond.code yL_act method_11_code 18 (some FieldType.boolean)) := rfl
theorem co_L_act : Cond.code yL_act method_11_code 18 (some FieldType.boolean) ∈ lwG := List.mem_filter.mpr ⟨List.mem_append_right _ (List.mem_append_right _ (show Cond.code yL_act method_11_code 18 (some FieldType.boolean) ∈ tables_1 from List.mem_append_right _ (List.mem_append_right _ (List.mem_append_right _ (List.mem_append_right _ (List.mem_append_left _ (List.mem_of_getElem? co_L_act0))))))), by decide +kernel⟩
theorem ml_L_149 : Cond.methodLink RL 149 yX12_deleteSelected ∈ lwG := lw_in 1114 (by decide +kernel) (by decide +kernel)
theorem im_X12_deleteSelected : Cond.instanceMethod yX12_deleteSelected ∈ lwG := lw_in 1115 (by decide +kernel) (by decide +kernel)
theorem se_X12_deleteSelected : Cond.selects RX12 yX12_deleteSelected yX12_deleteSelected ∈ lwG := lw_in 1116 (by decide +kernel) (by decide +kernel)
theorem co_X12_deleteSelected : Cond.code yX12_deleteSelected prog_1_method_55_code 1 (some FieldType.int) ∈ lwG := lw_in 1117 (by decide +kernel) (by decide +kernel)
theorem ml_X12_275 : Cond.methodLink RX12 275 yX5_record ∈ lwG := lw_in 1118 (by decide +kernel) (by decide +kernel)
theorem im_X5_record : Cond.instanceMethod yX5_record ∈ lwG := lw_in 1119 (by decide +kernel) (by decide +kernel)
theorem se_X5_record : Cond.selects RX5 yX5_record yX5_record ∈ lwG := lw_in 1120 (by decide +kernel) (by decide +kernel)
theorem co_X5_record : Cond.code yX5_record prog_7_method_4_code 2 (none : Option FieldType) ∈ lwG := lw_in 1121 (by decide +kernel) (by decide +kernel)
theorem ml_X5_29 : Cond.methodLink RX5 29 yJ9_min_7cf53 ∈ lwG := lw_in 1122 (by decide +kernel) (by decide +kernel)
theorem ml_X12_300 : Cond.methodLink RX12 300 yX11_deleteSelectedRows ∈ lwG := lw_in 1123 (by decide +kernel) (by decide +kernel)
theorem im_X11_deleteSelectedRows : Cond.instanceMethod yX11_deleteSelectedRows ∈ lwG := lw_in 1124 (by decide +kernel) (by decide +kernel)
theorem se_X11_deleteSelectedRows : Cond.selects RX11 yX11_deleteSelectedRows yX11_deleteSelectedRows ∈ lwG := lw_in 1125 (by decide +kernel) (by decide +kernel)
theorem co_X11_deleteSelectedRows : Cond.code yX11_deleteSelectedRows prog_13_method_12_code 3 (some FieldType.int) ∈ lwG := lw_in 1126 (by decide +kernel) (by decide +kernel)
theorem ml_X11_52 : Cond.methodLink RX11 52 yX11_moveRow ∈ lwG := lw_in 1127 (by decide +kernel) (by decide +kernel)
theorem im_X11_moveRow : Cond.instanceMethod yX11_moveRow ∈ lwG := lw_in 1129 (by decide +kernel) (by decide +kernel)
theorem co_X11_moveRow : Cond.code yX11_moveRow prog_13_method_13_code 4 (none : Option FieldType) ∈ lwG := lw_in 1130 (by decide +kernel) (by decide +kernel)
theorem ml_X11_63 : Cond.methodLink RX11 63 yX1_move ∈ lwG := lw_in 1131 (by decide +kernel) (by decide +kernel)
theorem im_X1_move : Cond.instanceMethod yX1_move ∈ lwG := lw_in 1132 (by decide +kernel) (by decide +kernel)
theorem se_X1_move : Cond.selects RX1 yX1_move yX1_move ∈ lwG := lw_in 1133 (by decide +kernel) (by decide +kernel)
theorem co_X1_move : Cond.code yX1_move prog_3_method_9_code 3 (none : Option FieldType) ∈ lwG := lw_in 1134 (by decide +kernel) (by decide +kernel)
theorem ml_X11_56 : Cond.methodLink RX11 56 yX11_shorten ∈ lwG := lw_in 1135 (by decide +kernel) (by decide +kernel)
theorem im_X11_shorten : Cond.instanceMethod yX11_shorten ∈ lwG := lw_in 1137 (by decide +kernel) (by decide +kernel)
theorem co_X11_shorten : Cond.code yX11_shorten prog_13_method_14_code 3 (none : Option FieldType) ∈ lwG := lw_in 1138 (by decide +kernel) (by decide +kernel)
theorem ml_X11_66 : Cond.methodLink RX11 66 yX1_shorten ∈ lwG := lw_in 1139 (by decide +kernel) (by decide +kernel)
theorem im_X1_shorten : Cond.instanceMethod yX1_shorten ∈ lwG := lw_in 1140 (by decide +kernel) (by decide +kernel)
theorem se_X1_shorten : Cond.selects RX1 yX1_shorten yX1_shorten ∈ lwG := lw_in 1141 (by decide +kernel) (by decide +kernel)
theorem co_X1_shorten : Cond.code yX1_shorten prog_3_method_10_code 2 (none : Option FieldType) ∈ lwG := lw_in 1142 (by decide +kernel) (by decide +kernel)
theorem cl_L_152 : Cond.classLink RL 152 RJ4 ∈ lwG := lw_in 1143 (by decide +kernel) (by decide +kernel)
theorem it_J4 : Cond.instantiable RJ4 4 ∈ lwG := lw_in 1144 (by decide +kernel) (by decide +kernel)
theorem ml_L_154 : Cond.methodLink RL 154 yJ4_init_da8c8 ∈ lwG := lw_in 1145 (by decide +kernel) (by decide +kernel)
theorem im_J4_init_da8c8 : Cond.instanceMethod yJ4_init_da8c8 ∈ lwG := lw_in 1146 (by decide +kernel) (by decide +kernel)
theorem co_J4_init_da8c8 : Cond.code yJ4_init_da8c8 prog_28_method_1_code 1 (none : Option FieldType) ∈ lwG := lw_in 1147 (by decide +kernel) (by decide +kernel)
theorem ml_J4_1 : Cond.methodLink RJ4 1 yJ5_init_d00df ∈ lwG := lw_in 1148 (by decide +kernel) (by decide +kernel)
theorem im_J5_init_d00df : Cond.instanceMethod yJ5_init_d00df ∈ lwG := lw_in 1149 (by decide +kernel) (by decide +kernel)
theorem co_J5_init_d00df : Cond.code yJ5_init_d00df prog_16_method_2_code 2 (none : Option FieldType) ∈ lwG := lw_in 1150 (by decide +kernel) (by decide +kernel)
theorem ml_J5_3 : Cond.methodLink RJ5 3 (⟨"java/lang/Object", "<init>", "()V"⟩ : MethodName) ∈ lwG := lw_in 1151 (by decide +kernel) (by decide +kernel)
theorem fl_J5_18 : Cond.fieldLink RJ5 18 "java/lang/String" "COMPACT_STRINGS" "Z" ∈ lwG := lw_in 1152 (by decide +kernel) (by decide +kernel)
theorem ml_J5_26 : Cond.methodLink RJ5 26 yJ2_newBytesFor_77867 ∈ lwG := lw_in 1153 (by decide +kernel) (by decide +kernel)
theorem st_J2_newBytesFor_77867 : Cond.static yJ2_newBytesFor_77867 ∈ lwG := lw_in 1154 (by decide +kernel) (by decide +kernel)
theorem co_J2_newBytesFor_77867 : Cond.code yJ2_newBytesFor_77867 prog_30_method_2_code 1 (some (FieldType.array FieldType.byte)) ∈ lwG := lw_in 1155 (by decide +kernel) (by decide +kernel)
theorem ml_J2_11 : Cond.methodLink RJ2 11 yJ2_newBytesLength_0f7a4 ∈ lwG := lw_in 1156 (by decide +kernel) (by decide +kernel)
theorem st_J2_newBytesLength_0f7a4 : Cond.static yJ2_newBytesLength_0f7a4 ∈ lwG := lw_in 1157 (by decide +kernel) (by decide +kernel)
theorem co_J2_newBytesLength_0f7a4 : Cond.code yJ2_newBytesLength_0f7a4 prog_30_method_3_code 1 (some FieldType.int) ∈ lwG := lw_in 1158 (by decide +kernel) (by decide +kernel)
theorem kc_J2_20 : Cond.constant RJ2 20 (1073741823 : Int32) ∈ lwG := lw_in 1159 (by decide +kernel) (by decide +kernel)
theorem fl_J5_15 : Cond.fieldLink RJ5 15 "java/lang/AbstractStringBuilder" "value" "[B" ∈ lwG := lw_in 1160 (by decide +kernel) (by decide +kernel)
theorem fl_J5_22 : Cond.fieldLink RJ5 22 "java/lang/AbstractStringBuilder" "coder" "B" ∈ lwG := lw_in 1161 (by decide +kernel) (by decide +kernel)
theorem fl_J0_1048 : Cond.fieldLink RJ0 1048 "java/lang/AbstractStringBuilder" "maybeLatin1" "Z" ∈ lwG := lw_in 1162 (by decide +kernel) (by decide +kernel)
theorem fl_J5_79 : Cond.fieldLink RJ5 79 "java/lang/AbstractStringBuilder" "count" "I" ∈ lwG := lw_in 1163 (by decide +kernel) (by decide +kernel)
theorem su_J4 : Cond.superclass RJ4 RJ5 ∈ lwG := lw_in 1172 (by decide +kernel) (by decide +kernel)
theorem sr_L_155 : Cond.stringRef RL 155 " " ∈ lw_tbl := List.mem_of_getElem? (i := 1173) (by decide +kernel)
theorem sr_L_157 : Cond.stringRef RL 157 "" ∈ lw_tbl := List.mem_of_getElem? (i := 1174) (by decide +kernel)
theorem ml_L_159 : Cond.methodLink RL 159 yJ4_append_15ec4 ∈ lwG := lw_in 1175 (by decide +kernel) (by decide +kernel)
theorem im_J4_append_15ec4 : Cond.instanceMethod yJ4_append_15ec4 ∈ lwG := lw_in 1176 (by decide +kernel) (by decide +kernel)
theorem se_J4_append_15ec4 : Cond.selects RJ4 yJ4_append_15ec4 yJ4_append_15ec4 ∈ lwG := lw_in 1177 (by decide +kernel) (by decide +kernel)
theorem co_J4_append_15ec4 : Cond.code yJ4_append_15ec4 prog_28_method_7_code 2 (some (FieldType.object "java/lang/StringBuilder")) ∈ lwG := lw_in 1178 (by decide +kernel) (by decide +kernel)
theorem ml_J4_29 : Cond.methodLink RJ4 29 yJ5_append_cf1ce ∈ lwG := lw_in 1179 (by decide +kernel) (by decide +kernel)
theorem im_J5_append_cf1ce : Cond.instanceMethod yJ5_append_cf1ce ∈ lwG := lw_in 1180 (by decide +kernel) (by decide +kernel)
theorem co_J5_append_cf1ce : Cond.code yJ5_append_cf1ce prog_16_method_22_code 3 (some (FieldType.object "java/lang/AbstractStringBuilder")) ∈ lwG := lw_in 1181 (by decide +kernel) (by decide +kernel)
theorem ml_J5_204 : Cond.methodLink RJ5 204 yJ5_appendNull_278bc ∈ lwG := lw_in 1182 (by decide +kernel) (by decide +kernel)
theorem im_J5_appendNull_278bc : Cond.instanceMethod yJ5_appendNull_278bc ∈ lwG := lw_in 1184 (by decide +kernel) (by decide +kernel)
theorem co_J5_appendNull_278bc : Cond.code yJ5_appendNull_278bc prog_16_method_26_code 3 (some (FieldType.object "java/lang/AbstractStringBuilder")) ∈ lwG := lw_in 1185 (by decide +kernel) (by decide +kernel)
theorem ml_J5_100 : Cond.methodLink RJ5 100 yJ5_ensureCapacityInternal_d00df ∈ lwG := lw_in 1186 (by decide +kernel) (by decide +kernel)
theorem im_J5_ensureCapacityInternal_d00df : Cond.instanceMethod yJ5_ensureCapacityInternal_d00df ∈ lwG := lw_in 1188 (by decide +kernel) (by decide +kernel)
theorem co_J5_ensureCapacityInternal_d00df : Cond.code yJ5_ensureCapacityInternal_d00df prog_16_method_9_code 3 (none : Option FieldType) ∈ lwG := lw_in 1189 (by decide +kernel) (by decide +kernel)
theorem ml_J5_104 : Cond.methodLink RJ5 104 yJ5_newCapacity_0f7a4 ∈ lwG := lw_in 1190 (by decide +kernel) (by decide +kernel)
theorem im_J5_newCapacity_0f7a4 : Cond.instanceMethod yJ5_newCapacity_0f7a4 ∈ lwG := lw_in 1192 (by decide +kernel) (by decide +kernel)
theorem co_J5_newCapacity_0f7a4 : Cond.code yJ5_newCapacity_0f7a4 prog_16_method_10_code 6 (some FieldType.int) ∈ lwG := lw_in 1193 (by decide +kernel) (by decide +kernel)
theorem ml_J5_114 : Cond.methodLink RJ5 114 yJ8_newLength_cabcc ∈ lwG := lw_in 1194 (by decide +kernel) (by decide +kernel)
theorem st_J8_newLength_cabcc : Cond.static yJ8_newLength_cabcc ∈ lwG := lw_in 1195 (by decide +kernel) (by decide +kernel)
theorem co_J8_newLength_cabcc : Cond.code yJ8_newLength_cabcc prog_34_method_27_code 4 (some FieldType.int) ∈ lwG := lw_in 1196 (by decide +kernel) (by decide +kernel)
theorem ml_J8_194 : Cond.methodLink RJ8 194 yJ9_max_7cf53 ∈ lwG := lw_in 1197 (by decide +kernel) (by decide +kernel)
theorem kc_J8_200 : Cond.constant RJ8 200 (2147483639 : Int32) ∈ lwG := lw_in 1198 (by decide +kernel) (by decide +kernel)
theorem ml_J8_201 : Cond.methodLink RJ8 201 yJ8_hugeLength_7cf53 ∈ lwG := lw_in 1199 (by decide +kernel) (by decide +kernel)
theorem st_J8_hugeLength_7cf53 : Cond.static yJ8_hugeLength_7cf53 ∈ lwG := lw_in 1200 (by decide +kernel) (by decide +kernel)
theorem co_J8_hugeLength_7cf53 : Cond.code yJ8_hugeLength_7cf53 prog_34_method_28_code 3 (some FieldType.int) ∈ lwG := lw_in 1201 (by decide +kernel) (by decide +kernel)
theorem kc_J5_39 : Cond.constant RJ5 39 (2147483647 : Int32) ∈ lwG := lw_in 1202 (by decide +kernel) (by decide +kernel)
theorem ml_J5_108 : Cond.methodLink RJ5 108 yJ7_copyOf_9075b ∈ lwG := lw_in 1203 (by decide +kernel) (by decide +kernel)
theorem st_J7_copyOf_9075b : Cond.static yJ7_copyOf_9075b ∈ lwG := lw_in 1204 (by decide +kernel) (by decide +kernel)
theorem co_J7_copyOf_9075b : Cond.code yJ7_copyOf_9075b prog_33_method_121_code 3 (some (FieldType.array FieldType.byte)) ∈ lwG := lw_in 1205 (by decide +kernel) (by decide +kernel)
theorem ml_J7_310 : Cond.methodLink RJ7 310 (⟨"[B", "clone", "()Ljava/lang/Object;"⟩ : MethodName) ∈ lwG := lw_in 1206 (by decide +kernel) (by decide +kernel)
theorem sm__B_clone : Cond.sameMethod "[B" "java/lang/Object" "clone" "()Ljava/lang/Object;" ∈ lwG := lw_in 1207 (by decide +kernel) (by decide +kernel)
theorem se__B_clone___Ljava_lang_Object_ : Cond.selects "[B" (⟨"[B", "clone", "()Ljava/lang/Object;"⟩ : MethodName) (⟨"java/lang/Object", "clone", "()Ljava/lang/Object;"⟩ : MethodName) ∈ lwG := lw_in 1208 (by decide +kernel) (by decide +kernel)
theorem cl_J7_311 : Cond.classLink RJ7 311 "[B" ∈ lwG := lw_in 1210 (by decide +kernel) (by decide +kernel)
theorem ml_J5_83 : Cond.methodLink RJ5 83 yJ5_isLatin1_aae02 ∈ lwG := lw_in 1211 (by decide +kernel) (by decide +kernel)
theorem im_J5_isLatin1_aae02 : Cond.instanceMethod yJ5_isLatin1_aae02 ∈ lwG := lw_in 1212 (by decide +kernel) (by decide +kernel)
theorem sm_J5_isLatin1 : Cond.sameMethod "java/lang/AbstractStringBuilder" "java/lang/AbstractStringBuilder" "isLatin1" "()Z" ∈ lwG := lw_in 1213 (by decide +kernel) (by decide +kernel)
theorem se_J5_isLatin1_aae02 : Cond.selects RJ4 yJ5_isLatin1_aae02 yJ5_isLatin1_aae02 ∈ lwG := lw_in 1214 (by decide +kernel) (by decide +kernel)
theorem co_J5_isLatin1_aae02 : Cond.code yJ5_isLatin1_aae02 prog_16_method_68_code 1 (some FieldType.boolean) ∈ lwG := lw_in 1215 (by decide +kernel) (by decide +kernel)
theorem ml_J5_226 : Cond.methodLink RJ5 226 yJ2_putCharsAt_cd4e5 ∈ lwG := lw_in 1216 (by decide +kernel) (by decide +kernel)
theorem st_J2_putCharsAt_cd4e5 : Cond.static yJ2_putCharsAt_cd4e5 ∈ lwG := lw_in 1217 (by decide +kernel) (by decide +kernel)
theorem co_J2_putCharsAt_cd4e5 : Cond.code yJ2_putCharsAt_cd4e5 prog_30_method_81_code 7 (some FieldType.int) ∈ lwG := lw_in 1218 (by decide +kernel) (by decide +kernel)
theorem ml_J2_96 : Cond.methodLink RJ2 96 yJ2_checkBoundsBeginEnd_d044e ∈ lwG := lw_in 1219 (by decide +kernel) (by decide +kernel)
theorem st_J2_checkBoundsBeginEnd_d044e : Cond.static yJ2_checkBoundsBeginEnd_d044e ∈ lwG := lw_in 1220 (by decide +kernel) (by decide +kernel)
theorem co_J2_checkBoundsBeginEnd_d044e : Cond.code yJ2_checkBoundsBeginEnd_d044e prog_30_method_93_code 3 (none : Option FieldType) ∈ lwG := lw_in 1221 (by decide +kernel) (by decide +kernel)
theorem ml_J2_241 : Cond.methodLink RJ2 241 yJ0_checkBoundsBeginEnd_23922 ∈ lwG := lw_in 1222 (by decide +kernel) (by decide +kernel)
theorem st_J0_checkBoundsBeginEnd_23922 : Cond.static yJ0_checkBoundsBeginEnd_23922 ∈ lwG := lw_in 1223 (by decide +kernel) (by decide +kernel)
theorem co_J0_checkBoundsBeginEnd_23922 : Cond.code yJ0_checkBoundsBeginEnd_23922 prog_27_method_158_code 3 (none : Option FieldType) ∈ lwG := lw_in 1224 (by decide +kernel) (by decide +kernel)
theorem ml_J0_1062 : Cond.methodLink RJ0 1062 yJ3_checkFromToIndex_8c36e ∈ lwG := lw_in 1225 (by decide +kernel) (by decide +kernel)
theorem st_J3_checkFromToIndex_8c36e : Cond.static yJ3_checkFromToIndex_8c36e ∈ lwG := lw_in 1226 (by decide +kernel) (by decide +kernel)
theorem co_J3_checkFromToIndex_8c36e : Cond.code yJ3_checkFromToIndex_8c36e prog_35_method_12_code 4 (some FieldType.int) ∈ lwG := lw_in 1227 (by decide +kernel) (by decide +kernel)
theorem ml_J2_111 : Cond.methodLink RJ2 111 yJ2_putChar_b72d1 ∈ lwG := lw_in 1228 (by decide +kernel) (by decide +kernel)
theorem st_J2_putChar_b72d1 : Cond.static yJ2_putChar_b72d1 ∈ lwG := lw_in 1229 (by decide +kernel) (by decide +kernel)
theorem co_J2_putChar_b72d1 : Cond.code yJ2_putChar_b72d1 prog_30_method_4_code 3 (none : Option FieldType) ∈ lwG := lw_in 1230 (by decide +kernel) (by decide +kernel)
theorem ml_J5_32 : Cond.methodLink RJ5 32 yJ0_length_8abf5 ∈ lwG := lw_in 1231 (by decide +kernel) (by decide +kernel)
theorem ml_J5_208 : Cond.methodLink RJ5 208 yJ5_putStringAt_47b60 ∈ lwG := lw_in 1232 (by decide +kernel) (by decide +kernel)
theorem im_J5_putStringAt_47b60 : Cond.instanceMethod yJ5_putStringAt_47b60 ∈ lwG := lw_in 1234 (by decide +kernel) (by decide +kernel)
theorem co_J5_putStringAt_47b60 : Cond.code yJ5_putStringAt_47b60 prog_16_method_73_code 3 (none : Option FieldType) ∈ lwG := lw_in 1235 (by decide +kernel) (by decide +kernel)
theorem ml_J5_397 : Cond.methodLink RJ5 397 yJ5_inflateIfNeededFor_a7421 ∈ lwG := lw_in 1236 (by decide +kernel) (by decide +kernel)
theorem im_J5_inflateIfNeededFor_a7421 : Cond.instanceMethod yJ5_inflateIfNeededFor_a7421 ∈ lwG := lw_in 1238 (by decide +kernel) (by decide +kernel)
theorem co_J5_inflateIfNeededFor_a7421 : Cond.code yJ5_inflateIfNeededFor_a7421 prog_16_method_71_code 2 (none : Option FieldType) ∈ lwG := lw_in 1239 (by decide +kernel) (by decide +kernel)
theorem ml_J5_40 : Cond.methodLink RJ5 40 yJ0_coder_7d493 ∈ lwG := lw_in 1240 (by decide +kernel) (by decide +kernel)
theorem ml_J5_195 : Cond.methodLink RJ5 195 yJ5_inflate_da8c8 ∈ lwG := lw_in 1241 (by decide +kernel) (by decide +kernel)
theorem im_J5_inflate_da8c8 : Cond.instanceMethod yJ5_inflate_da8c8 ∈ lwG := lw_in 1243 (by decide +kernel) (by decide +kernel)
end
section
/-! the words that the tables hold, by their places -/
theorem co_J5_inflate_da8c8 : Cond.code yJ5_inflate_da8c8 prog_16_method_11_code 2 (none : Option FieldType) ∈ lwG := lw_in 1244 (by decide +kernel) (by decide +kernel)
theorem ml_J5_125 : Cond.methodLink RJ5 125 yJ1_inflate_0e8fd ∈ lwG := lw_in 1245 (by decide +kernel) (by decide +kernel)
theorem st_J1_inflate_0e8fd : Cond.static yJ1_inflate_0e8fd ∈ lwG := lw_in 1246 (by decide +kernel) (by decide +kernel)
theorem co_J1_inflate_0e8fd : Cond.code yJ1_inflate_0e8fd prog_29_method_50_code 5 (none : Option FieldType) ∈ lwG := lw_in 1247 (by decide +kernel) (by decide +kernel)
theorem ml_J1_240 : Cond.methodLink RJ1 240 yJ2_inflate_0e8fd ∈ lwG := lw_in 1248 (by decide +kernel) (by decide +kernel)
theorem st_J2_inflate_0e8fd : Cond.static yJ2_inflate_0e8fd ∈ lwG := lw_in 1249 (by decide +kernel) (by decide +kernel)
theorem co_J2_inflate_0e8fd : Cond.code yJ2_inflate_0e8fd prog_30_method_86_code 6 (none : Option FieldType) ∈ lwG := lw_in 1250 (by decide +kernel) (by decide +kernel)
theorem ml_J2_173 : Cond.methodLink RJ2 173 yJ2_checkBoundsOffCount_d044e ∈ lwG := lw_in 1251 (by decide +kernel) (by decide +kernel)
theorem st_J2_checkBoundsOffCount_d044e : Cond.static yJ2_checkBoundsOffCount_d044e ∈ lwG := lw_in 1252 (by decide +kernel) (by decide +kernel)
theorem co_J2_checkBoundsOffCount_d044e : Cond.code yJ2_checkBoundsOffCount_d044e prog_30_method_94_code 3 (none : Option FieldType) ∈ lwG := lw_in 1253 (by decide +kernel) (by decide +kernel)
theorem ml_J2_419 : Cond.methodLink RJ2 419 yJ0_checkBoundsOffCount_cabcc ∈ lwG := lw_in 1254 (by decide +kernel) (by decide +kernel)
theorem st_J0_checkBoundsOffCount_cabcc : Cond.static yJ0_checkBoundsOffCount_cabcc ∈ lwG := lw_in 1255 (by decide +kernel) (by decide +kernel)
theorem co_J0_checkBoundsOffCount_cabcc : Cond.code yJ0_checkBoundsOffCount_cabcc prog_27_method_157_code 3 (some FieldType.int) ∈ lwG := lw_in 1256 (by decide +kernel) (by decide +kernel)
theorem ml_J0_1065 : Cond.methodLink RJ0 1065 yJ3_checkFromIndexSize_8c36e ∈ lwG := lw_in 1257 (by decide +kernel) (by decide +kernel)
theorem st_J3_checkFromIndexSize_8c36e : Cond.static yJ3_checkFromIndexSize_8c36e ∈ lwG := lw_in 1258 (by decide +kernel) (by decide +kernel)
theorem co_J3_checkFromIndexSize_8c36e : Cond.code yJ3_checkFromIndexSize_8c36e prog_35_method_13_code 4 (some FieldType.int) ∈ lwG := lw_in 1259 (by decide +kernel) (by decide +kernel)
theorem ml_J5_399 : Cond.methodLink RJ5 399 yJ0_getBytes_840e7 ∈ lwG := lw_in 1260 (by decide +kernel) (by decide +kernel)
theorem im_J0_getBytes_840e7 : Cond.instanceMethod yJ0_getBytes_840e7 ∈ lwG := lw_in 1261 (by decide +kernel) (by decide +kernel)
theorem se_J0_getBytes_840e7 : Cond.selects RJ0 yJ0_getBytes_840e7 yJ0_getBytes_840e7 ∈ lwG := lw_in 1262 (by decide +kernel) (by decide +kernel)
theorem co_J0_getBytes_840e7 : Cond.code yJ0_getBytes_840e7 prog_27_method_147_code 4 (none : Option FieldType) ∈ lwG := lw_in 1263 (by decide +kernel) (by decide +kernel)
theorem ml_J0_212 : Cond.methodLink RJ0 212 (⟨RJ10, "arraycopy", "(Ljava/lang/Object;ILjava/lang/Object;II)V"⟩ : MethodName) ∈ lwG := lw_in 1264 (by decide +kernel) (by decide +kernel)
theorem ml_J0_106 : Cond.methodLink RJ0 106 yJ1_inflate_0e8fd ∈ lwG := lw_in 1265 (by decide +kernel) (by decide +kernel)
theorem ml_L_163 : Cond.methodLink RL 163 yJ4_append_bf812 ∈ lwG := lw_in 1266 (by decide +kernel) (by decide +kernel)
theorem im_J4_append_bf812 : Cond.instanceMethod yJ4_append_bf812 ∈ lwG := lw_in 1267 (by decide +kernel) (by decide +kernel)
theorem se_J4_append_bf812 : Cond.selects RJ4 yJ4_append_bf812 yJ4_append_bf812 ∈ lwG := lw_in 1268 (by decide +kernel) (by decide +kernel)
theorem co_J4_append_bf812 : Cond.code yJ4_append_bf812 prog_28_method_15_code 2 (some (FieldType.object "java/lang/StringBuilder")) ∈ lwG := lw_in 1269 (by decide +kernel) (by decide +kernel)
theorem ml_J4_53 : Cond.methodLink RJ4 53 yJ5_append_c97b9 ∈ lwG := lw_in 1270 (by decide +kernel) (by decide +kernel)
theorem im_J5_append_c97b9 : Cond.instanceMethod yJ5_append_c97b9 ∈ lwG := lw_in 1271 (by decide +kernel) (by decide +kernel)
theorem co_J5_append_c97b9 : Cond.code yJ5_append_c97b9 prog_16_method_32_code 4 (some (FieldType.object "java/lang/AbstractStringBuilder")) ∈ lwG := lw_in 1272 (by decide +kernel) (by decide +kernel)
theorem ml_J5_245 : Cond.methodLink RJ5 245 yJ6_stringSize_0f7a4 ∈ lwG := lw_in 1273 (by decide +kernel) (by decide +kernel)
theorem st_J6_stringSize_0f7a4 : Cond.static yJ6_stringSize_0f7a4 ∈ lwG := lw_in 1274 (by decide +kernel) (by decide +kernel)
theorem co_J6_stringSize_0f7a4 : Cond.code yJ6_stringSize_0f7a4 prog_23_method_13_code 4 (some FieldType.int) ∈ lwG := lw_in 1275 (by decide +kernel) (by decide +kernel)
theorem ml_J5_248 : Cond.methodLink RJ5 248 yJ6_getChars_ba4f3 ∈ lwG := lw_in 1276 (by decide +kernel) (by decide +kernel)
theorem st_J6_getChars_ba4f3 : Cond.static yJ6_getChars_ba4f3 ∈ lwG := lw_in 1277 (by decide +kernel) (by decide +kernel)
theorem co_J6_getChars_ba4f3 : Cond.code yJ6_getChars_ba4f3 prog_23_method_12_code 7 (some FieldType.int) ∈ lwG := lw_in 1278 (by decide +kernel) (by decide +kernel)
theorem fl_J6_83 : Cond.fieldLink RJ6 83 "java/lang/Integer" "DigitOnes" "[B" ∈ lwG := lw_in 1279 (by decide +kernel) (by decide +kernel)
theorem fl_J6_87 : Cond.fieldLink RJ6 87 "java/lang/Integer" "DigitTens" "[B" ∈ lwG := lw_in 1281 (by decide +kernel) (by decide +kernel)
theorem ml_J5_251 : Cond.methodLink RJ5 251 yJ2_getChars_46870 ∈ lwG := lw_in 1283 (by decide +kernel) (by decide +kernel)
theorem st_J2_getChars_46870 : Cond.static yJ2_getChars_46870 ∈ lwG := lw_in 1284 (by decide +kernel) (by decide +kernel)
theorem co_J2_getChars_46870 : Cond.code yJ2_getChars_46870 prog_30_method_77_code 5 (some FieldType.int) ∈ lwG := lw_in 1285 (by decide +kernel) (by decide +kernel)
theorem ml_J2_393 : Cond.methodLink RJ2 393 yJ2_getChars_ba4f3 ∈ lwG := lw_in 1286 (by decide +kernel) (by decide +kernel)
theorem st_J2_getChars_ba4f3 : Cond.static yJ2_getChars_ba4f3 ∈ lwG := lw_in 1287 (by decide +kernel) (by decide +kernel)
theorem co_J2_getChars_ba4f3 : Cond.code yJ2_getChars_ba4f3 prog_30_method_89_code 7 (some FieldType.int) ∈ lwG := lw_in 1288 (by decide +kernel) (by decide +kernel)
theorem fl_J2_403 : Cond.fieldLink RJ2 403 "java/lang/Integer" "DigitOnes" "[B" ∈ lwG := lw_in 1289 (by decide +kernel) (by decide +kernel)
theorem fl_J2_407 : Cond.fieldLink RJ2 407 "java/lang/Integer" "DigitTens" "[B" ∈ lwG := lw_in 1290 (by decide +kernel) (by decide +kernel)
theorem ml_L_166 : Cond.methodLink RL 166 yJ4_toString_0e30d ∈ lwG := lw_in 1291 (by decide +kernel) (by decide +kernel)
theorem im_J4_toString_0e30d : Cond.instanceMethod yJ4_toString_0e30d ∈ lwG := lw_in 1292 (by decide +kernel) (by decide +kernel)
theorem se_J4_toString_0e30d : Cond.selects RJ4 yJ4_toString_0e30d yJ4_toString_0e30d ∈ lwG := lw_in 1293 (by decide +kernel) (by decide +kernel)
theorem co_J4_toString_0e30d : Cond.code yJ4_toString_0e30d prog_28_method_42_code 1 (some (FieldType.object "java/lang/String")) ∈ lwG := lw_in 1294 (by decide +kernel) (by decide +kernel)
theorem cl_J4_18 : Cond.classLink RJ4 18 RJ0 ∈ lwG := lw_in 1295 (by decide +kernel) (by decide +kernel)
theorem it_J0 : Cond.instantiable RJ0 4 ∈ lwG := lw_in 1296 (by decide +kernel) (by decide +kernel)
theorem ml_J4_137 : Cond.methodLink RJ4 137 yJ0_init_81219 ∈ lwG := lw_in 1297 (by decide +kernel) (by decide +kernel)
theorem im_J0_init_81219 : Cond.instanceMethod yJ0_init_81219 ∈ lwG := lw_in 1298 (by decide +kernel) (by decide +kernel)
theorem co_J0_init_81219 : Cond.code yJ0_init_81219 prog_27_method_53_code 2 (none : Option FieldType) ∈ lwG := lw_in 1299 (by decide +kernel) (by decide +kernel)
theorem ml_J0_489 : Cond.methodLink RJ0 489 yJ0_init_db425 ∈ lwG := lw_in 1300 (by decide +kernel) (by decide +kernel)
theorem im_J0_init_db425 : Cond.instanceMethod yJ0_init_db425 ∈ lwG := lw_in 1301 (by decide +kernel) (by decide +kernel)
theorem co_J0_init_db425 : Cond.code yJ0_init_db425 prog_27_method_150_code 5 (none : Option FieldType) ∈ lwG := lw_in 1302 (by decide +kernel) (by decide +kernel)
theorem ml_J0_1 : Cond.methodLink RJ0 1 (⟨"java/lang/Object", "<init>", "()V"⟩ : MethodName) ∈ lwG := lw_in 1303 (by decide +kernel) (by decide +kernel)
theorem ml_J0_552 : Cond.methodLink RJ0 552 yJ5_getValue_6d5f1 ∈ lwG := lw_in 1304 (by decide +kernel) (by decide +kernel)
theorem im_J5_getValue_6d5f1 : Cond.instanceMethod yJ5_getValue_6d5f1 ∈ lwG := lw_in 1305 (by decide +kernel) (by decide +kernel)
theorem sm_J5_getValue : Cond.sameMethod "java/lang/AbstractStringBuilder" "java/lang/AbstractStringBuilder" "getValue" "()[B" ∈ lwG := lw_in 1306 (by decide +kernel) (by decide +kernel)
theorem se_J5_getValue_6d5f1 : Cond.selects RJ4 yJ5_getValue_6d5f1 yJ5_getValue_6d5f1 ∈ lwG := lw_in 1307 (by decide +kernel) (by decide +kernel)
theorem co_J5_getValue_6d5f1 : Cond.code yJ5_getValue_6d5f1 prog_16_method_64_code 1 (some (FieldType.array FieldType.byte)) ∈ lwG := lw_in 1308 (by decide +kernel) (by decide +kernel)
theorem ml_J0_549 : Cond.methodLink RJ0 549 yJ5_length_8abf5 ∈ lwG := lw_in 1309 (by decide +kernel) (by decide +kernel)
theorem im_J5_length_8abf5 : Cond.instanceMethod yJ5_length_8abf5 ∈ lwG := lw_in 1310 (by decide +kernel) (by decide +kernel)
theorem sm_J5_length : Cond.sameMethod "java/lang/AbstractStringBuilder" "java/lang/AbstractStringBuilder" "length" "()I" ∈ lwG := lw_in 1311 (by decide +kernel) (by decide +kernel)
theorem se_J5_length_8abf5 : Cond.selects RJ4 yJ5_length_8abf5 yJ4_length_8abf5 ∈ lwG := lw_in 1312 (by decide +kernel) (by decide +kernel)
theorem im_J4_length_8abf5 : Cond.instanceMethod yJ4_length_8abf5 ∈ lwG := lw_in 1313 (by decide +kernel) (by decide +kernel)
theorem co_J4_length_8abf5 : Cond.code yJ4_length_8abf5 prog_28_method_93_code 1 (some FieldType.int) ∈ lwG := lw_in 1314 (by decide +kernel) (by decide +kernel)
theorem ml_J4_343 : Cond.methodLink RJ4 343 yJ5_length_8abf5 ∈ lwG := lw_in 1315 (by decide +kernel) (by decide +kernel)
theorem co_J5_length_8abf5 : Cond.code yJ5_length_8abf5 prog_16_method_6_code 1 (some FieldType.int) ∈ lwG := lw_in 1316 (by decide +kernel) (by decide +kernel)
theorem ml_J0_1047 : Cond.methodLink RJ0 1047 yJ5_isLatin1_aae02 ∈ lwG := lw_in 1317 (by decide +kernel) (by decide +kernel)
theorem ml_J0_54 : Cond.methodLink RJ0 54 yJ7_copyOfRange_39247 ∈ lwG := lw_in 1318 (by decide +kernel) (by decide +kernel)
theorem st_J7_copyOfRange_39247 : Cond.static yJ7_copyOfRange_39247 ∈ lwG := lw_in 1319 (by decide +kernel) (by decide +kernel)
theorem co_J7_copyOfRange_39247 : Cond.code yJ7_copyOfRange_39247 prog_33_method_132_code 3 (some (FieldType.array FieldType.byte)) ∈ lwG := lw_in 1320 (by decide +kernel) (by decide +kernel)
theorem ml_J7_339 : Cond.methodLink RJ7 339 yJ7_copyOfRangeByte_39247 ∈ lwG := lw_in 1321 (by decide +kernel) (by decide +kernel)
theorem st_J7_copyOfRangeByte_39247 : Cond.static yJ7_copyOfRangeByte_39247 ∈ lwG := lw_in 1322 (by decide +kernel) (by decide +kernel)
theorem co_J7_copyOfRangeByte_39247 : Cond.code yJ7_copyOfRangeByte_39247 prog_33_method_133_code 5 (some (FieldType.array FieldType.byte)) ∈ lwG := lw_in 1323 (by decide +kernel) (by decide +kernel)
theorem ml_J7_343 : Cond.methodLink RJ7 343 yJ7_checkLength_df160 ∈ lwG := lw_in 1324 (by decide +kernel) (by decide +kernel)
theorem st_J7_checkLength_df160 : Cond.static yJ7_checkLength_df160 ∈ lwG := lw_in 1325 (by decide +kernel) (by decide +kernel)
theorem co_J7_checkLength_df160 : Cond.code yJ7_checkLength_df160 prog_33_method_131_code 2 (none : Option FieldType) ∈ lwG := lw_in 1326 (by decide +kernel) (by decide +kernel)
theorem ml_J0_1051 : Cond.methodLink RJ0 1051 yJ2_compress_39247 ∈ lwG := lw_in 1327 (by decide +kernel) (by decide +kernel)
theorem st_J2_compress_39247 : Cond.static yJ2_compress_39247 ∈ lwG := lw_in 1328 (by decide +kernel) (by decide +kernel)
theorem co_J2_compress_39247 : Cond.code yJ2_compress_39247 prog_30_method_17_code 6 (some (FieldType.array FieldType.byte)) ∈ lwG := lw_in 1329 (by decide +kernel) (by decide +kernel)
theorem ml_J2_123 : Cond.methodLink RJ2 123 yJ2_compress_5af95 ∈ lwG := lw_in 1330 (by decide +kernel) (by decide +kernel)
theorem st_J2_compress_5af95 : Cond.static yJ2_compress_5af95 ∈ lwG := lw_in 1331 (by decide +kernel) (by decide +kernel)
theorem co_J2_compress_5af95 : Cond.code yJ2_compress_5af95 prog_30_method_22_code 7 (some FieldType.int) ∈ lwG := lw_in 1332 (by decide +kernel) (by decide +kernel)
theorem ml_J2_126 : Cond.methodLink RJ2 126 yJ7_copyOfRange_39247 ∈ lwG := lw_in 1333 (by decide +kernel) (by decide +kernel)
theorem ml_J0_47 : Cond.methodLink RJ0 47 yJ2_coderFromArrayLen_85cad ∈ lwG := lw_in 1334 (by decide +kernel) (by decide +kernel)
theorem st_J2_coderFromArrayLen_85cad : Cond.static yJ2_coderFromArrayLen_85cad ∈ lwG := lw_in 1335 (by decide +kernel) (by decide +kernel)
theorem co_J2_coderFromArrayLen_85cad : Cond.code yJ2_coderFromArrayLen_85cad prog_30_method_15_code 2 (some FieldType.byte) ∈ lwG := lw_in 1336 (by decide +kernel) (by decide +kernel)
theorem fl_J0_9 : Cond.fieldLink RJ0 9 "java/lang/String" "value" "[B" ∈ lwG := lw_in 1337 (by decide +kernel) (by decide +kernel)
theorem fl_J0_15 : Cond.fieldLink RJ0 15 "java/lang/String" "coder" "B" ∈ lwG := lw_in 1338 (by decide +kernel) (by decide +kernel)
theorem su_J0 : Cond.superclass RJ0 "java/lang/Object" ∈ lwG := lw_in 1347 (by decide +kernel) (by decide +kernel)
theorem ml_L_178 : Cond.methodLink RL 178 yX12_addRow ∈ lwG := lw_in 1348 (by decide +kernel) (by decide +kernel)
theorem im_X12_addRow : Cond.instanceMethod yX12_addRow ∈ lwG := lw_in 1349 (by decide +kernel) (by decide +kernel)
theorem se_X12_addRow : Cond.selects RX12 yX12_addRow yX12_addRow ∈ lwG := lw_in 1350 (by decide +kernel) (by decide +kernel)
theorem co_X12_addRow : Cond.code yX12_addRow prog_1_method_47_code 3 (some FieldType.int) ∈ lwG := lw_in 1351 (by decide +kernel) (by decide +kernel)
theorem ml_X12_263 : Cond.methodLink RX12 263 yX11_isFull ∈ lwG := lw_in 1352 (by decide +kernel) (by decide +kernel)
theorem im_X11_isFull : Cond.instanceMethod yX11_isFull ∈ lwG := lw_in 1353 (by decide +kernel) (by decide +kernel)
theorem se_X11_isFull : Cond.selects RX11 yX11_isFull yX11_isFull ∈ lwG := lw_in 1354 (by decide +kernel) (by decide +kernel)
theorem co_X11_isFull : Cond.code yX11_isFull prog_13_method_7_code 1 (some FieldType.boolean) ∈ lwG := lw_in 1355 (by decide +kernel) (by decide +kernel)
theorem sr_X12_268 : Cond.stringRef RX12 268 "60 rows" ∈ lw_tbl := List.mem_of_getElem? (i := 1356) (by decide +kernel)
theorem ml_X12_271 : Cond.methodLink RX12 271 yX9_readRow ∈ lwG := lw_in 1357 (by decide +kernel) (by decide +kernel)
theorem im_X9_readRow : Cond.instanceMethod yX9_readRow ∈ lwG := lw_in 1358 (by decide +kernel) (by decide +kernel)
theorem se_X9_readRow : Cond.selects RX9 yX9_readRow yX9_readRow ∈ lwG := lw_in 1359 (by decide +kernel) (by decide +kernel)
theorem co_X9_readRow : Cond.code yX9_readRow prog_11_method_10_code 3 (some FieldType.boolean) ∈ lwG := lw_in 1360 (by decide +kernel) (by decide +kernel)
theorem ml_X9_62 : Cond.methodLink RX9 62 yX9_takeEnd ∈ lwG := lw_in 1361 (by decide +kernel) (by decide +kernel)
theorem im_X9_takeEnd : Cond.instanceMethod yX9_takeEnd ∈ lwG := lw_in 1363 (by decide +kernel) (by decide +kernel)
theorem co_X9_takeEnd : Cond.code yX9_takeEnd prog_11_method_29_code 1 (some FieldType.boolean) ∈ lwG := lw_in 1364 (by decide +kernel) (by decide +kernel)
theorem ml_X12_279 : Cond.methodLink RX12 279 yX11_appendRow ∈ lwG := lw_in 1365 (by decide +kernel) (by decide +kernel)
theorem ml_L_181 : Cond.methodLink RL 181 yX12_bitWidthWith ∈ lwG := lw_in 1366 (by decide +kernel) (by decide +kernel)
theorem im_X12_bitWidthWith : Cond.instanceMethod yX12_bitWidthWith ∈ lwG := lw_in 1367 (by decide +kernel) (by decide +kernel)
theorem se_X12_bitWidthWith : Cond.selects RX12 yX12_bitWidthWith yX12_bitWidthWith ∈ lwG := lw_in 1368 (by decide +kernel) (by decide +kernel)
theorem co_X12_bitWidthWith : Cond.code yX12_bitWidthWith prog_1_method_42_code 4 (some FieldType.int) ∈ lwG := lw_in 1369 (by decide +kernel) (by decide +kernel)
theorem ml_X12_244 : Cond.methodLink RX12 244 yX12_checkValue ∈ lwG := lw_in 1370 (by decide +kernel) (by decide +kernel)
theorem im_X12_checkValue : Cond.instanceMethod yX12_checkValue ∈ lwG := lw_in 1372 (by decide +kernel) (by decide +kernel)
theorem co_X12_checkValue : Cond.code yX12_checkValue prog_1_method_69_code 2 (none : Option FieldType) ∈ lwG := lw_in 1373 (by decide +kernel) (by decide +kernel)
theorem sr_X12_366 : Cond.stringRef RX12 366 "value out of range" ∈ lw_tbl := List.mem_of_getElem? (i := 1374) (by decide +kernel)
theorem ml_X12_247 : Cond.methodLink RX12 247 yX3_holds ∈ lwG := lw_in 1375 (by decide +kernel) (by decide +kernel)
theorem im_X3_holds : Cond.instanceMethod yX3_holds ∈ lwG := lw_in 1376 (by decide +kernel) (by decide +kernel)
theorem se_X3_holds : Cond.selects RX3 yX3_holds yX3_holds ∈ lwG := lw_in 1377 (by decide +kernel) (by decide +kernel)
theorem co_X3_holds : Cond.code yX3_holds prog_5_method_7_code 2 (some FieldType.boolean) ∈ lwG := lw_in 1378 (by decide +kernel) (by decide +kernel)
theorem ml_X3_21 : Cond.methodLink RX3 21 yX3_find ∈ lwG := lw_in 1379 (by decide +kernel) (by decide +kernel)
theorem ml_X12_250 : Cond.methodLink RX12 250 yX3_widthFor ∈ lwG := lw_in 1380 (by decide +kernel) (by decide +kernel)
theorem ml_L_184 : Cond.methodLink RL 184 yX12_setValue ∈ lwG := lw_in 1381 (by decide +kernel) (by decide +kernel)
theorem im_X12_setValue : Cond.instanceMethod yX12_setValue ∈ lwG := lw_in 1382 (by decide +kernel) (by decide +kernel)
theorem se_X12_setValue : Cond.selects RX12 yX12_setValue yX12_setValue ∈ lwG := lw_in 1383 (by decide +kernel) (by decide +kernel)
theorem co_X12_setValue : Cond.code yX12_setValue prog_1_method_49_code 5 (some FieldType.int) ∈ lwG := lw_in 1384 (by decide +kernel) (by decide +kernel)
theorem ml_X12_286 : Cond.methodLink RX12 286 yX1_put ∈ lwG := lw_in 1385 (by decide +kernel) (by decide +kernel)
theorem im_X1_put : Cond.instanceMethod yX1_put ∈ lwG := lw_in 1386 (by decide +kernel) (by decide +kernel)
theorem se_X1_put : Cond.selects RX1 yX1_put yX1_put ∈ lwG := lw_in 1387 (by decide +kernel) (by decide +kernel)
theorem co_X1_put : Cond.code yX1_put prog_3_method_8_code 3 (none : Option FieldType) ∈ lwG := lw_in 1388 (by decide +kernel) (by decide +kernel)
theorem ml_L_188 : Cond.methodLink RL 188 yX12_sort ∈ lwG := lw_in 1389 (by decide +kernel) (by decide +kernel)
theorem im_X12_sort : Cond.instanceMethod yX12_sort ∈ lwG := lw_in 1390 (by decide +kernel) (by decide +kernel)
theorem se_X12_sort : Cond.selects RX12 yX12_sort yX12_sort ∈ lwG := lw_in 1391 (by decide +kernel) (by decide +kernel)
theorem co_X12_sort : Cond.code yX12_sort prog_1_method_50_code 3 (some FieldType.int) ∈ lwG := lw_in 1392 (by decide +kernel) (by decide +kernel)
theorem ml_X12_289 : Cond.methodLink RX12 289 yX12_sortRows ∈ lwG := lw_in 1393 (by decide +kernel) (by decide +kernel)
theorem im_X12_sortRows : Cond.instanceMethod yX12_sortRows ∈ lwG := lw_in 1395 (by decide +kernel) (by decide +kernel)
theorem co_X12_sortRows : Cond.code yX12_sortRows prog_1_method_77_code 3 (none : Option FieldType) ∈ lwG := lw_in 1396 (by decide +kernel) (by decide +kernel)
theorem ml_X12_394 : Cond.methodLink RX12 394 yX11_reorder ∈ lwG := lw_in 1397 (by decide +kernel) (by decide +kernel)
theorem im_X11_reorder : Cond.instanceMethod yX11_reorder ∈ lwG := lw_in 1398 (by decide +kernel) (by decide +kernel)
theorem se_X11_reorder : Cond.selects RX11 yX11_reorder yX11_reorder ∈ lwG := lw_in 1399 (by decide +kernel) (by decide +kernel)
theorem co_X11_reorder : Cond.code yX11_reorder prog_13_method_15_code 3 (none : Option FieldType) ∈ lwG := lw_in 1400 (by decide +kernel) (by decide +kernel)
theorem ml_X11_67 : Cond.methodLink RX11 67 yX1_reorder ∈ lwG := lw_in 1401 (by decide +kernel) (by decide +kernel)
theorem im_X1_reorder : Cond.instanceMethod yX1_reorder ∈ lwG := lw_in 1402 (by decide +kernel) (by decide +kernel)
theorem se_X1_reorder : Cond.selects RX1 yX1_reorder yX1_reorder ∈ lwG := lw_in 1403 (by decide +kernel) (by decide +kernel)
theorem co_X1_reorder : Cond.code yX1_reorder prog_3_method_11_code 2 (none : Option FieldType) ∈ lwG := lw_in 1404 (by decide +kernel) (by decide +kernel)
theorem ml_X1_37 : Cond.methodLink RX1 37 yX10_applyTo ∈ lwG := lw_in 1405 (by decide +kernel) (by decide +kernel)
theorem im_X10_applyTo : Cond.instanceMethod yX10_applyTo ∈ lwG := lw_in 1406 (by decide +kernel) (by decide +kernel)
theorem se_X10_applyTo : Cond.selects RX10 yX10_applyTo yX10_applyTo ∈ lwG := lw_in 1407 (by decide +kernel) (by decide +kernel)
theorem co_X10_applyTo : Cond.code yX10_applyTo prog_12_method_6_code 3 (none : Option FieldType) ∈ lwG := lw_in 1408 (by decide +kernel) (by decide +kernel)
theorem ml_X10_39 : Cond.methodLink RX10 39 (⟨RJ10, "arraycopy", "(Ljava/lang/Object;ILjava/lang/Object;II)V"⟩ : MethodName) ∈ lwG := lw_in 1409 (by decide +kernel) (by decide +kernel)
theorem ml_L_192 : Cond.methodLink RL 192 yX12_addLess ∈ lwG := lw_in 1410 (by decide +kernel) (by decide +kernel)
theorem im_X12_addLess : Cond.instanceMethod yX12_addLess ∈ lwG := lw_in 1411 (by decide +kernel) (by decide +kernel)
theorem se_X12_addLess : Cond.selects RX12 yX12_addLess yX12_addLess ∈ lwG := lw_in 1412 (by decide +kernel) (by decide +kernel)
theorem co_X12_addLess : Cond.code yX12_addLess prog_1_method_51_code 3 (some FieldType.int) ∈ lwG := lw_in 1413 (by decide +kernel) (by decide +kernel)
theorem ml_X12_293 : Cond.methodLink RX12 293 yX12_addCondition ∈ lwG := lw_in 1414 (by decide +kernel) (by decide +kernel)
theorem im_X12_addCondition : Cond.instanceMethod yX12_addCondition ∈ lwG := lw_in 1416 (by decide +kernel) (by decide +kernel)
theorem co_X12_addCondition : Cond.code yX12_addCondition prog_1_method_76_code 4 (some FieldType.int) ∈ lwG := lw_in 1417 (by decide +kernel) (by decide +kernel)
theorem ml_X12_387 : Cond.methodLink RX12 387 yX4_isFull ∈ lwG := lw_in 1418 (by decide +kernel) (by decide +kernel)
theorem im_X4_isFull : Cond.instanceMethod yX4_isFull ∈ lwG := lw_in 1419 (by decide +kernel) (by decide +kernel)
theorem se_X4_isFull : Cond.selects RX4 yX4_isFull yX4_isFull ∈ lwG := lw_in 1420 (by decide +kernel) (by decide +kernel)
theorem co_X4_isFull : Cond.code yX4_isFull prog_6_method_3_code 1 (some FieldType.boolean) ∈ lwG := lw_in 1421 (by decide +kernel) (by decide +kernel)
theorem sr_X12_388 : Cond.stringRef RX12 388 "8 conditions" ∈ lw_tbl := List.mem_of_getElem? (i := 1422) (by decide +kernel)
theorem ml_X12_390 : Cond.methodLink RX12 390 yX4_add ∈ lwG := lw_in 1423 (by decide +kernel) (by decide +kernel)
theorem im_X4_add : Cond.instanceMethod yX4_add ∈ lwG := lw_in 1424 (by decide +kernel) (by decide +kernel)
theorem se_X4_add : Cond.selects RX4 yX4_add yX4_add ∈ lwG := lw_in 1425 (by decide +kernel) (by decide +kernel)
theorem co_X4_add : Cond.code yX4_add prog_6_method_9_code 4 (none : Option FieldType) ∈ lwG := lw_in 1426 (by decide +kernel) (by decide +kernel)
theorem ml_L_195 : Cond.methodLink RL 195 yX12_addEqual ∈ lwG := lw_in 1427 (by decide +kernel) (by decide +kernel)
theorem im_X12_addEqual : Cond.instanceMethod yX12_addEqual ∈ lwG := lw_in 1428 (by decide +kernel) (by decide +kernel)
theorem se_X12_addEqual : Cond.selects RX12 yX12_addEqual yX12_addEqual ∈ lwG := lw_in 1429 (by decide +kernel) (by decide +kernel)
theorem co_X12_addEqual : Cond.code yX12_addEqual prog_1_method_52_code 3 (some FieldType.int) ∈ lwG := lw_in 1430 (by decide +kernel) (by decide +kernel)
theorem ml_L_198 : Cond.methodLink RL 198 yX12_addGreater ∈ lwG := lw_in 1431 (by decide +kernel) (by decide +kernel)
theorem im_X12_addGreater : Cond.instanceMethod yX12_addGreater ∈ lwG := lw_in 1432 (by decide +kernel) (by decide +kernel)
theorem se_X12_addGreater : Cond.selects RX12 yX12_addGreater yX12_addGreater ∈ lwG := lw_in 1433 (by decide +kernel) (by decide +kernel)
theorem co_X12_addGreater : Cond.code yX12_addGreater prog_1_method_53_code 3 (some FieldType.int) ∈ lwG := lw_in 1434 (by decide +kernel) (by decide +kernel)
theorem ml_L_201 : Cond.methodLink RL 201 yX12_removeCondition ∈ lwG := lw_in 1435 (by decide +kernel) (by decide +kernel)
theorem im_X12_removeCondition : Cond.instanceMethod yX12_removeCondition ∈ lwG := lw_in 1436 (by decide +kernel) (by decide +kernel)
theorem se_X12_removeCondition : Cond.selects RX12 yX12_removeCondition yX12_removeCondition ∈ lwG := lw_in 1437 (by decide +kernel) (by decide +kernel)
theorem co_X12_removeCondition : Cond.code yX12_removeCondition prog_1_method_54_code 2 (some FieldType.int) ∈ lwG := lw_in 1438 (by decide +kernel) (by decide +kernel)
theorem ml_X12_297 : Cond.methodLink RX12 297 yX4_remove ∈ lwG := lw_in 1439 (by decide +kernel) (by decide +kernel)
theorem im_X4_remove : Cond.instanceMethod yX4_remove ∈ lwG := lw_in 1440 (by decide +kernel) (by decide +kernel)
theorem se_X4_remove : Cond.selects RX4 yX4_remove yX4_remove ∈ lwG := lw_in 1441 (by decide +kernel) (by decide +kernel)
theorem co_X4_remove : Cond.code yX4_remove prog_6_method_10_code 3 (none : Option FieldType) ∈ lwG := lw_in 1442 (by decide +kernel) (by decide +kernel)
theorem ml_L_204 : Cond.methodLink RL 204 yX12_removeRow ∈ lwG := lw_in 1443 (by decide +kernel) (by decide +kernel)
theorem im_X12_removeRow : Cond.instanceMethod yX12_removeRow ∈ lwG := lw_in 1444 (by decide +kernel) (by decide +kernel)
theorem se_X12_removeRow : Cond.selects RX12 yX12_removeRow yX12_removeRow ∈ lwG := lw_in 1445 (by decide +kernel) (by decide +kernel)
theorem co_X12_removeRow : Cond.code yX12_removeRow prog_1_method_48_code 2 (some FieldType.int) ∈ lwG := lw_in 1446 (by decide +kernel) (by decide +kernel)
theorem ml_X12_283 : Cond.methodLink RX12 283 yX11_deleteRow ∈ lwG := lw_in 1447 (by decide +kernel) (by decide +kernel)
theorem im_X11_deleteRow : Cond.instanceMethod yX11_deleteRow ∈ lwG := lw_in 1448 (by decide +kernel) (by decide +kernel)
theorem se_X11_deleteRow : Cond.selects RX11 yX11_deleteRow yX11_deleteRow ∈ lwG := lw_in 1449 (by decide +kernel) (by decide +kernel)
theorem co_X11_deleteRow : Cond.code yX11_deleteRow prog_13_method_11_code 3 (none : Option FieldType) ∈ lwG := lw_in 1450 (by decide +kernel) (by decide +kernel)
theorem ml_L_207 : Cond.methodLink RL 207 yX12_compact ∈ lwG := lw_in 1451 (by decide +kernel) (by decide +kernel)
theorem im_X12_compact : Cond.instanceMethod yX12_compact ∈ lwG := lw_in 1452 (by decide +kernel) (by decide +kernel)
theorem se_X12_compact : Cond.selects RX12 yX12_compact yX12_compact ∈ lwG := lw_in 1453 (by decide +kernel) (by decide +kernel)
theorem co_X12_compact : Cond.code yX12_compact prog_1_method_56_code 3 (some FieldType.int) ∈ lwG := lw_in 1454 (by decide +kernel) (by decide +kernel)
theorem ml_X12_303 : Cond.methodLink RX12 303 yX1_dropStale ∈ lwG := lw_in 1455 (by decide +kernel) (by decide +kernel)
theorem im_X1_dropStale : Cond.instanceMethod yX1_dropStale ∈ lwG := lw_in 1456 (by decide +kernel) (by decide +kernel)
theorem se_X1_dropStale : Cond.selects RX1 yX1_dropStale yX1_dropStale ∈ lwG := lw_in 1457 (by decide +kernel) (by decide +kernel)
theorem co_X1_dropStale : Cond.code yX1_dropStale prog_3_method_13_code 1 (none : Option FieldType) ∈ lwG := lw_in 1458 (by decide +kernel) (by decide +kernel)
theorem ml_X1_43 : Cond.methodLink RX1 43 yX1_collectInto ∈ lwG := lw_in 1459 (by decide +kernel) (by decide +kernel)
theorem ml_L_217 : Cond.methodLink RL 217 yJ4_init_a7421 ∈ lwG := lw_in 1460 (by decide +kernel) (by decide +kernel)
theorem im_J4_init_a7421 : Cond.instanceMethod yJ4_init_a7421 ∈ lwG := lw_in 1461 (by decide +kernel) (by decide +kernel)
theorem co_J4_init_a7421 : Cond.code yJ4_init_a7421 prog_28_method_3_code 2 (none : Option FieldType) ∈ lwG := lw_in 1462 (by decide +kernel) (by decide +kernel)
theorem ml_J4_7 : Cond.methodLink RJ4 7 yJ5_init_a7421 ∈ lwG := lw_in 1463 (by decide +kernel) (by decide +kernel)
theorem im_J5_init_a7421 : Cond.instanceMethod yJ5_init_a7421 ∈ lwG := lw_in 1464 (by decide +kernel) (by decide +kernel)
theorem co_J5_init_a7421 : Cond.code yJ5_init_a7421 prog_16_method_3_code 5 (none : Option FieldType) ∈ lwG := lw_in 1465 (by decide +kernel) (by decide +kernel)
theorem kc_J5_38 : Cond.constant RJ5 38 (2147483631 : Int32) ∈ lwG := lw_in 1466 (by decide +kernel) (by decide +kernel)
theorem ml_J5_43 : Cond.methodLink RJ5 43 yJ5_append_cf1ce ∈ lwG := lw_in 1467 (by decide +kernel) (by decide +kernel)
theorem im_J4_append_cf1ce : Cond.instanceMethod yJ4_append_cf1ce ∈ lwG := lw_in 1468 (by decide +kernel) (by decide +kernel)
theorem co_J4_append_cf1ce : Cond.code yJ4_append_cf1ce prog_28_method_80_code 2 (some (FieldType.object "java/lang/AbstractStringBuilder")) ∈ lwG := lw_in 1469 (by decide +kernel) (by decide +kernel)
theorem ml_J4_23 : Cond.methodLink RJ4 23 yJ4_append_15ec4 ∈ lwG := lw_in 1470 (by decide +kernel) (by decide +kernel)
theorem ml_L_220 : Cond.methodLink RL 220 yJ4_append_cf468 ∈ lwG := lw_in 1471 (by decide +kernel) (by decide +kernel)
theorem im_J4_append_cf468 : Cond.instanceMethod yJ4_append_cf468 ∈ lwG := lw_in 1472 (by decide +kernel) (by decide +kernel)
theorem se_J4_append_cf468 : Cond.selects RJ4 yJ4_append_cf468 yJ4_append_cf468 ∈ lwG := lw_in 1473 (by decide +kernel) (by decide +kernel)
theorem co_J4_append_cf468 : Cond.code yJ4_append_cf468 prog_28_method_14_code 2 (some (FieldType.object "java/lang/StringBuilder")) ∈ lwG := lw_in 1474 (by decide +kernel) (by decide +kernel)
theorem ml_J4_50 : Cond.methodLink RJ4 50 yJ5_append_3fe6f ∈ lwG := lw_in 1475 (by decide +kernel) (by decide +kernel)
theorem im_J5_append_3fe6f : Cond.instanceMethod yJ5_append_3fe6f ∈ lwG := lw_in 1476 (by decide +kernel) (by decide +kernel)
theorem co_J5_append_3fe6f : Cond.code yJ5_append_3fe6f prog_16_method_31_code 2 (some (FieldType.object "java/lang/AbstractStringBuilder")) ∈ lwG := lw_in 1477 (by decide +kernel) (by decide +kernel)
theorem ml_J5_191 : Cond.methodLink RJ5 191 yJ1_canEncode_fc78d ∈ lwG := lw_in 1478 (by decide +kernel) (by decide +kernel)
theorem st_J1_canEncode_fc78d : Cond.static yJ1_canEncode_fc78d ∈ lwG := lw_in 1479 (by decide +kernel) (by decide +kernel)
theorem co_J1_canEncode_fc78d : Cond.code yJ1_canEncode_fc78d prog_29_method_3_code 1 (some FieldType.boolean) ∈ lwG := lw_in 1480 (by decide +kernel) (by decide +kernel)
theorem ml_J5_197 : Cond.methodLink RJ5 197 yJ2_putCharSB_b72d1 ∈ lwG := lw_in 1481 (by decide +kernel) (by decide +kernel)
theorem st_J2_putCharSB_b72d1 : Cond.static yJ2_putCharSB_b72d1 ∈ lwG := lw_in 1482 (by decide +kernel) (by decide +kernel)
theorem co_J2_putCharSB_b72d1 : Cond.code yJ2_putCharSB_b72d1 prog_30_method_71_code 3 (none : Option FieldType) ∈ lwG := lw_in 1483 (by decide +kernel) (by decide +kernel)
theorem sr_L_215 : Cond.stringRef RL 215 "table " ∈ lw_tbl := List.mem_of_getElem? (i := 1484) (by decide +kernel)
theorem sm_java_lang_Throwable_fillInStackTrace_1450 : Cond.sameMethod "java/lang/Throwable" "java/lang/Throwable" "fillInStackTrace" "(I)Ljava/lang/Throwable;" ∈ lwG := lw_in 1485 (by decide +kernel) (by decide +kernel)
theorem sm_J5_append : Cond.sameMethod "java/lang/AbstractStringBuilder" "java/lang/AbstractStringBuilder" "append" "(Ljava/lang/String;)Ljava/lang/AbstractStringBuilder;" ∈ lwG := lw_in 1486 (by decide +kernel) (by decide +kernel)
theorem sm_J5_appendNull : Cond.sameMethod "java/lang/AbstractStringBuilder" "java/lang/AbstractStringBuilder" "appendNull" "()Ljava/lang/AbstractStringBuilder;" ∈ lwG := lw_in 1487 (by decide +kernel) (by decide +kernel)
theorem sm_J5_ensureCapacityInternal : Cond.sameMethod "java/lang/AbstractStringBuilder" "java/lang/AbstractStringBuilder" "ensureCapacityInternal" "(I)V" ∈ lwG := lw_in 1488 (by decide +kernel) (by decide +kernel)
theorem sm_J5_newCapacity : Cond.sameMethod "java/lang/AbstractStringBuilder" "java/lang/AbstractStringBuilder" "newCapacity" "(I)I" ∈ lwG := lw_in 1489 (by decide +kernel) (by decide +kernel)
theorem sm_J5_putStringAt : Cond.sameMethod "java/lang/AbstractStringBuilder" "java/lang/AbstractStringBuilder" "putStringAt" "(ILjava/lang/String;)V" ∈ lwG := lw_in 1490 (by decide +kernel) (by decide +kernel)
theorem sm_J5_inflateIfNeededFor : Cond.sameMethod "java/lang/AbstractStringBuilder" "java/lang/AbstractStringBuilder" "inflateIfNeededFor" "(Ljava/lang/String;)V" ∈ lwG := lw_in 1491 (by decide +kernel) (by decide +kernel)
theorem sm_J5_inflate : Cond.sameMethod "java/lang/AbstractStringBuilder" "java/lang/AbstractStringBuilder" "inflate" "()V" ∈ lwG := lw_in 1492 (by decide +kernel) (by decide +kernel)
theorem sm_J5_append_1458 : Cond.sameMethod "java/lang/AbstractStringBuilder" "java/lang/AbstractStringBuilder" "append" "(I)Ljava/lang/AbstractStringBuilder;" ∈ lwG := lw_in 1493 (by decide +kernel) (by decide +kernel)
theorem se_J5_append_cf1ce : Cond.selects RJ4 yJ5_append_cf1ce yJ4_append_cf1ce ∈ lwG := lw_in 1494 (by decide +kernel) (by decide +kernel)
theorem sm_J5_append_1460 : Cond.sameMethod "java/lang/AbstractStringBuilder" "java/lang/AbstractStringBuilder" "append" "(C)Ljava/lang/AbstractStringBuilder;" ∈ lwG := lw_in 1495 (by decide +kernel) (by decide +kernel)
theorem inWX0 : ∀ w ∈ u_ws RX0 TX0 0, w ∈ lwG := by decide +kernel
theorem inWX1 : ∀ w ∈ u_ws RX1 TX1 3, w ∈ lwG := by decide +kernel
theorem inWX2 : ∀ w ∈ u_ws RX2 TX2 6, w ∈ lwG := by decide +kernel
theorem inWX3 : ∀ w ∈ u_ws RX3 TX3 2, w ∈ lwG := by decide +kernel
theorem inWX4 : ∀ w ∈ u_ws RX4 TX4 4, w ∈ lwG := by decide +kernel
theorem inWX5 : ∀ w ∈ u_ws RX5 TX5 3, w ∈ lwG := by decide +kernel
theorem inWX6 : ∀ w ∈ u_ws RX6 TX6 7, w ∈ lwG := by decide +kernel
theorem inWX7 : ∀ w ∈ u_ws RX7 TX7 0, w ∈ lwG := by decide +kernel
theorem inWX8 : ∀ w ∈ u_ws RX8 TX8 2, w ∈ lwG := by decide +kernel
theorem inWX9 : ∀ w ∈ u_ws RX9 TX9 9, w ∈ lwG := by decide +kernel
theorem inWX10 : ∀ w ∈ u_ws RX10 TX10 3, w ∈ lwG := by decide +kernel
theorem inWX11 : ∀ w ∈ u_ws RX11 TX11 3, w ∈ lwG := by decide +kernel
theorem inWX12 : ∀ w ∈ u_ws RX12 TX12 11, w ∈ lwG := by decide +kernel
theorem inWX13 : ∀ w ∈ u_ws RX13 TX13 0, w ∈ lwG := by decide +kernel
theorem inWJ0 : ∀ w ∈ u_ws RJ0 TJ0 4, w ∈ lwG := by decide +kernel
theorem inWJ4 : ∀ w ∈ u_ws RJ4 TJ4 4, w ∈ lwG := by decide +kernel
end
section
/-! decode rows -/
theorem dX1_init_0 : decode cX1_init 0 = .ok (.aload_n 0, 1) := by decide +kernel
theorem dX1_init_1 : decode cX1_init 1 = .ok (.invokespecial 3, 3) := by decide +kernel
theorem dX1_init_4 : decode cX1_init 4 = .ok (.aload_n 0, 1) := by decide +kernel
theorem dX1_init_5 : decode cX1_init 5 = .ok (.bipush 60, 2) := by decide +kernel
theorem dX1_init_7 : decode cX1_init 7 = .ok (.newarray .int, 2) := by decide +kernel
theorem dX1_init_9 : decode cX1_init 9 = .ok (.putfield 9, 3) := by decide +kernel
theorem dX1_init_12 : decode cX1_init 12 = .ok (.aload_n 0, 1) := by decide +kernel
theorem dX1_init_13 : decode cX1_init 13 = .ok (.new 15, 3) := by decide +kernel
theorem dX1_init_16 : decode cX1_init 16 = .ok (.dup, 1) := by decide +kernel
theorem dX1_init_17 : decode cX1_init 17 = .ok (.invokespecial 17, 3) := by decide +kernel
theorem dX1_init_20 : decode cX1_init 20 = .ok (.putfield 18, 3) := by decide +kernel
theorem dX1_init_23 : decode cX1_init 23 = .ok (.return_, 1) := by decide +kernel
theorem dX1_length_0 : decode cX1_length 0 = .ok (.aload_n 0, 1) := by decide +kernel
theorem dX1_length_1 : decode cX1_length 1 = .ok (.getfield 22, 3) := by decide +kernel
theorem dX1_length_4 : decode cX1_length 4 = .ok (.ireturn, 1) := by decide +kernel
theorem dX1_dictionary_0 : decode cX1_dictionary 0 = .ok (.aload_n 0, 1) := by decide +kernel
theorem dX1_dictionary_1 : decode cX1_dictionary 1 = .ok (.getfield 18, 3) := by decide +kernel
theorem dX1_dictionary_4 : decode cX1_dictionary 4 = .ok (.areturn, 1) := by decide +kernel
theorem dX1_valueAt_0 : decode cX1_valueAt 0 = .ok (.aload_n 0, 1) := by decide +kernel
theorem dX1_valueAt_1 : decode cX1_valueAt 1 = .ok (.getfield 9, 3) := by decide +kernel
theorem dX1_valueAt_4 : decode cX1_valueAt 4 = .ok (.iload_n 1, 1) := by decide +kernel
theorem dX1_valueAt_5 : decode cX1_valueAt 5 = .ok (.iaload, 1) := by decide +kernel
theorem dX1_valueAt_6 : decode cX1_valueAt 6 = .ok (.ireturn, 1) := by decide +kernel
theorem dX1_codeAt_0 : decode cX1_codeAt 0 = .ok (.aload_n 0, 1) := by decide +kernel
theorem dX1_codeAt_1 : decode cX1_codeAt 1 = .ok (.getfield 18, 3) := by decide +kernel
theorem dX1_codeAt_4 : decode cX1_codeAt 4 = .ok (.aload_n 0, 1) := by decide +kernel
theorem dX1_codeAt_5 : decode cX1_codeAt 5 = .ok (.getfield 9, 3) := by decide +kernel
theorem dX1_codeAt_8 : decode cX1_codeAt 8 = .ok (.iload_n 1, 1) := by decide +kernel
theorem dX1_codeAt_9 : decode cX1_codeAt 9 = .ok (.iaload, 1) := by decide +kernel
theorem dX1_codeAt_10 : decode cX1_codeAt 10 = .ok (.invokevirtual 26, 3) := by decide +kernel
theorem dX1_codeAt_13 : decode cX1_codeAt 13 = .ok (.ireturn, 1) := by decide +kernel
theorem dX1_clear_0 : decode cX1_clear 0 = .ok (.aload_n 0, 1) := by decide +kernel
theorem dX1_clear_1 : decode cX1_clear 1 = .ok (.iconst 0, 1) := by decide +kernel
theorem dX1_clear_2 : decode cX1_clear 2 = .ok (.putfield 22, 3) := by decide +kernel
theorem dX1_clear_5 : decode cX1_clear 5 = .ok (.aload_n 0, 1) := by decide +kernel
theorem dX1_clear_6 : decode cX1_clear 6 = .ok (.getfield 18, 3) := by decide +kernel
theorem dX1_clear_9 : decode cX1_clear 9 = .ok (.invokevirtual 30, 3) := by decide +kernel
theorem dX1_clear_12 : decode cX1_clear 12 = .ok (.return_, 1) := by decide +kernel
theorem dX1_append_0 : decode cX1_append 0 = .ok (.aload_n 0, 1) := by decide +kernel
theorem dX1_append_1 : decode cX1_append 1 = .ok (.getfield 22, 3) := by decide +kernel
theorem dX1_append_4 : decode cX1_append 4 = .ok (.bipush 60, 2) := by decide +kernel
theorem dX1_append_6 : decode cX1_append 6 = .ok (.if_icmp .ge 31, 3) := by decide +kernel
theorem dX1_append_9 : decode cX1_append 9 = .ok (.aload_n 0, 1) := by decide +kernel
theorem dX1_append_10 : decode cX1_append 10 = .ok (.getfield 9, 3) := by decide +kernel
theorem dX1_append_13 : decode cX1_append 13 = .ok (.aload_n 0, 1) := by decide +kernel
theorem dX1_append_14 : decode cX1_append 14 = .ok (.getfield 22, 3) := by decide +kernel
theorem dX1_append_17 : decode cX1_append 17 = .ok (.iload_n 1, 1) := by decide +kernel
theorem dX1_append_18 : decode cX1_append 18 = .ok (.iastore, 1) := by decide +kernel
theorem dX1_append_19 : decode cX1_append 19 = .ok (.aload_n 0, 1) := by decide +kernel
theorem dX1_append_20 : decode cX1_append 20 = .ok (.dup, 1) := by decide +kernel
theorem dX1_append_21 : decode cX1_append 21 = .ok (.getfield 22, 3) := by decide +kernel
theorem dX1_append_24 : decode cX1_append 24 = .ok (.iconst 1, 1) := by decide +kernel
theorem dX1_append_25 : decode cX1_append 25 = .ok (.iadd, 1) := by decide +kernel
theorem dX1_append_26 : decode cX1_append 26 = .ok (.putfield 22, 3) := by decide +kernel
theorem dX1_append_29 : decode cX1_append 29 = .ok (.aload_n 0, 1) := by decide +kernel
theorem dX1_append_30 : decode cX1_append 30 = .ok (.getfield 18, 3) := by decide +kernel
theorem dX1_append_33 : decode cX1_append 33 = .ok (.iload_n 1, 1) := by decide +kernel
theorem dX1_append_34 : decode cX1_append 34 = .ok (.invokevirtual 33, 3) := by decide +kernel
theorem dX1_append_37 : decode cX1_append 37 = .ok (.return_, 1) := by decide +kernel
theorem dX1_put_0 : decode cX1_put 0 = .ok (.aload_n 0, 1) := by decide +kernel
theorem dX1_put_1 : decode cX1_put 1 = .ok (.getfield 9, 3) := by decide +kernel
theorem dX1_put_4 : decode cX1_put 4 = .ok (.iload_n 1, 1) := by decide +kernel
theorem dX1_put_5 : decode cX1_put 5 = .ok (.iload_n 2, 1) := by decide +kernel
theorem dX1_put_6 : decode cX1_put 6 = .ok (.iastore, 1) := by decide +kernel
theorem dX1_put_7 : decode cX1_put 7 = .ok (.aload_n 0, 1) := by decide +kernel
theorem dX1_put_8 : decode cX1_put 8 = .ok (.getfield 18, 3) := by decide +kernel
theorem dX1_put_11 : decode cX1_put 11 = .ok (.iload_n 2, 1) := by decide +kernel
theorem dX1_put_12 : decode cX1_put 12 = .ok (.invokevirtual 33, 3) := by decide +kernel
theorem dX1_put_15 : decode cX1_put 15 = .ok (.return_, 1) := by decide +kernel
theorem dX1_move_0 : decode cX1_move 0 = .ok (.aload_n 0, 1) := by decide +kernel
theorem dX1_move_1 : decode cX1_move 1 = .ok (.getfield 9, 3) := by decide +kernel
theorem dX1_move_4 : decode cX1_move 4 = .ok (.iload_n 2, 1) := by decide +kernel
theorem dX1_move_5 : decode cX1_move 5 = .ok (.aload_n 0, 1) := by decide +kernel
theorem dX1_move_6 : decode cX1_move 6 = .ok (.getfield 9, 3) := by decide +kernel
theorem dX1_move_9 : decode cX1_move 9 = .ok (.iload_n 1, 1) := by decide +kernel
theorem dX1_move_10 : decode cX1_move 10 = .ok (.iaload, 1) := by decide +kernel
theorem dX1_move_11 : decode cX1_move 11 = .ok (.iastore, 1) := by decide +kernel
theorem dX1_move_12 : decode cX1_move 12 = .ok (.return_, 1) := by decide +kernel
theorem dX1_shorten_0 : decode cX1_shorten 0 = .ok (.aload_n 0, 1) := by decide +kernel
theorem dX1_shorten_1 : decode cX1_shorten 1 = .ok (.iload_n 1, 1) := by decide +kernel
theorem dX1_shorten_2 : decode cX1_shorten 2 = .ok (.putfield 22, 3) := by decide +kernel
theorem dX1_shorten_5 : decode cX1_shorten 5 = .ok (.return_, 1) := by decide +kernel
theorem dX1_reorder_0 : decode cX1_reorder 0 = .ok (.aload_n 1, 1) := by decide +kernel
theorem dX1_reorder_1 : decode cX1_reorder 1 = .ok (.aload_n 0, 1) := by decide +kernel
theorem dX1_reorder_2 : decode cX1_reorder 2 = .ok (.getfield 9, 3) := by decide +kernel
theorem dX1_reorder_5 : decode cX1_reorder 5 = .ok (.invokevirtual 37, 3) := by decide +kernel
theorem dX1_reorder_8 : decode cX1_reorder 8 = .ok (.return_, 1) := by decide +kernel
theorem dX1_collectInto_0 : decode cX1_collectInto 0 = .ok (.aload_n 1, 1) := by decide +kernel
theorem dX1_collectInto_1 : decode cX1_collectInto 1 = .ok (.invokevirtual 30, 3) := by decide +kernel
theorem dX1_collectInto_4 : decode cX1_collectInto 4 = .ok (.iconst 0, 1) := by decide +kernel
theorem dX1_collectInto_5 : decode cX1_collectInto 5 = .ok (.istore_n 2, 1) := by decide +kernel
theorem dX1_collectInto_6 : decode cX1_collectInto 6 = .ok (.iload_n 2, 1) := by decide +kernel
theorem dX1_collectInto_7 : decode cX1_collectInto 7 = .ok (.aload_n 0, 1) := by decide +kernel
theorem dX1_collectInto_8 : decode cX1_collectInto 8 = .ok (.getfield 22, 3) := by decide +kernel
theorem dX1_collectInto_11 : decode cX1_collectInto 11 = .ok (.if_icmp .ge 19, 3) := by decide +kernel
theorem dX1_collectInto_14 : decode cX1_collectInto 14 = .ok (.aload_n 1, 1) := by decide +kernel
theorem dX1_collectInto_15 : decode cX1_collectInto 15 = .ok (.aload_n 0, 1) := by decide +kernel
theorem dX1_collectInto_16 : decode cX1_collectInto 16 = .ok (.getfield 9, 3) := by decide +kernel
theorem dX1_collectInto_19 : decode cX1_collectInto 19 = .ok (.iload_n 2, 1) := by decide +kernel
theorem dX1_collectInto_20 : decode cX1_collectInto 20 = .ok (.iaload, 1) := by decide +kernel
theorem dX1_collectInto_21 : decode cX1_collectInto 21 = .ok (.invokevirtual 33, 3) := by decide +kernel
theorem dX1_collectInto_24 : decode cX1_collectInto 24 = .ok (.iinc 2 1, 3) := by decide +kernel
theorem dX1_collectInto_27 : decode cX1_collectInto 27 = .ok (.goto (-21), 3) := by decide +kernel
theorem dX1_collectInto_30 : decode cX1_collectInto 30 = .ok (.return_, 1) := by decide +kernel
theorem dX1_dropStale_0 : decode cX1_dropStale 0 = .ok (.aload_n 0, 1) := by decide +kernel
theorem dX1_dropStale_1 : decode cX1_dropStale 1 = .ok (.aload_n 0, 1) := by decide +kernel
theorem dX1_dropStale_2 : decode cX1_dropStale 2 = .ok (.getfield 18, 3) := by decide +kernel
theorem dX1_dropStale_5 : decode cX1_dropStale 5 = .ok (.invokevirtual 43, 3) := by decide +kernel
theorem dX1_dropStale_8 : decode cX1_dropStale 8 = .ok (.return_, 1) := by decide +kernel
theorem dX1_occurrences_0 : decode cX1_occurrences 0 = .ok (.iconst 0, 1) := by decide +kernel
theorem dX1_occurrences_1 : decode cX1_occurrences 1 = .ok (.istore_n 2, 1) := by decide +kernel
theorem dX1_occurrences_2 : decode cX1_occurrences 2 = .ok (.iconst 0, 1) := by decide +kernel
theorem dX1_occurrences_3 : decode cX1_occurrences 3 = .ok (.istore_n 3, 1) := by decide +kernel
theorem dX1_occurrences_4 : decode cX1_occurrences 4 = .ok (.iload_n 3, 1) := by decide +kernel
theorem dX1_occurrences_5 : decode cX1_occurrences 5 = .ok (.aload_n 0, 1) := by decide +kernel
theorem dX1_occurrences_6 : decode cX1_occurrences 6 = .ok (.getfield 22, 3) := by decide +kernel
theorem dX1_occurrences_9 : decode cX1_occurrences 9 = .ok (.if_icmp .ge 22, 3) := by decide +kernel
theorem dX1_occurrences_12 : decode cX1_occurrences 12 = .ok (.aload_n 0, 1) := by decide +kernel
theorem dX1_occurrences_13 : decode cX1_occurrences 13 = .ok (.getfield 9, 3) := by decide +kernel
theorem dX1_occurrences_16 : decode cX1_occurrences 16 = .ok (.iload_n 3, 1) := by decide +kernel
theorem dX1_occurrences_17 : decode cX1_occurrences 17 = .ok (.iaload, 1) := by decide +kernel
theorem dX1_occurrences_18 : decode cX1_occurrences 18 = .ok (.iload_n 1, 1) := by decide +kernel
theorem dX1_occurrences_19 : decode cX1_occurrences 19 = .ok (.if_icmp .ne 6, 3) := by decide +kernel
theorem dX1_occurrences_22 : decode cX1_occurrences 22 = .ok (.iinc 2 1, 3) := by decide +kernel
theorem dX1_occurrences_25 : decode cX1_occurrences 25 = .ok (.iinc 3 1, 3) := by decide +kernel
theorem dX1_occurrences_28 : decode cX1_occurrences 28 = .ok (.goto (-24), 3) := by decide +kernel
theorem dX1_occurrences_31 : decode cX1_occurrences 31 = .ok (.iload_n 2, 1) := by decide +kernel
theorem dX1_occurrences_32 : decode cX1_occurrences 32 = .ok (.ireturn, 1) := by decide +kernel
theorem dX1_commonest_0 : decode cX1_commonest 0 = .ok (.iconst 0, 1) := by decide +kernel
theorem dX1_commonest_1 : decode cX1_commonest 1 = .ok (.istore_n 1, 1) := by decide +kernel
theorem dX1_commonest_2 : decode cX1_commonest 2 = .ok (.iconst 0, 1) := by decide +kernel
theorem dX1_commonest_3 : decode cX1_commonest 3 = .ok (.istore_n 2, 1) := by decide +kernel
theorem dX1_commonest_4 : decode cX1_commonest 4 = .ok (.iconst 0, 1) := by decide +kernel
theorem dX1_commonest_5 : decode cX1_commonest 5 = .ok (.istore_n 3, 1) := by decide +kernel
theorem dX1_commonest_6 : decode cX1_commonest 6 = .ok (.iload_n 3, 1) := by decide +kernel
theorem dX1_commonest_7 : decode cX1_commonest 7 = .ok (.aload_n 0, 1) := by decide +kernel
theorem dX1_commonest_8 : decode cX1_commonest 8 = .ok (.getfield 22, 3) := by decide +kernel
theorem dX1_commonest_11 : decode cX1_commonest 11 = .ok (.if_icmp .ge 53, 3) := by decide +kernel
theorem dX1_commonest_14 : decode cX1_commonest 14 = .ok (.aload_n 0, 1) := by decide +kernel
theorem dX1_commonest_15 : decode cX1_commonest 15 = .ok (.aload_n 0, 1) := by decide +kernel
theorem dX1_commonest_16 : decode cX1_commonest 16 = .ok (.getfield 9, 3) := by decide +kernel
theorem dX1_commonest_19 : decode cX1_commonest 19 = .ok (.iload_n 3, 1) := by decide +kernel
theorem dX1_commonest_20 : decode cX1_commonest 20 = .ok (.iaload, 1) := by decide +kernel
theorem dX1_commonest_21 : decode cX1_commonest 21 = .ok (.invokevirtual 47, 3) := by decide +kernel
theorem dX1_commonest_24 : decode cX1_commonest 24 = .ok (.istore 4, 2) := by decide +kernel
theorem dX1_commonest_26 : decode cX1_commonest 26 = .ok (.iload 4, 2) := by decide +kernel
theorem dX1_commonest_28 : decode cX1_commonest 28 = .ok (.iload_n 1, 1) := by decide +kernel
theorem dX1_commonest_29 : decode cX1_commonest 29 = .ok (.if_icmp .gt 19, 3) := by decide +kernel
theorem dX1_commonest_32 : decode cX1_commonest 32 = .ok (.iload 4, 2) := by decide +kernel
theorem dX1_commonest_34 : decode cX1_commonest 34 = .ok (.iload_n 1, 1) := by decide +kernel
theorem dX1_commonest_35 : decode cX1_commonest 35 = .ok (.if_icmp .ne 23, 3) := by decide +kernel
theorem dX1_commonest_38 : decode cX1_commonest 38 = .ok (.aload_n 0, 1) := by decide +kernel
theorem dX1_commonest_39 : decode cX1_commonest 39 = .ok (.getfield 9, 3) := by decide +kernel
theorem dX1_commonest_42 : decode cX1_commonest 42 = .ok (.iload_n 3, 1) := by decide +kernel
theorem dX1_commonest_43 : decode cX1_commonest 43 = .ok (.iaload, 1) := by decide +kernel
theorem dX1_commonest_44 : decode cX1_commonest 44 = .ok (.iload_n 2, 1) := by decide +kernel
theorem dX1_commonest_45 : decode cX1_commonest 45 = .ok (.if_icmp .ge 13, 3) := by decide +kernel
theorem dX1_commonest_48 : decode cX1_commonest 48 = .ok (.iload 4, 2) := by decide +kernel
theorem dX1_commonest_50 : decode cX1_commonest 50 = .ok (.istore_n 1, 1) := by decide +kernel
theorem dX1_commonest_51 : decode cX1_commonest 51 = .ok (.aload_n 0, 1) := by decide +kernel
theorem dX1_commonest_52 : decode cX1_commonest 52 = .ok (.getfield 9, 3) := by decide +kernel
theorem dX1_commonest_55 : decode cX1_commonest 55 = .ok (.iload_n 3, 1) := by decide +kernel
theorem dX1_commonest_56 : decode cX1_commonest 56 = .ok (.iaload, 1) := by decide +kernel
theorem dX1_commonest_57 : decode cX1_commonest 57 = .ok (.istore_n 2, 1) := by decide +kernel
theorem dX1_commonest_58 : decode cX1_commonest 58 = .ok (.iinc 3 1, 3) := by decide +kernel
theorem dX1_commonest_61 : decode cX1_commonest 61 = .ok (.goto (-55), 3) := by decide +kernel
theorem dX1_commonest_64 : decode cX1_commonest 64 = .ok (.iload_n 1, 1) := by decide +kernel
theorem dX1_commonest_65 : decode cX1_commonest 65 = .ok (.ifCond .le 14, 3) := by decide +kernel
theorem dX1_commonest_68 : decode cX1_commonest 68 = .ok (.aload_n 0, 1) := by decide +kernel
theorem dX1_commonest_69 : decode cX1_commonest 69 = .ok (.getfield 18, 3) := by decide +kernel
theorem dX1_commonest_72 : decode cX1_commonest 72 = .ok (.iload_n 2, 1) := by decide +kernel
theorem dX1_commonest_73 : decode cX1_commonest 73 = .ok (.invokevirtual 26, 3) := by decide +kernel
theorem dX1_commonest_76 : decode cX1_commonest 76 = .ok (.goto 4, 3) := by decide +kernel
theorem dX1_commonest_79 : decode cX1_commonest 79 = .ok (.iconst (-1), 1) := by decide +kernel
theorem dX1_commonest_80 : decode cX1_commonest 80 = .ok (.ireturn, 1) := by decide +kernel
theorem dX1_runsIn_0 : decode cX1_runsIn 0 = .ok (.iconst 0, 1) := by decide +kernel
theorem dX1_runsIn_1 : decode cX1_runsIn 1 = .ok (.istore_n 2, 1) := by decide +kernel
theorem dX1_runsIn_2 : decode cX1_runsIn 2 = .ok (.iconst 0, 1) := by decide +kernel
theorem dX1_runsIn_3 : decode cX1_runsIn 3 = .ok (.istore_n 3, 1) := by decide +kernel
theorem dX1_runsIn_4 : decode cX1_runsIn 4 = .ok (.iload_n 3, 1) := by decide +kernel
theorem dX1_runsIn_5 : decode cX1_runsIn 5 = .ok (.aload_n 0, 1) := by decide +kernel
theorem dX1_runsIn_6 : decode cX1_runsIn 6 = .ok (.getfield 22, 3) := by decide +kernel
theorem dX1_runsIn_9 : decode cX1_runsIn 9 = .ok (.if_icmp .ge 41, 3) := by decide +kernel
theorem dX1_runsIn_12 : decode cX1_runsIn 12 = .ok (.iload_n 3, 1) := by decide +kernel
theorem dX1_runsIn_13 : decode cX1_runsIn 13 = .ok (.ifCond .eq 28, 3) := by decide +kernel
theorem dX1_runsIn_16 : decode cX1_runsIn 16 = .ok (.aload_n 0, 1) := by decide +kernel
theorem dX1_runsIn_17 : decode cX1_runsIn 17 = .ok (.getfield 9, 3) := by decide +kernel
theorem dX1_runsIn_20 : decode cX1_runsIn 20 = .ok (.aload_n 1, 1) := by decide +kernel
theorem dX1_runsIn_21 : decode cX1_runsIn 21 = .ok (.iload_n 3, 1) := by decide +kernel
theorem dX1_runsIn_22 : decode cX1_runsIn 22 = .ok (.invokevirtual 50, 3) := by decide +kernel
theorem dX1_runsIn_25 : decode cX1_runsIn 25 = .ok (.iaload, 1) := by decide +kernel
theorem dX1_runsIn_26 : decode cX1_runsIn 26 = .ok (.aload_n 0, 1) := by decide +kernel
theorem dX1_runsIn_27 : decode cX1_runsIn 27 = .ok (.getfield 9, 3) := by decide +kernel
theorem dX1_runsIn_30 : decode cX1_runsIn 30 = .ok (.aload_n 1, 1) := by decide +kernel
theorem dX1_runsIn_31 : decode cX1_runsIn 31 = .ok (.iload_n 3, 1) := by decide +kernel
theorem dX1_runsIn_32 : decode cX1_runsIn 32 = .ok (.iconst 1, 1) := by decide +kernel
theorem dX1_runsIn_33 : decode cX1_runsIn 33 = .ok (.isub, 1) := by decide +kernel
theorem dX1_runsIn_34 : decode cX1_runsIn 34 = .ok (.invokevirtual 50, 3) := by decide +kernel
theorem dX1_runsIn_37 : decode cX1_runsIn 37 = .ok (.iaload, 1) := by decide +kernel
theorem dX1_runsIn_38 : decode cX1_runsIn 38 = .ok (.if_icmp .eq 6, 3) := by decide +kernel
theorem dX1_runsIn_41 : decode cX1_runsIn 41 = .ok (.iinc 2 1, 3) := by decide +kernel
theorem dX1_runsIn_44 : decode cX1_runsIn 44 = .ok (.iinc 3 1, 3) := by decide +kernel
theorem dX1_runsIn_47 : decode cX1_runsIn 47 = .ok (.goto (-43), 3) := by decide +kernel
theorem dX1_runsIn_50 : decode cX1_runsIn 50 = .ok (.iload_n 2, 1) := by decide +kernel
theorem dX1_runsIn_51 : decode cX1_runsIn 51 = .ok (.ireturn, 1) := by decide +kernel
theorem dX1_greatestRun_0 : decode cX1_greatestRun 0 = .ok (.iconst 0, 1) := by decide +kernel
theorem dX1_greatestRun_1 : decode cX1_greatestRun 1 = .ok (.istore_n 1, 1) := by decide +kernel
theorem dX1_greatestRun_2 : decode cX1_greatestRun 2 = .ok (.iconst 0, 1) := by decide +kernel
theorem dX1_greatestRun_3 : decode cX1_greatestRun 3 = .ok (.istore_n 2, 1) := by decide +kernel
theorem dX1_greatestRun_4 : decode cX1_greatestRun 4 = .ok (.iconst 0, 1) := by decide +kernel
theorem dX1_greatestRun_5 : decode cX1_greatestRun 5 = .ok (.istore_n 3, 1) := by decide +kernel
theorem dX1_greatestRun_6 : decode cX1_greatestRun 6 = .ok (.iload_n 3, 1) := by decide +kernel
theorem dX1_greatestRun_7 : decode cX1_greatestRun 7 = .ok (.aload_n 0, 1) := by decide +kernel
theorem dX1_greatestRun_8 : decode cX1_greatestRun 8 = .ok (.getfield 22, 3) := by decide +kernel
theorem dX1_greatestRun_11 : decode cX1_greatestRun 11 = .ok (.if_icmp .ge 56, 3) := by decide +kernel
theorem dX1_greatestRun_14 : decode cX1_greatestRun 14 = .ok (.iload_n 3, 1) := by decide +kernel
theorem dX1_greatestRun_15 : decode cX1_greatestRun 15 = .ok (.ifCond .le 24, 3) := by decide +kernel
theorem dX1_greatestRun_18 : decode cX1_greatestRun 18 = .ok (.aload_n 0, 1) := by decide +kernel
theorem dX1_greatestRun_19 : decode cX1_greatestRun 19 = .ok (.getfield 9, 3) := by decide +kernel
theorem dX1_greatestRun_22 : decode cX1_greatestRun 22 = .ok (.iload_n 3, 1) := by decide +kernel
theorem dX1_greatestRun_23 : decode cX1_greatestRun 23 = .ok (.iaload, 1) := by decide +kernel
theorem dX1_greatestRun_24 : decode cX1_greatestRun 24 = .ok (.aload_n 0, 1) := by decide +kernel
theorem dX1_greatestRun_25 : decode cX1_greatestRun 25 = .ok (.getfield 9, 3) := by decide +kernel
theorem dX1_greatestRun_28 : decode cX1_greatestRun 28 = .ok (.iload_n 3, 1) := by decide +kernel
theorem dX1_greatestRun_29 : decode cX1_greatestRun 29 = .ok (.iconst 1, 1) := by decide +kernel
theorem dX1_greatestRun_30 : decode cX1_greatestRun 30 = .ok (.isub, 1) := by decide +kernel
theorem dX1_greatestRun_31 : decode cX1_greatestRun 31 = .ok (.iaload, 1) := by decide +kernel
theorem dX1_greatestRun_32 : decode cX1_greatestRun 32 = .ok (.if_icmp .ne 7, 3) := by decide +kernel
theorem dX1_greatestRun_35 : decode cX1_greatestRun 35 = .ok (.iconst 1, 1) := by decide +kernel
theorem dX1_greatestRun_36 : decode cX1_greatestRun 36 = .ok (.goto 4, 3) := by decide +kernel
theorem dX1_greatestRun_39 : decode cX1_greatestRun 39 = .ok (.iconst 0, 1) := by decide +kernel
theorem dX1_greatestRun_40 : decode cX1_greatestRun 40 = .ok (.istore 4, 2) := by decide +kernel
theorem dX1_greatestRun_42 : decode cX1_greatestRun 42 = .ok (.iload 4, 2) := by decide +kernel
theorem dX1_greatestRun_44 : decode cX1_greatestRun 44 = .ok (.ifCond .eq 9, 3) := by decide +kernel
theorem dX1_greatestRun_47 : decode cX1_greatestRun 47 = .ok (.iload_n 2, 1) := by decide +kernel
theorem dX1_greatestRun_48 : decode cX1_greatestRun 48 = .ok (.iconst 1, 1) := by decide +kernel
theorem dX1_greatestRun_49 : decode cX1_greatestRun 49 = .ok (.iadd, 1) := by decide +kernel
theorem dX1_greatestRun_50 : decode cX1_greatestRun 50 = .ok (.goto 4, 3) := by decide +kernel
theorem dX1_greatestRun_53 : decode cX1_greatestRun 53 = .ok (.iconst 1, 1) := by decide +kernel
theorem dX1_greatestRun_54 : decode cX1_greatestRun 54 = .ok (.istore_n 2, 1) := by decide +kernel
theorem dX1_greatestRun_55 : decode cX1_greatestRun 55 = .ok (.iload_n 1, 1) := by decide +kernel
theorem dX1_greatestRun_56 : decode cX1_greatestRun 56 = .ok (.iload_n 2, 1) := by decide +kernel
theorem dX1_greatestRun_57 : decode cX1_greatestRun 57 = .ok (.invokestatic 53, 3) := by decide +kernel
theorem dX1_greatestRun_60 : decode cX1_greatestRun 60 = .ok (.istore_n 1, 1) := by decide +kernel
theorem dX1_greatestRun_61 : decode cX1_greatestRun 61 = .ok (.iinc 3 1, 3) := by decide +kernel
theorem dX1_greatestRun_64 : decode cX1_greatestRun 64 = .ok (.goto (-58), 3) := by decide +kernel
theorem dX1_greatestRun_67 : decode cX1_greatestRun 67 = .ok (.iload_n 1, 1) := by decide +kernel
theorem dX1_greatestRun_68 : decode cX1_greatestRun 68 = .ok (.ireturn, 1) := by decide +kernel
theorem dX1_isAscending_0 : decode cX1_isAscending 0 = .ok (.iconst 1, 1) := by decide +kernel
theorem dX1_isAscending_1 : decode cX1_isAscending 1 = .ok (.istore_n 1, 1) := by decide +kernel
theorem dX1_isAscending_2 : decode cX1_isAscending 2 = .ok (.iload_n 1, 1) := by decide +kernel
theorem dX1_isAscending_3 : decode cX1_isAscending 3 = .ok (.aload_n 0, 1) := by decide +kernel
theorem dX1_isAscending_4 : decode cX1_isAscending 4 = .ok (.getfield 22, 3) := by decide +kernel
theorem dX1_isAscending_7 : decode cX1_isAscending 7 = .ok (.if_icmp .ge 28, 3) := by decide +kernel
theorem dX1_isAscending_10 : decode cX1_isAscending 10 = .ok (.aload_n 0, 1) := by decide +kernel
theorem dX1_isAscending_11 : decode cX1_isAscending 11 = .ok (.getfield 9, 3) := by decide +kernel
theorem dX1_isAscending_14 : decode cX1_isAscending 14 = .ok (.iload_n 1, 1) := by decide +kernel
theorem dX1_isAscending_15 : decode cX1_isAscending 15 = .ok (.iaload, 1) := by decide +kernel
theorem dX1_isAscending_16 : decode cX1_isAscending 16 = .ok (.aload_n 0, 1) := by decide +kernel
theorem dX1_isAscending_17 : decode cX1_isAscending 17 = .ok (.getfield 9, 3) := by decide +kernel
theorem dX1_isAscending_20 : decode cX1_isAscending 20 = .ok (.iload_n 1, 1) := by decide +kernel
theorem dX1_isAscending_21 : decode cX1_isAscending 21 = .ok (.iconst 1, 1) := by decide +kernel
theorem dX1_isAscending_22 : decode cX1_isAscending 22 = .ok (.isub, 1) := by decide +kernel
theorem dX1_isAscending_23 : decode cX1_isAscending 23 = .ok (.iaload, 1) := by decide +kernel
theorem dX1_isAscending_24 : decode cX1_isAscending 24 = .ok (.if_icmp .ge 5, 3) := by decide +kernel
theorem dX1_isAscending_27 : decode cX1_isAscending 27 = .ok (.iconst 0, 1) := by decide +kernel
theorem dX1_isAscending_28 : decode cX1_isAscending 28 = .ok (.ireturn, 1) := by decide +kernel
theorem dX1_isAscending_29 : decode cX1_isAscending 29 = .ok (.iinc 1 1, 3) := by decide +kernel
theorem dX1_isAscending_32 : decode cX1_isAscending 32 = .ok (.goto (-30), 3) := by decide +kernel
theorem dX1_isAscending_35 : decode cX1_isAscending 35 = .ok (.iconst 1, 1) := by decide +kernel
theorem dX1_isAscending_36 : decode cX1_isAscending 36 = .ok (.ireturn, 1) := by decide +kernel
theorem dX1_copyFrom_0 : decode cX1_copyFrom 0 = .ok (.aload_n 1, 1) := by decide +kernel
theorem dX1_copyFrom_1 : decode cX1_copyFrom 1 = .ok (.getfield 9, 3) := by decide +kernel
theorem dX1_copyFrom_4 : decode cX1_copyFrom 4 = .ok (.iconst 0, 1) := by decide +kernel
theorem dX1_copyFrom_5 : decode cX1_copyFrom 5 = .ok (.aload_n 0, 1) := by decide +kernel
theorem dX1_copyFrom_6 : decode cX1_copyFrom 6 = .ok (.getfield 9, 3) := by decide +kernel
theorem dX1_copyFrom_9 : decode cX1_copyFrom 9 = .ok (.iconst 0, 1) := by decide +kernel
theorem dX1_copyFrom_10 : decode cX1_copyFrom 10 = .ok (.aload_n 1, 1) := by decide +kernel
theorem dX1_copyFrom_11 : decode cX1_copyFrom 11 = .ok (.getfield 22, 3) := by decide +kernel
theorem dX1_copyFrom_14 : decode cX1_copyFrom 14 = .ok (.invokestatic 59, 3) := by decide +kernel
theorem dX1_copyFrom_17 : decode cX1_copyFrom 17 = .ok (.aload_n 0, 1) := by decide +kernel
theorem dX1_copyFrom_18 : decode cX1_copyFrom 18 = .ok (.aload_n 1, 1) := by decide +kernel
theorem dX1_copyFrom_19 : decode cX1_copyFrom 19 = .ok (.getfield 22, 3) := by decide +kernel
theorem dX1_copyFrom_22 : decode cX1_copyFrom 22 = .ok (.putfield 22, 3) := by decide +kernel
theorem dX1_copyFrom_25 : decode cX1_copyFrom 25 = .ok (.aload_n 0, 1) := by decide +kernel
theorem dX1_copyFrom_26 : decode cX1_copyFrom 26 = .ok (.getfield 18, 3) := by decide +kernel
theorem dX1_copyFrom_29 : decode cX1_copyFrom 29 = .ok (.aload_n 1, 1) := by decide +kernel
theorem dX1_copyFrom_30 : decode cX1_copyFrom 30 = .ok (.getfield 18, 3) := by decide +kernel
theorem dX1_copyFrom_33 : decode cX1_copyFrom 33 = .ok (.invokevirtual 65, 3) := by decide +kernel
theorem dX1_copyFrom_36 : decode cX1_copyFrom 36 = .ok (.return_, 1) := by decide +kernel
theorem dX2_init_0 : decode cX2_init 0 = .ok (.aload_n 0, 1) := by decide +kernel
theorem dX2_init_1 : decode cX2_init 1 = .ok (.invokespecial 3, 3) := by decide +kernel
theorem dX2_init_4 : decode cX2_init 4 = .ok (.aload_n 0, 1) := by decide +kernel
theorem dX2_init_5 : decode cX2_init 5 = .ok (.getstatic 9, 3) := by decide +kernel
theorem dX2_init_8 : decode cX2_init 8 = .ok (.putfield 15, 3) := by decide +kernel
theorem dX2_init_11 : decode cX2_init 11 = .ok (.aload_n 0, 1) := by decide +kernel
theorem dX2_init_12 : decode cX2_init 12 = .ok (.bipush 6, 2) := by decide +kernel
theorem dX2_init_14 : decode cX2_init 14 = .ok (.newarray .int, 2) := by decide +kernel
theorem dX2_init_16 : decode cX2_init 16 = .ok (.putfield 20, 3) := by decide +kernel
theorem dX2_init_19 : decode cX2_init 19 = .ok (.return_, 1) := by decide +kernel
theorem dX3_init_0 : decode cX3_init 0 = .ok (.aload_n 0, 1) := by decide +kernel
theorem dX3_init_1 : decode cX3_init 1 = .ok (.invokespecial 1, 3) := by decide +kernel
theorem dX3_init_4 : decode cX3_init 4 = .ok (.aload_n 0, 1) := by decide +kernel
theorem dX3_init_5 : decode cX3_init 5 = .ok (.bipush 16, 2) := by decide +kernel
theorem dX3_init_7 : decode cX3_init 7 = .ok (.newarray .int, 2) := by decide +kernel
theorem dX3_init_9 : decode cX3_init 9 = .ok (.putfield 9, 3) := by decide +kernel
theorem dX3_init_12 : decode cX3_init 12 = .ok (.return_, 1) := by decide +kernel
theorem dX3_widthFor_0 : decode cX3_widthFor 0 = .ok (.iconst 0, 1) := by decide +kernel
theorem dX3_widthFor_1 : decode cX3_widthFor 1 = .ok (.istore_n 1, 1) := by decide +kernel
theorem dX3_widthFor_2 : decode cX3_widthFor 2 = .ok (.iload_n 1, 1) := by decide +kernel
theorem dX3_widthFor_3 : decode cX3_widthFor 3 = .ok (.bipush 31, 2) := by decide +kernel
theorem dX3_widthFor_5 : decode cX3_widthFor 5 = .ok (.if_icmp .ge 18, 3) := by decide +kernel
theorem dX3_widthFor_8 : decode cX3_widthFor 8 = .ok (.lconst 1, 1) := by decide +kernel
theorem dX3_widthFor_9 : decode cX3_widthFor 9 = .ok (.iload_n 1, 1) := by decide +kernel
theorem dX3_widthFor_10 : decode cX3_widthFor 10 = .ok (.lshl, 1) := by decide +kernel
theorem dX3_widthFor_11 : decode cX3_widthFor 11 = .ok (.iload_n 0, 1) := by decide +kernel
theorem dX3_widthFor_12 : decode cX3_widthFor 12 = .ok (.i2l, 1) := by decide +kernel
theorem dX3_widthFor_13 : decode cX3_widthFor 13 = .ok (.lcmp, 1) := by decide +kernel
theorem dX3_widthFor_14 : decode cX3_widthFor 14 = .ok (.ifCond .ge 9, 3) := by decide +kernel
theorem dX3_widthFor_17 : decode cX3_widthFor 17 = .ok (.iinc 1 1, 3) := by decide +kernel
theorem dX3_widthFor_20 : decode cX3_widthFor 20 = .ok (.goto (-18), 3) := by decide +kernel
theorem dX3_widthFor_23 : decode cX3_widthFor 23 = .ok (.iload_n 1, 1) := by decide +kernel
theorem dX3_widthFor_24 : decode cX3_widthFor 24 = .ok (.ireturn, 1) := by decide +kernel
theorem dX3_size_0 : decode cX3_size 0 = .ok (.aload_n 0, 1) := by decide +kernel
theorem dX3_size_1 : decode cX3_size 1 = .ok (.getfield 13, 3) := by decide +kernel
theorem dX3_size_4 : decode cX3_size 4 = .ok (.ireturn, 1) := by decide +kernel
theorem dX3_width_0 : decode cX3_width 0 = .ok (.aload_n 0, 1) := by decide +kernel
theorem dX3_width_1 : decode cX3_width 1 = .ok (.getfield 13, 3) := by decide +kernel
theorem dX3_width_4 : decode cX3_width 4 = .ok (.invokestatic 17, 3) := by decide +kernel
theorem dX3_width_7 : decode cX3_width 7 = .ok (.ireturn, 1) := by decide +kernel
theorem dX3_entry_0 : decode cX3_entry 0 = .ok (.aload_n 0, 1) := by decide +kernel
theorem dX3_entry_1 : decode cX3_entry 1 = .ok (.getfield 9, 3) := by decide +kernel
theorem dX3_entry_4 : decode cX3_entry 4 = .ok (.iload_n 1, 1) := by decide +kernel
theorem dX3_entry_5 : decode cX3_entry 5 = .ok (.iaload, 1) := by decide +kernel
theorem dX3_entry_6 : decode cX3_entry 6 = .ok (.ireturn, 1) := by decide +kernel
theorem dX3_countBelow_0 : decode cX3_countBelow 0 = .ok (.iconst 0, 1) := by decide +kernel
theorem dX3_countBelow_1 : decode cX3_countBelow 1 = .ok (.istore_n 2, 1) := by decide +kernel
theorem dX3_countBelow_2 : decode cX3_countBelow 2 = .ok (.aload_n 0, 1) := by decide +kernel
theorem dX3_countBelow_3 : decode cX3_countBelow 3 = .ok (.getfield 13, 3) := by decide +kernel
theorem dX3_countBelow_6 : decode cX3_countBelow 6 = .ok (.istore_n 3, 1) := by decide +kernel
theorem dX3_countBelow_7 : decode cX3_countBelow 7 = .ok (.iload_n 2, 1) := by decide +kernel
theorem dX3_countBelow_8 : decode cX3_countBelow 8 = .ok (.iload_n 3, 1) := by decide +kernel
theorem dX3_countBelow_9 : decode cX3_countBelow 9 = .ok (.if_icmp .ge 35, 3) := by decide +kernel
theorem dX3_countBelow_12 : decode cX3_countBelow 12 = .ok (.iload_n 2, 1) := by decide +kernel
theorem dX3_countBelow_13 : decode cX3_countBelow 13 = .ok (.iload_n 3, 1) := by decide +kernel
theorem dX3_countBelow_14 : decode cX3_countBelow 14 = .ok (.iadd, 1) := by decide +kernel
theorem dX3_countBelow_15 : decode cX3_countBelow 15 = .ok (.iconst 2, 1) := by decide +kernel
theorem dX3_countBelow_16 : decode cX3_countBelow 16 = .ok (.idiv, 1) := by decide +kernel
theorem dX3_countBelow_17 : decode cX3_countBelow 17 = .ok (.istore 4, 2) := by decide +kernel
theorem dX3_countBelow_19 : decode cX3_countBelow 19 = .ok (.aload_n 0, 1) := by decide +kernel
theorem dX3_countBelow_20 : decode cX3_countBelow 20 = .ok (.getfield 9, 3) := by decide +kernel
theorem dX3_countBelow_23 : decode cX3_countBelow 23 = .ok (.iload 4, 2) := by decide +kernel
theorem dX3_countBelow_25 : decode cX3_countBelow 25 = .ok (.iaload, 1) := by decide +kernel
theorem dX3_countBelow_26 : decode cX3_countBelow 26 = .ok (.iload_n 1, 1) := by decide +kernel
theorem dX3_countBelow_27 : decode cX3_countBelow 27 = .ok (.if_icmp .ge 11, 3) := by decide +kernel
theorem dX3_countBelow_30 : decode cX3_countBelow 30 = .ok (.iload 4, 2) := by decide +kernel
theorem dX3_countBelow_32 : decode cX3_countBelow 32 = .ok (.iconst 1, 1) := by decide +kernel
theorem dX3_countBelow_33 : decode cX3_countBelow 33 = .ok (.iadd, 1) := by decide +kernel
theorem dX3_countBelow_34 : decode cX3_countBelow 34 = .ok (.istore_n 2, 1) := by decide +kernel
theorem dX3_countBelow_35 : decode cX3_countBelow 35 = .ok (.goto 6, 3) := by decide +kernel
theorem dX3_countBelow_38 : decode cX3_countBelow 38 = .ok (.iload 4, 2) := by decide +kernel
theorem dX3_countBelow_40 : decode cX3_countBelow 40 = .ok (.istore_n 3, 1) := by decide +kernel
theorem dX3_countBelow_41 : decode cX3_countBelow 41 = .ok (.goto (-34), 3) := by decide +kernel
theorem dX3_countBelow_44 : decode cX3_countBelow 44 = .ok (.iload_n 2, 1) := by decide +kernel
theorem dX3_countBelow_45 : decode cX3_countBelow 45 = .ok (.ireturn, 1) := by decide +kernel
theorem dX3_holds_0 : decode cX3_holds 0 = .ok (.aload_n 0, 1) := by decide +kernel
theorem dX3_holds_1 : decode cX3_holds 1 = .ok (.iload_n 1, 1) := by decide +kernel
theorem dX3_holds_2 : decode cX3_holds 2 = .ok (.invokevirtual 21, 3) := by decide +kernel
theorem dX3_holds_5 : decode cX3_holds 5 = .ok (.ifCond .lt 7, 3) := by decide +kernel
theorem dX3_holds_8 : decode cX3_holds 8 = .ok (.iconst 1, 1) := by decide +kernel
theorem dX3_holds_9 : decode cX3_holds 9 = .ok (.goto 4, 3) := by decide +kernel
theorem dX3_holds_12 : decode cX3_holds 12 = .ok (.iconst 0, 1) := by decide +kernel
theorem dX3_holds_13 : decode cX3_holds 13 = .ok (.ireturn, 1) := by decide +kernel
theorem dX3_find_0 : decode cX3_find 0 = .ok (.aload_n 0, 1) := by decide +kernel
theorem dX3_find_1 : decode cX3_find 1 = .ok (.iload_n 1, 1) := by decide +kernel
theorem dX3_find_2 : decode cX3_find 2 = .ok (.invokevirtual 24, 3) := by decide +kernel
theorem dX3_find_5 : decode cX3_find 5 = .ok (.istore_n 2, 1) := by decide +kernel
theorem dX3_find_6 : decode cX3_find 6 = .ok (.iload_n 2, 1) := by decide +kernel
theorem dX3_find_7 : decode cX3_find 7 = .ok (.aload_n 0, 1) := by decide +kernel
theorem dX3_find_8 : decode cX3_find 8 = .ok (.getfield 13, 3) := by decide +kernel
theorem dX3_find_11 : decode cX3_find 11 = .ok (.if_icmp .ge 17, 3) := by decide +kernel
theorem dX3_find_14 : decode cX3_find 14 = .ok (.aload_n 0, 1) := by decide +kernel
theorem dX3_find_15 : decode cX3_find 15 = .ok (.getfield 9, 3) := by decide +kernel
theorem dX3_find_18 : decode cX3_find 18 = .ok (.iload_n 2, 1) := by decide +kernel
theorem dX3_find_19 : decode cX3_find 19 = .ok (.iaload, 1) := by decide +kernel
theorem dX3_find_20 : decode cX3_find 20 = .ok (.iload_n 1, 1) := by decide +kernel
theorem dX3_find_21 : decode cX3_find 21 = .ok (.if_icmp .ne 7, 3) := by decide +kernel
theorem dX3_find_24 : decode cX3_find 24 = .ok (.iload_n 2, 1) := by decide +kernel
theorem dX3_find_25 : decode cX3_find 25 = .ok (.goto 4, 3) := by decide +kernel
theorem dX3_find_28 : decode cX3_find 28 = .ok (.iconst (-1), 1) := by decide +kernel
theorem dX3_find_29 : decode cX3_find 29 = .ok (.ireturn, 1) := by decide +kernel
theorem dX3_insert_0 : decode cX3_insert 0 = .ok (.aload_n 0, 1) := by decide +kernel
theorem dX3_insert_1 : decode cX3_insert 1 = .ok (.iload_n 1, 1) := by decide +kernel
theorem dX3_insert_2 : decode cX3_insert 2 = .ok (.invokevirtual 24, 3) := by decide +kernel
theorem dX3_insert_5 : decode cX3_insert 5 = .ok (.istore_n 2, 1) := by decide +kernel
theorem dX3_insert_6 : decode cX3_insert 6 = .ok (.iload_n 2, 1) := by decide +kernel
theorem dX3_insert_7 : decode cX3_insert 7 = .ok (.aload_n 0, 1) := by decide +kernel
theorem dX3_insert_8 : decode cX3_insert 8 = .ok (.getfield 13, 3) := by decide +kernel
theorem dX3_insert_11 : decode cX3_insert 11 = .ok (.if_icmp .ge 14, 3) := by decide +kernel
theorem dX3_insert_14 : decode cX3_insert 14 = .ok (.aload_n 0, 1) := by decide +kernel
theorem dX3_insert_15 : decode cX3_insert 15 = .ok (.getfield 9, 3) := by decide +kernel
theorem dX3_insert_18 : decode cX3_insert 18 = .ok (.iload_n 2, 1) := by decide +kernel
theorem dX3_insert_19 : decode cX3_insert 19 = .ok (.iaload, 1) := by decide +kernel
theorem dX3_insert_20 : decode cX3_insert 20 = .ok (.iload_n 1, 1) := by decide +kernel
theorem dX3_insert_21 : decode cX3_insert 21 = .ok (.if_icmp .ne 4, 3) := by decide +kernel
theorem dX3_insert_24 : decode cX3_insert 24 = .ok (.return_, 1) := by decide +kernel
theorem dX3_insert_25 : decode cX3_insert 25 = .ok (.aload_n 0, 1) := by decide +kernel
theorem dX3_insert_26 : decode cX3_insert 26 = .ok (.getfield 13, 3) := by decide +kernel
theorem dX3_insert_29 : decode cX3_insert 29 = .ok (.aload_n 0, 1) := by decide +kernel
theorem dX3_insert_30 : decode cX3_insert 30 = .ok (.getfield 9, 3) := by decide +kernel
theorem dX3_insert_33 : decode cX3_insert 33 = .ok (.arraylength, 1) := by decide +kernel
theorem dX3_insert_34 : decode cX3_insert 34 = .ok (.if_icmp .ne 20, 3) := by decide +kernel
theorem dX3_insert_37 : decode cX3_insert 37 = .ok (.aload_n 0, 1) := by decide +kernel
theorem dX3_insert_38 : decode cX3_insert 38 = .ok (.aload_n 0, 1) := by decide +kernel
theorem dX3_insert_39 : decode cX3_insert 39 = .ok (.getfield 9, 3) := by decide +kernel
theorem dX3_insert_42 : decode cX3_insert 42 = .ok (.iconst 2, 1) := by decide +kernel
theorem dX3_insert_43 : decode cX3_insert 43 = .ok (.aload_n 0, 1) := by decide +kernel
theorem dX3_insert_44 : decode cX3_insert 44 = .ok (.getfield 13, 3) := by decide +kernel
theorem dX3_insert_47 : decode cX3_insert 47 = .ok (.imul, 1) := by decide +kernel
theorem dX3_insert_48 : decode cX3_insert 48 = .ok (.invokestatic 27, 3) := by decide +kernel
theorem dX3_insert_51 : decode cX3_insert 51 = .ok (.putfield 9, 3) := by decide +kernel
theorem dX3_insert_54 : decode cX3_insert 54 = .ok (.aload_n 0, 1) := by decide +kernel
theorem dX3_insert_55 : decode cX3_insert 55 = .ok (.getfield 9, 3) := by decide +kernel
theorem dX3_insert_58 : decode cX3_insert 58 = .ok (.iload_n 2, 1) := by decide +kernel
theorem dX3_insert_59 : decode cX3_insert 59 = .ok (.aload_n 0, 1) := by decide +kernel
theorem dX3_insert_60 : decode cX3_insert 60 = .ok (.getfield 9, 3) := by decide +kernel
theorem dX3_insert_63 : decode cX3_insert 63 = .ok (.iload_n 2, 1) := by decide +kernel
theorem dX3_insert_64 : decode cX3_insert 64 = .ok (.iconst 1, 1) := by decide +kernel
theorem dX3_insert_65 : decode cX3_insert 65 = .ok (.iadd, 1) := by decide +kernel
theorem dX3_insert_66 : decode cX3_insert 66 = .ok (.aload_n 0, 1) := by decide +kernel
theorem dX3_insert_67 : decode cX3_insert 67 = .ok (.getfield 13, 3) := by decide +kernel
theorem dX3_insert_70 : decode cX3_insert 70 = .ok (.iload_n 2, 1) := by decide +kernel
theorem dX3_insert_71 : decode cX3_insert 71 = .ok (.isub, 1) := by decide +kernel
theorem dX3_insert_72 : decode cX3_insert 72 = .ok (.invokestatic 33, 3) := by decide +kernel
theorem dX3_insert_75 : decode cX3_insert 75 = .ok (.aload_n 0, 1) := by decide +kernel
theorem dX3_insert_76 : decode cX3_insert 76 = .ok (.getfield 9, 3) := by decide +kernel
theorem dX3_insert_79 : decode cX3_insert 79 = .ok (.iload_n 2, 1) := by decide +kernel
theorem dX3_insert_80 : decode cX3_insert 80 = .ok (.iload_n 1, 1) := by decide +kernel
theorem dX3_insert_81 : decode cX3_insert 81 = .ok (.iastore, 1) := by decide +kernel
theorem dX3_insert_82 : decode cX3_insert 82 = .ok (.aload_n 0, 1) := by decide +kernel
theorem dX3_insert_83 : decode cX3_insert 83 = .ok (.dup, 1) := by decide +kernel
theorem dX3_insert_84 : decode cX3_insert 84 = .ok (.getfield 13, 3) := by decide +kernel
theorem dX3_insert_87 : decode cX3_insert 87 = .ok (.iconst 1, 1) := by decide +kernel
theorem dX3_insert_88 : decode cX3_insert 88 = .ok (.iadd, 1) := by decide +kernel
theorem dX3_insert_89 : decode cX3_insert 89 = .ok (.putfield 13, 3) := by decide +kernel
theorem dX3_insert_92 : decode cX3_insert 92 = .ok (.return_, 1) := by decide +kernel
theorem dX3_clear_0 : decode cX3_clear 0 = .ok (.aload_n 0, 1) := by decide +kernel
theorem dX3_clear_1 : decode cX3_clear 1 = .ok (.iconst 0, 1) := by decide +kernel
theorem dX3_clear_2 : decode cX3_clear 2 = .ok (.putfield 13, 3) := by decide +kernel
theorem dX3_clear_5 : decode cX3_clear 5 = .ok (.return_, 1) := by decide +kernel
theorem dX3_copyFrom_0 : decode cX3_copyFrom 0 = .ok (.aload_n 0, 1) := by decide +kernel
theorem dX3_copyFrom_1 : decode cX3_copyFrom 1 = .ok (.getfield 9, 3) := by decide +kernel
theorem dX3_copyFrom_4 : decode cX3_copyFrom 4 = .ok (.arraylength, 1) := by decide +kernel
theorem dX3_copyFrom_5 : decode cX3_copyFrom 5 = .ok (.aload_n 1, 1) := by decide +kernel
theorem dX3_copyFrom_6 : decode cX3_copyFrom 6 = .ok (.getfield 13, 3) := by decide +kernel
theorem dX3_copyFrom_9 : decode cX3_copyFrom 9 = .ok (.if_icmp .ge 14, 3) := by decide +kernel
theorem dX3_copyFrom_12 : decode cX3_copyFrom 12 = .ok (.aload_n 0, 1) := by decide +kernel
theorem dX3_copyFrom_13 : decode cX3_copyFrom 13 = .ok (.aload_n 1, 1) := by decide +kernel
theorem dX3_copyFrom_14 : decode cX3_copyFrom 14 = .ok (.getfield 9, 3) := by decide +kernel
theorem dX3_copyFrom_17 : decode cX3_copyFrom 17 = .ok (.arraylength, 1) := by decide +kernel
theorem dX3_copyFrom_18 : decode cX3_copyFrom 18 = .ok (.newarray .int, 2) := by decide +kernel
theorem dX3_copyFrom_20 : decode cX3_copyFrom 20 = .ok (.putfield 9, 3) := by decide +kernel
theorem dX3_copyFrom_23 : decode cX3_copyFrom 23 = .ok (.aload_n 1, 1) := by decide +kernel
theorem dX3_copyFrom_24 : decode cX3_copyFrom 24 = .ok (.getfield 9, 3) := by decide +kernel
theorem dX3_copyFrom_27 : decode cX3_copyFrom 27 = .ok (.iconst 0, 1) := by decide +kernel
theorem dX3_copyFrom_28 : decode cX3_copyFrom 28 = .ok (.aload_n 0, 1) := by decide +kernel
theorem dX3_copyFrom_29 : decode cX3_copyFrom 29 = .ok (.getfield 9, 3) := by decide +kernel
theorem dX3_copyFrom_32 : decode cX3_copyFrom 32 = .ok (.iconst 0, 1) := by decide +kernel
theorem dX3_copyFrom_33 : decode cX3_copyFrom 33 = .ok (.aload_n 1, 1) := by decide +kernel
theorem dX3_copyFrom_34 : decode cX3_copyFrom 34 = .ok (.getfield 13, 3) := by decide +kernel
theorem dX3_copyFrom_37 : decode cX3_copyFrom 37 = .ok (.invokestatic 33, 3) := by decide +kernel
theorem dX3_copyFrom_40 : decode cX3_copyFrom 40 = .ok (.aload_n 0, 1) := by decide +kernel
theorem dX3_copyFrom_41 : decode cX3_copyFrom 41 = .ok (.aload_n 1, 1) := by decide +kernel
theorem dX3_copyFrom_42 : decode cX3_copyFrom 42 = .ok (.getfield 13, 3) := by decide +kernel
theorem dX3_copyFrom_45 : decode cX3_copyFrom 45 = .ok (.putfield 13, 3) := by decide +kernel
theorem dX3_copyFrom_48 : decode cX3_copyFrom 48 = .ok (.return_, 1) := by decide +kernel
theorem dX4_init_0 : decode cX4_init 0 = .ok (.aload_n 0, 1) := by decide +kernel
theorem dX4_init_1 : decode cX4_init 1 = .ok (.invokespecial 3, 3) := by decide +kernel
theorem dX4_init_4 : decode cX4_init 4 = .ok (.aload_n 0, 1) := by decide +kernel
theorem dX4_init_5 : decode cX4_init 5 = .ok (.bipush 8, 2) := by decide +kernel
theorem dX4_init_7 : decode cX4_init 7 = .ok (.newarray .int, 2) := by decide +kernel
theorem dX4_init_9 : decode cX4_init 9 = .ok (.putfield 9, 3) := by decide +kernel
theorem dX4_init_12 : decode cX4_init 12 = .ok (.aload_n 0, 1) := by decide +kernel
theorem dX4_init_13 : decode cX4_init 13 = .ok (.bipush 8, 2) := by decide +kernel
theorem dX4_init_15 : decode cX4_init 15 = .ok (.newarray .int, 2) := by decide +kernel
theorem dX4_init_17 : decode cX4_init 17 = .ok (.putfield 15, 3) := by decide +kernel
theorem dX4_init_20 : decode cX4_init 20 = .ok (.aload_n 0, 1) := by decide +kernel
theorem dX4_init_21 : decode cX4_init 21 = .ok (.bipush 8, 2) := by decide +kernel
theorem dX4_init_23 : decode cX4_init 23 = .ok (.newarray .int, 2) := by decide +kernel
theorem dX4_init_25 : decode cX4_init 25 = .ok (.putfield 18, 3) := by decide +kernel
theorem dX4_init_28 : decode cX4_init 28 = .ok (.return_, 1) := by decide +kernel
theorem dX4_size_0 : decode cX4_size 0 = .ok (.aload_n 0, 1) := by decide +kernel
theorem dX4_size_1 : decode cX4_size 1 = .ok (.getfield 21, 3) := by decide +kernel
theorem dX4_size_4 : decode cX4_size 4 = .ok (.ireturn, 1) := by decide +kernel
theorem dX4_isFull_0 : decode cX4_isFull 0 = .ok (.aload_n 0, 1) := by decide +kernel
theorem dX4_isFull_1 : decode cX4_isFull 1 = .ok (.getfield 21, 3) := by decide +kernel
theorem dX4_isFull_4 : decode cX4_isFull 4 = .ok (.bipush 8, 2) := by decide +kernel
theorem dX4_isFull_6 : decode cX4_isFull 6 = .ok (.if_icmp .ne 7, 3) := by decide +kernel
theorem dX4_isFull_9 : decode cX4_isFull 9 = .ok (.iconst 1, 1) := by decide +kernel
theorem dX4_isFull_10 : decode cX4_isFull 10 = .ok (.goto 4, 3) := by decide +kernel
theorem dX4_isFull_13 : decode cX4_isFull 13 = .ok (.iconst 0, 1) := by decide +kernel
theorem dX4_isFull_14 : decode cX4_isFull 14 = .ok (.ireturn, 1) := by decide +kernel
theorem dX4_has_0 : decode cX4_has 0 = .ok (.iload_n 1, 1) := by decide +kernel
theorem dX4_has_1 : decode cX4_has 1 = .ok (.ifCond .lt 15, 3) := by decide +kernel
theorem dX4_has_4 : decode cX4_has 4 = .ok (.iload_n 1, 1) := by decide +kernel
theorem dX4_has_5 : decode cX4_has 5 = .ok (.aload_n 0, 1) := by decide +kernel
theorem dX4_has_6 : decode cX4_has 6 = .ok (.getfield 21, 3) := by decide +kernel
theorem dX4_has_9 : decode cX4_has 9 = .ok (.if_icmp .ge 7, 3) := by decide +kernel
theorem dX4_has_12 : decode cX4_has 12 = .ok (.iconst 1, 1) := by decide +kernel
theorem dX4_has_13 : decode cX4_has 13 = .ok (.goto 4, 3) := by decide +kernel
theorem dX4_has_16 : decode cX4_has 16 = .ok (.iconst 0, 1) := by decide +kernel
theorem dX4_has_17 : decode cX4_has 17 = .ok (.ireturn, 1) := by decide +kernel
theorem dX4_columnOf_0 : decode cX4_columnOf 0 = .ok (.aload_n 0, 1) := by decide +kernel
theorem dX4_columnOf_1 : decode cX4_columnOf 1 = .ok (.getfield 9, 3) := by decide +kernel
theorem dX4_columnOf_4 : decode cX4_columnOf 4 = .ok (.iload_n 1, 1) := by decide +kernel
theorem dX4_columnOf_5 : decode cX4_columnOf 5 = .ok (.iaload, 1) := by decide +kernel
theorem dX4_columnOf_6 : decode cX4_columnOf 6 = .ok (.ireturn, 1) := by decide +kernel
theorem dX4_valueOf_0 : decode cX4_valueOf 0 = .ok (.aload_n 0, 1) := by decide +kernel
theorem dX4_valueOf_1 : decode cX4_valueOf 1 = .ok (.getfield 15, 3) := by decide +kernel
theorem dX4_valueOf_4 : decode cX4_valueOf 4 = .ok (.iload_n 1, 1) := by decide +kernel
theorem dX4_valueOf_5 : decode cX4_valueOf 5 = .ok (.iaload, 1) := by decide +kernel
theorem dX4_valueOf_6 : decode cX4_valueOf 6 = .ok (.ireturn, 1) := by decide +kernel
theorem dX4_directionOf_0 : decode cX4_directionOf 0 = .ok (.aload_n 0, 1) := by decide +kernel
theorem dX4_directionOf_1 : decode cX4_directionOf 1 = .ok (.getfield 18, 3) := by decide +kernel
theorem dX4_directionOf_4 : decode cX4_directionOf 4 = .ok (.iload_n 1, 1) := by decide +kernel
theorem dX4_directionOf_5 : decode cX4_directionOf 5 = .ok (.iaload, 1) := by decide +kernel
theorem dX4_directionOf_6 : decode cX4_directionOf 6 = .ok (.ireturn, 1) := by decide +kernel
theorem dX4_allows_0 : decode cX4_allows 0 = .ok (.iload_n 2, 1) := by decide +kernel
theorem dX4_allows_1 : decode cX4_allows 1 = .ok (.aload_n 0, 1) := by decide +kernel
theorem dX4_allows_2 : decode cX4_allows 2 = .ok (.getfield 15, 3) := by decide +kernel
theorem dX4_allows_5 : decode cX4_allows 5 = .ok (.iload_n 1, 1) := by decide +kernel
theorem dX4_allows_6 : decode cX4_allows 6 = .ok (.iaload, 1) := by decide +kernel
theorem dX4_allows_7 : decode cX4_allows 7 = .ok (.isub, 1) := by decide +kernel
theorem dX4_allows_8 : decode cX4_allows 8 = .ok (.invokestatic 25, 3) := by decide +kernel
theorem dX4_allows_11 : decode cX4_allows 11 = .ok (.aload_n 0, 1) := by decide +kernel
theorem dX4_allows_12 : decode cX4_allows 12 = .ok (.getfield 18, 3) := by decide +kernel
theorem dX4_allows_15 : decode cX4_allows 15 = .ok (.iload_n 1, 1) := by decide +kernel
theorem dX4_allows_16 : decode cX4_allows 16 = .ok (.iaload, 1) := by decide +kernel
theorem dX4_allows_17 : decode cX4_allows 17 = .ok (.if_icmp .ne 7, 3) := by decide +kernel
theorem dX4_allows_20 : decode cX4_allows 20 = .ok (.iconst 1, 1) := by decide +kernel
theorem dX4_allows_21 : decode cX4_allows 21 = .ok (.goto 4, 3) := by decide +kernel
theorem dX4_allows_24 : decode cX4_allows 24 = .ok (.iconst 0, 1) := by decide +kernel
theorem dX4_allows_25 : decode cX4_allows 25 = .ok (.ireturn, 1) := by decide +kernel
theorem dX4_add_0 : decode cX4_add 0 = .ok (.aload_n 0, 1) := by decide +kernel
theorem dX4_add_1 : decode cX4_add 1 = .ok (.getfield 21, 3) := by decide +kernel
theorem dX4_add_4 : decode cX4_add 4 = .ok (.bipush 8, 2) := by decide +kernel
theorem dX4_add_6 : decode cX4_add 6 = .ok (.if_icmp .ge 43, 3) := by decide +kernel
theorem dX4_add_9 : decode cX4_add 9 = .ok (.aload_n 0, 1) := by decide +kernel
theorem dX4_add_10 : decode cX4_add 10 = .ok (.getfield 9, 3) := by decide +kernel
theorem dX4_add_13 : decode cX4_add 13 = .ok (.aload_n 0, 1) := by decide +kernel
theorem dX4_add_14 : decode cX4_add 14 = .ok (.getfield 21, 3) := by decide +kernel
theorem dX4_add_17 : decode cX4_add 17 = .ok (.iload_n 1, 1) := by decide +kernel
theorem dX4_add_18 : decode cX4_add 18 = .ok (.iastore, 1) := by decide +kernel
theorem dX4_add_19 : decode cX4_add 19 = .ok (.aload_n 0, 1) := by decide +kernel
theorem dX4_add_20 : decode cX4_add 20 = .ok (.getfield 15, 3) := by decide +kernel
theorem dX4_add_23 : decode cX4_add 23 = .ok (.aload_n 0, 1) := by decide +kernel
theorem dX4_add_24 : decode cX4_add 24 = .ok (.getfield 21, 3) := by decide +kernel
theorem dX4_add_27 : decode cX4_add 27 = .ok (.iload_n 2, 1) := by decide +kernel
theorem dX4_add_28 : decode cX4_add 28 = .ok (.iastore, 1) := by decide +kernel
theorem dX4_add_29 : decode cX4_add 29 = .ok (.aload_n 0, 1) := by decide +kernel
theorem dX4_add_30 : decode cX4_add 30 = .ok (.getfield 18, 3) := by decide +kernel
theorem dX4_add_33 : decode cX4_add 33 = .ok (.aload_n 0, 1) := by decide +kernel
theorem dX4_add_34 : decode cX4_add 34 = .ok (.getfield 21, 3) := by decide +kernel
theorem dX4_add_37 : decode cX4_add 37 = .ok (.iload_n 3, 1) := by decide +kernel
theorem dX4_add_38 : decode cX4_add 38 = .ok (.iastore, 1) := by decide +kernel
theorem dX4_add_39 : decode cX4_add 39 = .ok (.aload_n 0, 1) := by decide +kernel
theorem dX4_add_40 : decode cX4_add 40 = .ok (.dup, 1) := by decide +kernel
theorem dX4_add_41 : decode cX4_add 41 = .ok (.getfield 21, 3) := by decide +kernel
theorem dX4_add_44 : decode cX4_add 44 = .ok (.iconst 1, 1) := by decide +kernel
theorem dX4_add_45 : decode cX4_add 45 = .ok (.iadd, 1) := by decide +kernel
theorem dX4_add_46 : decode cX4_add 46 = .ok (.putfield 21, 3) := by decide +kernel
theorem dX4_add_49 : decode cX4_add 49 = .ok (.return_, 1) := by decide +kernel
theorem dX4_remove_0 : decode cX4_remove 0 = .ok (.iload_n 1, 1) := by decide +kernel
theorem dX4_remove_1 : decode cX4_remove 1 = .ok (.iconst 1, 1) := by decide +kernel
theorem dX4_remove_2 : decode cX4_remove 2 = .ok (.iadd, 1) := by decide +kernel
theorem dX4_remove_3 : decode cX4_remove 3 = .ok (.istore_n 2, 1) := by decide +kernel
theorem dX4_remove_4 : decode cX4_remove 4 = .ok (.iload_n 2, 1) := by decide +kernel
theorem dX4_remove_5 : decode cX4_remove 5 = .ok (.aload_n 0, 1) := by decide +kernel
theorem dX4_remove_6 : decode cX4_remove 6 = .ok (.getfield 21, 3) := by decide +kernel
theorem dX4_remove_9 : decode cX4_remove 9 = .ok (.if_icmp .ge 51, 3) := by decide +kernel
theorem dX4_remove_12 : decode cX4_remove 12 = .ok (.aload_n 0, 1) := by decide +kernel
theorem dX4_remove_13 : decode cX4_remove 13 = .ok (.getfield 9, 3) := by decide +kernel
theorem dX4_remove_16 : decode cX4_remove 16 = .ok (.iload_n 2, 1) := by decide +kernel
theorem dX4_remove_17 : decode cX4_remove 17 = .ok (.iconst 1, 1) := by decide +kernel
theorem dX4_remove_18 : decode cX4_remove 18 = .ok (.isub, 1) := by decide +kernel
theorem dX4_remove_19 : decode cX4_remove 19 = .ok (.aload_n 0, 1) := by decide +kernel
theorem dX4_remove_20 : decode cX4_remove 20 = .ok (.getfield 9, 3) := by decide +kernel
theorem dX4_remove_23 : decode cX4_remove 23 = .ok (.iload_n 2, 1) := by decide +kernel
theorem dX4_remove_24 : decode cX4_remove 24 = .ok (.iaload, 1) := by decide +kernel
theorem dX4_remove_25 : decode cX4_remove 25 = .ok (.iastore, 1) := by decide +kernel
theorem dX4_remove_26 : decode cX4_remove 26 = .ok (.aload_n 0, 1) := by decide +kernel
theorem dX4_remove_27 : decode cX4_remove 27 = .ok (.getfield 15, 3) := by decide +kernel
theorem dX4_remove_30 : decode cX4_remove 30 = .ok (.iload_n 2, 1) := by decide +kernel
theorem dX4_remove_31 : decode cX4_remove 31 = .ok (.iconst 1, 1) := by decide +kernel
theorem dX4_remove_32 : decode cX4_remove 32 = .ok (.isub, 1) := by decide +kernel
theorem dX4_remove_33 : decode cX4_remove 33 = .ok (.aload_n 0, 1) := by decide +kernel
theorem dX4_remove_34 : decode cX4_remove 34 = .ok (.getfield 15, 3) := by decide +kernel
theorem dX4_remove_37 : decode cX4_remove 37 = .ok (.iload_n 2, 1) := by decide +kernel
theorem dX4_remove_38 : decode cX4_remove 38 = .ok (.iaload, 1) := by decide +kernel
theorem dX4_remove_39 : decode cX4_remove 39 = .ok (.iastore, 1) := by decide +kernel
theorem dX4_remove_40 : decode cX4_remove 40 = .ok (.aload_n 0, 1) := by decide +kernel
theorem dX4_remove_41 : decode cX4_remove 41 = .ok (.getfield 18, 3) := by decide +kernel
theorem dX4_remove_44 : decode cX4_remove 44 = .ok (.iload_n 2, 1) := by decide +kernel
theorem dX4_remove_45 : decode cX4_remove 45 = .ok (.iconst 1, 1) := by decide +kernel
theorem dX4_remove_46 : decode cX4_remove 46 = .ok (.isub, 1) := by decide +kernel
theorem dX4_remove_47 : decode cX4_remove 47 = .ok (.aload_n 0, 1) := by decide +kernel
theorem dX4_remove_48 : decode cX4_remove 48 = .ok (.getfield 18, 3) := by decide +kernel
theorem dX4_remove_51 : decode cX4_remove 51 = .ok (.iload_n 2, 1) := by decide +kernel
theorem dX4_remove_52 : decode cX4_remove 52 = .ok (.iaload, 1) := by decide +kernel
theorem dX4_remove_53 : decode cX4_remove 53 = .ok (.iastore, 1) := by decide +kernel
theorem dX4_remove_54 : decode cX4_remove 54 = .ok (.iinc 2 1, 3) := by decide +kernel
theorem dX4_remove_57 : decode cX4_remove 57 = .ok (.goto (-53), 3) := by decide +kernel
theorem dX4_remove_60 : decode cX4_remove 60 = .ok (.aload_n 0, 1) := by decide +kernel
theorem dX4_remove_61 : decode cX4_remove 61 = .ok (.dup, 1) := by decide +kernel
theorem dX4_remove_62 : decode cX4_remove 62 = .ok (.getfield 21, 3) := by decide +kernel
theorem dX4_remove_65 : decode cX4_remove 65 = .ok (.iconst 1, 1) := by decide +kernel
theorem dX4_remove_66 : decode cX4_remove 66 = .ok (.isub, 1) := by decide +kernel
theorem dX4_remove_67 : decode cX4_remove 67 = .ok (.putfield 21, 3) := by decide +kernel
theorem dX4_remove_70 : decode cX4_remove 70 = .ok (.return_, 1) := by decide +kernel
theorem dX4_clear_0 : decode cX4_clear 0 = .ok (.aload_n 0, 1) := by decide +kernel
theorem dX4_clear_1 : decode cX4_clear 1 = .ok (.iconst 0, 1) := by decide +kernel
theorem dX4_clear_2 : decode cX4_clear 2 = .ok (.putfield 21, 3) := by decide +kernel
theorem dX4_clear_5 : decode cX4_clear 5 = .ok (.return_, 1) := by decide +kernel
theorem dX4_copyFrom_0 : decode cX4_copyFrom 0 = .ok (.aload_n 0, 1) := by decide +kernel
theorem dX4_copyFrom_1 : decode cX4_copyFrom 1 = .ok (.aload_n 1, 1) := by decide +kernel
theorem dX4_copyFrom_2 : decode cX4_copyFrom 2 = .ok (.getfield 21, 3) := by decide +kernel
theorem dX4_copyFrom_5 : decode cX4_copyFrom 5 = .ok (.putfield 21, 3) := by decide +kernel
theorem dX4_copyFrom_8 : decode cX4_copyFrom 8 = .ok (.aload_n 1, 1) := by decide +kernel
theorem dX4_copyFrom_9 : decode cX4_copyFrom 9 = .ok (.getfield 9, 3) := by decide +kernel
theorem dX4_copyFrom_12 : decode cX4_copyFrom 12 = .ok (.iconst 0, 1) := by decide +kernel
theorem dX4_copyFrom_13 : decode cX4_copyFrom 13 = .ok (.aload_n 0, 1) := by decide +kernel
theorem dX4_copyFrom_14 : decode cX4_copyFrom 14 = .ok (.getfield 9, 3) := by decide +kernel
theorem dX4_copyFrom_17 : decode cX4_copyFrom 17 = .ok (.iconst 0, 1) := by decide +kernel
theorem dX4_copyFrom_18 : decode cX4_copyFrom 18 = .ok (.aload_n 0, 1) := by decide +kernel
theorem dX4_copyFrom_19 : decode cX4_copyFrom 19 = .ok (.getfield 21, 3) := by decide +kernel
theorem dX4_copyFrom_22 : decode cX4_copyFrom 22 = .ok (.invokestatic 31, 3) := by decide +kernel
theorem dX4_copyFrom_25 : decode cX4_copyFrom 25 = .ok (.aload_n 1, 1) := by decide +kernel
theorem dX4_copyFrom_26 : decode cX4_copyFrom 26 = .ok (.getfield 15, 3) := by decide +kernel
theorem dX4_copyFrom_29 : decode cX4_copyFrom 29 = .ok (.iconst 0, 1) := by decide +kernel
theorem dX4_copyFrom_30 : decode cX4_copyFrom 30 = .ok (.aload_n 0, 1) := by decide +kernel
theorem dX4_copyFrom_31 : decode cX4_copyFrom 31 = .ok (.getfield 15, 3) := by decide +kernel
theorem dX4_copyFrom_34 : decode cX4_copyFrom 34 = .ok (.iconst 0, 1) := by decide +kernel
theorem dX4_copyFrom_35 : decode cX4_copyFrom 35 = .ok (.aload_n 0, 1) := by decide +kernel
theorem dX4_copyFrom_36 : decode cX4_copyFrom 36 = .ok (.getfield 21, 3) := by decide +kernel
theorem dX4_copyFrom_39 : decode cX4_copyFrom 39 = .ok (.invokestatic 31, 3) := by decide +kernel
theorem dX4_copyFrom_42 : decode cX4_copyFrom 42 = .ok (.aload_n 1, 1) := by decide +kernel
theorem dX4_copyFrom_43 : decode cX4_copyFrom 43 = .ok (.getfield 18, 3) := by decide +kernel
theorem dX4_copyFrom_46 : decode cX4_copyFrom 46 = .ok (.iconst 0, 1) := by decide +kernel
theorem dX4_copyFrom_47 : decode cX4_copyFrom 47 = .ok (.aload_n 0, 1) := by decide +kernel
theorem dX4_copyFrom_48 : decode cX4_copyFrom 48 = .ok (.getfield 18, 3) := by decide +kernel
theorem dX4_copyFrom_51 : decode cX4_copyFrom 51 = .ok (.iconst 0, 1) := by decide +kernel
theorem dX4_copyFrom_52 : decode cX4_copyFrom 52 = .ok (.aload_n 0, 1) := by decide +kernel
theorem dX4_copyFrom_53 : decode cX4_copyFrom 53 = .ok (.getfield 21, 3) := by decide +kernel
theorem dX4_copyFrom_56 : decode cX4_copyFrom 56 = .ok (.invokestatic 31, 3) := by decide +kernel
theorem dX4_copyFrom_59 : decode cX4_copyFrom 59 = .ok (.return_, 1) := by decide +kernel
theorem dX5_init_0 : decode cX5_init 0 = .ok (.aload_n 0, 1) := by decide +kernel
theorem dX5_init_1 : decode cX5_init 1 = .ok (.invokespecial 3, 3) := by decide +kernel
theorem dX5_init_4 : decode cX5_init 4 = .ok (.aload_n 0, 1) := by decide +kernel
theorem dX5_init_5 : decode cX5_init 5 = .ok (.bipush 8, 2) := by decide +kernel
theorem dX5_init_7 : decode cX5_init 7 = .ok (.anewarray 9, 3) := by decide +kernel
theorem dX5_init_10 : decode cX5_init 10 = .ok (.putfield 11, 3) := by decide +kernel
theorem dX5_init_13 : decode cX5_init 13 = .ok (.iconst 0, 1) := by decide +kernel
theorem dX5_init_14 : decode cX5_init 14 = .ok (.istore_n 1, 1) := by decide +kernel
theorem dX5_init_15 : decode cX5_init 15 = .ok (.iload_n 1, 1) := by decide +kernel
theorem dX5_init_16 : decode cX5_init 16 = .ok (.bipush 8, 2) := by decide +kernel
theorem dX5_init_18 : decode cX5_init 18 = .ok (.if_icmp .ge 22, 3) := by decide +kernel
theorem dX5_init_21 : decode cX5_init 21 = .ok (.aload_n 0, 1) := by decide +kernel
theorem dX5_init_22 : decode cX5_init 22 = .ok (.getfield 11, 3) := by decide +kernel
theorem dX5_init_25 : decode cX5_init 25 = .ok (.iload_n 1, 1) := by decide +kernel
theorem dX5_init_26 : decode cX5_init 26 = .ok (.new 9, 3) := by decide +kernel
theorem dX5_init_29 : decode cX5_init 29 = .ok (.dup, 1) := by decide +kernel
theorem dX5_init_30 : decode cX5_init 30 = .ok (.invokespecial 17, 3) := by decide +kernel
theorem dX5_init_33 : decode cX5_init 33 = .ok (.aastore, 1) := by decide +kernel
theorem dX5_init_34 : decode cX5_init 34 = .ok (.iinc 1 1, 3) := by decide +kernel
theorem dX5_init_37 : decode cX5_init 37 = .ok (.goto (-22), 3) := by decide +kernel
theorem dX5_init_40 : decode cX5_init 40 = .ok (.return_, 1) := by decide +kernel
theorem dX5_size_0 : decode cX5_size 0 = .ok (.aload_n 0, 1) := by decide +kernel
theorem dX5_size_1 : decode cX5_size 1 = .ok (.getfield 18, 3) := by decide +kernel
theorem dX5_size_4 : decode cX5_size 4 = .ok (.ireturn, 1) := by decide +kernel
theorem dX5_clear_0 : decode cX5_clear 0 = .ok (.aload_n 0, 1) := by decide +kernel
theorem dX5_clear_1 : decode cX5_clear 1 = .ok (.iconst 0, 1) := by decide +kernel
theorem dX5_clear_2 : decode cX5_clear 2 = .ok (.putfield 18, 3) := by decide +kernel
theorem dX5_clear_5 : decode cX5_clear 5 = .ok (.return_, 1) := by decide +kernel
theorem dX5_record_0 : decode cX5_record 0 = .ok (.aload_n 0, 1) := by decide +kernel
theorem dX5_record_1 : decode cX5_record 1 = .ok (.getfield 11, 3) := by decide +kernel
theorem dX5_record_4 : decode cX5_record 4 = .ok (.aload_n 0, 1) := by decide +kernel
theorem dX5_record_5 : decode cX5_record 5 = .ok (.getfield 22, 3) := by decide +kernel
theorem dX5_record_8 : decode cX5_record 8 = .ok (.aaload, 1) := by decide +kernel
theorem dX5_record_9 : decode cX5_record 9 = .ok (.aload_n 1, 1) := by decide +kernel
theorem dX5_record_10 : decode cX5_record 10 = .ok (.invokevirtual 25, 3) := by decide +kernel
theorem dX5_record_13 : decode cX5_record 13 = .ok (.aload_n 0, 1) := by decide +kernel
theorem dX5_record_14 : decode cX5_record 14 = .ok (.aload_n 0, 1) := by decide +kernel
theorem dX5_record_15 : decode cX5_record 15 = .ok (.getfield 22, 3) := by decide +kernel
theorem dX5_record_18 : decode cX5_record 18 = .ok (.iconst 1, 1) := by decide +kernel
theorem dX5_record_19 : decode cX5_record 19 = .ok (.iadd, 1) := by decide +kernel
theorem dX5_record_20 : decode cX5_record 20 = .ok (.bipush 8, 2) := by decide +kernel
theorem dX5_record_22 : decode cX5_record 22 = .ok (.irem, 1) := by decide +kernel
theorem dX5_record_23 : decode cX5_record 23 = .ok (.putfield 22, 3) := by decide +kernel
theorem dX5_record_26 : decode cX5_record 26 = .ok (.aload_n 0, 1) := by decide +kernel
theorem dX5_record_27 : decode cX5_record 27 = .ok (.aload_n 0, 1) := by decide +kernel
theorem dX5_record_28 : decode cX5_record 28 = .ok (.getfield 18, 3) := by decide +kernel
theorem dX5_record_31 : decode cX5_record 31 = .ok (.iconst 1, 1) := by decide +kernel
theorem dX5_record_32 : decode cX5_record 32 = .ok (.iadd, 1) := by decide +kernel
theorem dX5_record_33 : decode cX5_record 33 = .ok (.bipush 8, 2) := by decide +kernel
theorem dX5_record_35 : decode cX5_record 35 = .ok (.invokestatic 29, 3) := by decide +kernel
theorem dX5_record_38 : decode cX5_record 38 = .ok (.putfield 18, 3) := by decide +kernel
theorem dX5_record_41 : decode cX5_record 41 = .ok (.return_, 1) := by decide +kernel
theorem dX5_takeBack_0 : decode cX5_takeBack 0 = .ok (.aload_n 0, 1) := by decide +kernel
theorem dX5_takeBack_1 : decode cX5_takeBack 1 = .ok (.aload_n 0, 1) := by decide +kernel
theorem dX5_takeBack_2 : decode cX5_takeBack 2 = .ok (.getfield 22, 3) := by decide +kernel
theorem dX5_takeBack_5 : decode cX5_takeBack 5 = .ok (.bipush 8, 2) := by decide +kernel
theorem dX5_takeBack_7 : decode cX5_takeBack 7 = .ok (.iadd, 1) := by decide +kernel
theorem dX5_takeBack_8 : decode cX5_takeBack 8 = .ok (.iconst 1, 1) := by decide +kernel
theorem dX5_takeBack_9 : decode cX5_takeBack 9 = .ok (.isub, 1) := by decide +kernel
theorem dX5_takeBack_10 : decode cX5_takeBack 10 = .ok (.bipush 8, 2) := by decide +kernel
theorem dX5_takeBack_12 : decode cX5_takeBack 12 = .ok (.irem, 1) := by decide +kernel
theorem dX5_takeBack_13 : decode cX5_takeBack 13 = .ok (.putfield 22, 3) := by decide +kernel
theorem dX5_takeBack_16 : decode cX5_takeBack 16 = .ok (.aload_n 0, 1) := by decide +kernel
theorem dX5_takeBack_17 : decode cX5_takeBack 17 = .ok (.dup, 1) := by decide +kernel
theorem dX5_takeBack_18 : decode cX5_takeBack 18 = .ok (.getfield 18, 3) := by decide +kernel
theorem dX5_takeBack_21 : decode cX5_takeBack 21 = .ok (.iconst 1, 1) := by decide +kernel
theorem dX5_takeBack_22 : decode cX5_takeBack 22 = .ok (.isub, 1) := by decide +kernel
theorem dX5_takeBack_23 : decode cX5_takeBack 23 = .ok (.putfield 18, 3) := by decide +kernel
theorem dX5_takeBack_26 : decode cX5_takeBack 26 = .ok (.aload_n 1, 1) := by decide +kernel
theorem dX5_takeBack_27 : decode cX5_takeBack 27 = .ok (.aload_n 0, 1) := by decide +kernel
theorem dX5_takeBack_28 : decode cX5_takeBack 28 = .ok (.getfield 11, 3) := by decide +kernel
theorem dX5_takeBack_31 : decode cX5_takeBack 31 = .ok (.aload_n 0, 1) := by decide +kernel
theorem dX5_takeBack_32 : decode cX5_takeBack 32 = .ok (.getfield 22, 3) := by decide +kernel
theorem dX5_takeBack_35 : decode cX5_takeBack 35 = .ok (.aaload, 1) := by decide +kernel
theorem dX5_takeBack_36 : decode cX5_takeBack 36 = .ok (.invokevirtual 25, 3) := by decide +kernel
theorem dX5_takeBack_39 : decode cX5_takeBack 39 = .ok (.return_, 1) := by decide +kernel
theorem dX6_init_0 : decode cX6_init 0 = .ok (.aload_n 0, 1) := by decide +kernel
theorem dX6_init_1 : decode cX6_init 1 = .ok (.invokespecial 3, 3) := by decide +kernel
theorem dX6_init_4 : decode cX6_init 4 = .ok (.aload_n 0, 1) := by decide +kernel
theorem dX6_init_5 : decode cX6_init 5 = .ok (.sipush 700, 3) := by decide +kernel
theorem dX6_init_8 : decode cX6_init 8 = .ok (.newarray .byte, 2) := by decide +kernel
theorem dX6_init_10 : decode cX6_init 10 = .ok (.putfield 9, 3) := by decide +kernel
theorem dX6_init_13 : decode cX6_init 13 = .ok (.return_, 1) := by decide +kernel
theorem dX6_size_0 : decode cX6_size 0 = .ok (.aload_n 0, 1) := by decide +kernel
theorem dX6_size_1 : decode cX6_size 1 = .ok (.getfield 15, 3) := by decide +kernel
theorem dX6_size_4 : decode cX6_size 4 = .ok (.ireturn, 1) := by decide +kernel
theorem dX6_append_0 : decode cX6_append 0 = .ok (.bipush 24, 2) := by decide +kernel
theorem dX6_append_2 : decode cX6_append 2 = .ok (.istore_n 2, 1) := by decide +kernel
theorem dX6_append_3 : decode cX6_append 3 = .ok (.iload_n 2, 1) := by decide +kernel
theorem dX6_append_4 : decode cX6_append 4 = .ok (.ifCond .lt 42, 3) := by decide +kernel
theorem dX6_append_7 : decode cX6_append 7 = .ok (.aload_n 0, 1) := by decide +kernel
theorem dX6_append_8 : decode cX6_append 8 = .ok (.getfield 15, 3) := by decide +kernel
theorem dX6_append_11 : decode cX6_append 11 = .ok (.sipush 700, 3) := by decide +kernel
theorem dX6_append_14 : decode cX6_append 14 = .ok (.if_icmp .ge 32, 3) := by decide +kernel
theorem dX6_append_17 : decode cX6_append 17 = .ok (.aload_n 0, 1) := by decide +kernel
theorem dX6_append_18 : decode cX6_append 18 = .ok (.getfield 9, 3) := by decide +kernel
theorem dX6_append_21 : decode cX6_append 21 = .ok (.aload_n 0, 1) := by decide +kernel
theorem dX6_append_22 : decode cX6_append 22 = .ok (.getfield 15, 3) := by decide +kernel
theorem dX6_append_25 : decode cX6_append 25 = .ok (.iload_n 1, 1) := by decide +kernel
theorem dX6_append_26 : decode cX6_append 26 = .ok (.iload_n 2, 1) := by decide +kernel
theorem dX6_append_27 : decode cX6_append 27 = .ok (.ishr, 1) := by decide +kernel
theorem dX6_append_28 : decode cX6_append 28 = .ok (.i2b, 1) := by decide +kernel
theorem dX6_append_29 : decode cX6_append 29 = .ok (.bastore, 1) := by decide +kernel
theorem dX6_append_30 : decode cX6_append 30 = .ok (.aload_n 0, 1) := by decide +kernel
theorem dX6_append_31 : decode cX6_append 31 = .ok (.dup, 1) := by decide +kernel
theorem dX6_append_32 : decode cX6_append 32 = .ok (.getfield 15, 3) := by decide +kernel
theorem dX6_append_35 : decode cX6_append 35 = .ok (.iconst 1, 1) := by decide +kernel
theorem dX6_append_36 : decode cX6_append 36 = .ok (.iadd, 1) := by decide +kernel
theorem dX6_append_37 : decode cX6_append 37 = .ok (.putfield 15, 3) := by decide +kernel
theorem dX6_append_40 : decode cX6_append 40 = .ok (.iinc 2 (-8), 3) := by decide +kernel
theorem dX6_append_43 : decode cX6_append 43 = .ok (.goto (-40), 3) := by decide +kernel
theorem dX6_append_46 : decode cX6_append 46 = .ok (.return_, 1) := by decide +kernel
theorem dX6_clear_0 : decode cX6_clear 0 = .ok (.aload_n 0, 1) := by decide +kernel
theorem dX6_clear_1 : decode cX6_clear 1 = .ok (.iconst 0, 1) := by decide +kernel
theorem dX6_clear_2 : decode cX6_clear 2 = .ok (.putfield 15, 3) := by decide +kernel
theorem dX6_clear_5 : decode cX6_clear 5 = .ok (.return_, 1) := by decide +kernel
theorem dX6_startText_0 : decode cX6_startText 0 = .ok (.aload_n 0, 1) := by decide +kernel
theorem dX6_startText_1 : decode cX6_startText 1 = .ok (.iload_n 1, 1) := by decide +kernel
theorem dX6_startText_2 : decode cX6_startText 2 = .ok (.aload_n 0, 1) := by decide +kernel
theorem dX6_startText_3 : decode cX6_startText 3 = .ok (.getfield 15, 3) := by decide +kernel
theorem dX6_startText_6 : decode cX6_startText 6 = .ok (.invokestatic 19, 3) := by decide +kernel
theorem dX6_startText_9 : decode cX6_startText 9 = .ok (.putfield 25, 3) := by decide +kernel
theorem dX6_startText_12 : decode cX6_startText 12 = .ok (.aload_n 0, 1) := by decide +kernel
theorem dX6_startText_13 : decode cX6_startText 13 = .ok (.iconst 0, 1) := by decide +kernel
theorem dX6_startText_14 : decode cX6_startText 14 = .ok (.putfield 28, 3) := by decide +kernel
theorem dX6_startText_17 : decode cX6_startText 17 = .ok (.aload_n 0, 1) := by decide +kernel
theorem dX6_startText_18 : decode cX6_startText 18 = .ok (.invokevirtual 31, 3) := by decide +kernel
theorem dX6_startText_21 : decode cX6_startText 21 = .ok (.return_, 1) := by decide +kernel
theorem dX6_next_0 : decode cX6_next 0 = .ok (.aload_n 0, 1) := by decide +kernel
theorem dX6_next_1 : decode cX6_next 1 = .ok (.getfield 28, 3) := by decide +kernel
theorem dX6_next_4 : decode cX6_next 4 = .ok (.aload_n 0, 1) := by decide +kernel
theorem dX6_next_5 : decode cX6_next 5 = .ok (.getfield 25, 3) := by decide +kernel
theorem dX6_next_8 : decode cX6_next 8 = .ok (.if_icmp .ge 28, 3) := by decide +kernel
theorem dX6_next_11 : decode cX6_next 11 = .ok (.aload_n 0, 1) := by decide +kernel
theorem dX6_next_12 : decode cX6_next 12 = .ok (.aload_n 0, 1) := by decide +kernel
theorem dX6_next_13 : decode cX6_next 13 = .ok (.getfield 28, 3) := by decide +kernel
theorem dX6_next_16 : decode cX6_next 16 = .ok (.invokevirtual 34, 3) := by decide +kernel
theorem dX6_next_19 : decode cX6_next 19 = .ok (.iconst 1, 1) := by decide +kernel
theorem dX6_next_20 : decode cX6_next 20 = .ok (.if_icmp .ne 16, 3) := by decide +kernel
theorem dX6_next_23 : decode cX6_next 23 = .ok (.aload_n 0, 1) := by decide +kernel
theorem dX6_next_24 : decode cX6_next 24 = .ok (.dup, 1) := by decide +kernel
theorem dX6_next_25 : decode cX6_next 25 = .ok (.getfield 28, 3) := by decide +kernel
theorem dX6_next_28 : decode cX6_next 28 = .ok (.iconst 1, 1) := by decide +kernel
theorem dX6_next_29 : decode cX6_next 29 = .ok (.iadd, 1) := by decide +kernel
theorem dX6_next_30 : decode cX6_next 30 = .ok (.putfield 28, 3) := by decide +kernel
theorem dX6_next_33 : decode cX6_next 33 = .ok (.goto (-33), 3) := by decide +kernel
theorem dX6_next_36 : decode cX6_next 36 = .ok (.aload_n 0, 1) := by decide +kernel
theorem dX6_next_37 : decode cX6_next 37 = .ok (.aload_n 0, 1) := by decide +kernel
theorem dX6_next_38 : decode cX6_next 38 = .ok (.getfield 28, 3) := by decide +kernel
theorem dX6_next_41 : decode cX6_next 41 = .ok (.putfield 38, 3) := by decide +kernel
theorem dX6_next_44 : decode cX6_next 44 = .ok (.aload_n 0, 1) := by decide +kernel
theorem dX6_next_45 : decode cX6_next 45 = .ok (.aload_n 0, 1) := by decide +kernel
theorem dX6_next_46 : decode cX6_next 46 = .ok (.aload_n 0, 1) := by decide +kernel
theorem dX6_next_47 : decode cX6_next 47 = .ok (.getfield 38, 3) := by decide +kernel
theorem dX6_next_50 : decode cX6_next 50 = .ok (.invokevirtual 34, 3) := by decide +kernel
theorem dX6_next_53 : decode cX6_next 53 = .ok (.putfield 41, 3) := by decide +kernel
theorem dX6_next_56 : decode cX6_next 56 = .ok (.aload_n 0, 1) := by decide +kernel
theorem dX6_next_57 : decode cX6_next 57 = .ok (.iconst 0, 1) := by decide +kernel
theorem dX6_next_58 : decode cX6_next 58 = .ok (.putfield 44, 3) := by decide +kernel
theorem dX6_next_61 : decode cX6_next 61 = .ok (.aload_n 0, 1) := by decide +kernel
theorem dX6_next_62 : decode cX6_next 62 = .ok (.getfield 41, 3) := by decide +kernel
theorem dX6_next_65 : decode cX6_next 65 = .ok (.iconst 2, 1) := by decide +kernel
theorem dX6_next_66 : decode cX6_next 66 = .ok (.if_icmp .eq 11, 3) := by decide +kernel
theorem dX6_next_69 : decode cX6_next 69 = .ok (.aload_n 0, 1) := by decide +kernel
theorem dX6_next_70 : decode cX6_next 70 = .ok (.getfield 41, 3) := by decide +kernel
theorem dX6_next_73 : decode cX6_next 73 = .ok (.iconst 3, 1) := by decide +kernel
theorem dX6_next_74 : decode cX6_next 74 = .ok (.if_icmp .ne 7, 3) := by decide +kernel
theorem dX6_next_77 : decode cX6_next 77 = .ok (.iconst 1, 1) := by decide +kernel
theorem dX6_next_78 : decode cX6_next 78 = .ok (.goto 4, 3) := by decide +kernel
theorem dX6_next_81 : decode cX6_next 81 = .ok (.iconst 0, 1) := by decide +kernel
theorem dX6_next_82 : decode cX6_next 82 = .ok (.istore_n 1, 1) := by decide +kernel
theorem dX6_next_83 : decode cX6_next 83 = .ok (.iload_n 1, 1) := by decide +kernel
theorem dX6_next_84 : decode cX6_next 84 = .ok (.ifCond .eq 10, 3) := by decide +kernel
theorem dX6_next_87 : decode cX6_next 87 = .ok (.aload_n 0, 1) := by decide +kernel
theorem dX6_next_88 : decode cX6_next 88 = .ok (.getfield 25, 3) := by decide +kernel
theorem dX6_next_91 : decode cX6_next 91 = .ok (.goto 16, 3) := by decide +kernel
theorem dX6_next_94 : decode cX6_next 94 = .ok (.aload_n 0, 1) := by decide +kernel
theorem dX6_next_95 : decode cX6_next 95 = .ok (.getfield 38, 3) := by decide +kernel
theorem dX6_next_98 : decode cX6_next 98 = .ok (.iconst 1, 1) := by decide +kernel
theorem dX6_next_99 : decode cX6_next 99 = .ok (.iadd, 1) := by decide +kernel
theorem dX6_next_100 : decode cX6_next 100 = .ok (.aload_n 0, 1) := by decide +kernel
theorem dX6_next_101 : decode cX6_next 101 = .ok (.getfield 25, 3) := by decide +kernel
theorem dX6_next_104 : decode cX6_next 104 = .ok (.invokestatic 19, 3) := by decide +kernel
theorem dX6_next_107 : decode cX6_next 107 = .ok (.istore_n 2, 1) := by decide +kernel
theorem dX6_next_108 : decode cX6_next 108 = .ok (.aload_n 0, 1) := by decide +kernel
theorem dX6_next_109 : decode cX6_next 109 = .ok (.getfield 28, 3) := by decide +kernel
theorem dX6_next_112 : decode cX6_next 112 = .ok (.iload_n 2, 1) := by decide +kernel
theorem dX6_next_113 : decode cX6_next 113 = .ok (.if_icmp .ge 72, 3) := by decide +kernel
theorem dX6_next_116 : decode cX6_next 116 = .ok (.aload_n 0, 1) := by decide +kernel
theorem dX6_next_117 : decode cX6_next 117 = .ok (.aload_n 0, 1) := by decide +kernel
theorem dX6_next_118 : decode cX6_next 118 = .ok (.getfield 28, 3) := by decide +kernel
theorem dX6_next_121 : decode cX6_next 121 = .ok (.invokevirtual 34, 3) := by decide +kernel
theorem dX6_next_124 : decode cX6_next 124 = .ok (.aload_n 0, 1) := by decide +kernel
theorem dX6_next_125 : decode cX6_next 125 = .ok (.getfield 41, 3) := by decide +kernel
theorem dX6_next_128 : decode cX6_next 128 = .ok (.if_icmp .ne 57, 3) := by decide +kernel
theorem dX6_next_131 : decode cX6_next 131 = .ok (.aload_n 0, 1) := by decide +kernel
theorem dX6_next_132 : decode cX6_next 132 = .ok (.getfield 41, 3) := by decide +kernel
theorem dX6_next_135 : decode cX6_next 135 = .ok (.iconst 3, 1) := by decide +kernel
theorem dX6_next_136 : decode cX6_next 136 = .ok (.if_icmp .ne 36, 3) := by decide +kernel
theorem dX6_next_139 : decode cX6_next 139 = .ok (.aload_n 0, 1) := by decide +kernel
theorem dX6_next_140 : decode cX6_next 140 = .ok (.getfield 44, 3) := by decide +kernel
theorem dX6_next_143 : decode cX6_next 143 = .ok (.ldc 47, 2) := by decide +kernel
theorem dX6_next_145 : decode cX6_next 145 = .ok (.if_icmp .ge 27, 3) := by decide +kernel
theorem dX6_next_148 : decode cX6_next 148 = .ok (.aload_n 0, 1) := by decide +kernel
theorem dX6_next_149 : decode cX6_next 149 = .ok (.bipush 10, 2) := by decide +kernel
theorem dX6_next_151 : decode cX6_next 151 = .ok (.aload_n 0, 1) := by decide +kernel
theorem dX6_next_152 : decode cX6_next 152 = .ok (.getfield 44, 3) := by decide +kernel
theorem dX6_next_155 : decode cX6_next 155 = .ok (.imul, 1) := by decide +kernel
theorem dX6_next_156 : decode cX6_next 156 = .ok (.aload_n 0, 1) := by decide +kernel
theorem dX6_next_157 : decode cX6_next 157 = .ok (.getfield 9, 3) := by decide +kernel
theorem dX6_next_160 : decode cX6_next 160 = .ok (.aload_n 0, 1) := by decide +kernel
theorem dX6_next_161 : decode cX6_next 161 = .ok (.getfield 28, 3) := by decide +kernel
theorem dX6_next_164 : decode cX6_next 164 = .ok (.baload, 1) := by decide +kernel
theorem dX6_next_165 : decode cX6_next 165 = .ok (.iadd, 1) := by decide +kernel
theorem dX6_next_166 : decode cX6_next 166 = .ok (.bipush 48, 2) := by decide +kernel
theorem dX6_next_168 : decode cX6_next 168 = .ok (.isub, 1) := by decide +kernel
theorem dX6_next_169 : decode cX6_next 169 = .ok (.putfield 44, 3) := by decide +kernel
theorem dX6_next_172 : decode cX6_next 172 = .ok (.aload_n 0, 1) := by decide +kernel
theorem dX6_next_173 : decode cX6_next 173 = .ok (.dup, 1) := by decide +kernel
theorem dX6_next_174 : decode cX6_next 174 = .ok (.getfield 28, 3) := by decide +kernel
theorem dX6_next_177 : decode cX6_next 177 = .ok (.iconst 1, 1) := by decide +kernel
theorem dX6_next_178 : decode cX6_next 178 = .ok (.iadd, 1) := by decide +kernel
theorem dX6_next_179 : decode cX6_next 179 = .ok (.putfield 28, 3) := by decide +kernel
theorem dX6_next_182 : decode cX6_next 182 = .ok (.goto (-74), 3) := by decide +kernel
theorem dX6_next_185 : decode cX6_next 185 = .ok (.return_, 1) := by decide +kernel
theorem dX6_kindAt_0 : decode cX6_kindAt 0 = .ok (.iload_n 1, 1) := by decide +kernel
theorem dX6_kindAt_1 : decode cX6_kindAt 1 = .ok (.aload_n 0, 1) := by decide +kernel
theorem dX6_kindAt_2 : decode cX6_kindAt 2 = .ok (.getfield 25, 3) := by decide +kernel
theorem dX6_kindAt_5 : decode cX6_kindAt 5 = .ok (.if_icmp .lt 5, 3) := by decide +kernel
theorem dX6_kindAt_8 : decode cX6_kindAt 8 = .ok (.iconst 0, 1) := by decide +kernel
theorem dX6_kindAt_9 : decode cX6_kindAt 9 = .ok (.ireturn, 1) := by decide +kernel
theorem dX6_kindAt_10 : decode cX6_kindAt 10 = .ok (.aload_n 0, 1) := by decide +kernel
theorem dX6_kindAt_11 : decode cX6_kindAt 11 = .ok (.getfield 9, 3) := by decide +kernel
theorem dX6_kindAt_14 : decode cX6_kindAt 14 = .ok (.iload_n 1, 1) := by decide +kernel
theorem dX6_kindAt_15 : decode cX6_kindAt 15 = .ok (.baload, 1) := by decide +kernel
theorem dX6_kindAt_16 : decode cX6_kindAt 16 = .ok (.istore_n 2, 1) := by decide +kernel
theorem dX6_kindAt_17 : decode cX6_kindAt 17 = .ok (.iload_n 2, 1) := by decide +kernel
theorem dX6_kindAt_18 : decode cX6_kindAt 18 = .ok (.bipush 97, 2) := by decide +kernel
theorem dX6_kindAt_20 : decode cX6_kindAt 20 = .ok (.if_icmp .lt 11, 3) := by decide +kernel
theorem dX6_kindAt_23 : decode cX6_kindAt 23 = .ok (.iload_n 2, 1) := by decide +kernel
theorem dX6_kindAt_24 : decode cX6_kindAt 24 = .ok (.bipush 122, 2) := by decide +kernel
theorem dX6_kindAt_26 : decode cX6_kindAt 26 = .ok (.if_icmp .gt 5, 3) := by decide +kernel
theorem dX6_kindAt_29 : decode cX6_kindAt 29 = .ok (.iconst 2, 1) := by decide +kernel
theorem dX6_kindAt_30 : decode cX6_kindAt 30 = .ok (.ireturn, 1) := by decide +kernel
theorem dX6_kindAt_31 : decode cX6_kindAt 31 = .ok (.iload_n 2, 1) := by decide +kernel
theorem dX6_kindAt_32 : decode cX6_kindAt 32 = .ok (.bipush 48, 2) := by decide +kernel
theorem dX6_kindAt_34 : decode cX6_kindAt 34 = .ok (.if_icmp .lt 11, 3) := by decide +kernel
theorem dX6_kindAt_37 : decode cX6_kindAt 37 = .ok (.iload_n 2, 1) := by decide +kernel
theorem dX6_kindAt_38 : decode cX6_kindAt 38 = .ok (.bipush 57, 2) := by decide +kernel
theorem dX6_kindAt_40 : decode cX6_kindAt 40 = .ok (.if_icmp .gt 5, 3) := by decide +kernel
theorem dX6_kindAt_43 : decode cX6_kindAt 43 = .ok (.iconst 3, 1) := by decide +kernel
theorem dX6_kindAt_44 : decode cX6_kindAt 44 = .ok (.ireturn, 1) := by decide +kernel
theorem dX6_kindAt_45 : decode cX6_kindAt 45 = .ok (.iload_n 2, 1) := by decide +kernel
theorem dX6_kindAt_46 : decode cX6_kindAt 46 = .ok (.lookupswitch 48 #[(10, 42), (32, 42), (45, 46), (59, 44)], 42) := by decide +kernel
theorem dX6_kindAt_88 : decode cX6_kindAt 88 = .ok (.iconst 1, 1) := by decide +kernel
theorem dX6_kindAt_89 : decode cX6_kindAt 89 = .ok (.ireturn, 1) := by decide +kernel
theorem dX6_kindAt_90 : decode cX6_kindAt 90 = .ok (.iconst 4, 1) := by decide +kernel
theorem dX6_kindAt_91 : decode cX6_kindAt 91 = .ok (.ireturn, 1) := by decide +kernel
theorem dX6_kindAt_92 : decode cX6_kindAt 92 = .ok (.iconst 5, 1) := by decide +kernel
theorem dX6_kindAt_93 : decode cX6_kindAt 93 = .ok (.ireturn, 1) := by decide +kernel
theorem dX6_kindAt_94 : decode cX6_kindAt 94 = .ok (.bipush 6, 2) := by decide +kernel
theorem dX6_kindAt_96 : decode cX6_kindAt 96 = .ok (.ireturn, 1) := by decide +kernel
theorem dX6_offset_0 : decode cX6_offset 0 = .ok (.aload_n 0, 1) := by decide +kernel
theorem dX6_offset_1 : decode cX6_offset 1 = .ok (.getfield 38, 3) := by decide +kernel
theorem dX6_offset_4 : decode cX6_offset 4 = .ok (.ireturn, 1) := by decide +kernel
theorem dX6_isAtEnd_0 : decode cX6_isAtEnd 0 = .ok (.aload_n 0, 1) := by decide +kernel
theorem dX6_isAtEnd_1 : decode cX6_isAtEnd 1 = .ok (.getfield 41, 3) := by decide +kernel
theorem dX6_isAtEnd_4 : decode cX6_isAtEnd 4 = .ok (.ifCond .ne 7, 3) := by decide +kernel
theorem dX6_isAtEnd_7 : decode cX6_isAtEnd 7 = .ok (.iconst 1, 1) := by decide +kernel
theorem dX6_isAtEnd_8 : decode cX6_isAtEnd 8 = .ok (.goto 4, 3) := by decide +kernel
theorem dX6_isAtEnd_11 : decode cX6_isAtEnd 11 = .ok (.iconst 0, 1) := by decide +kernel
theorem dX6_isAtEnd_12 : decode cX6_isAtEnd 12 = .ok (.ireturn, 1) := by decide +kernel
theorem dX6_isNumber_0 : decode cX6_isNumber 0 = .ok (.aload_n 0, 1) := by decide +kernel
theorem dX6_isNumber_1 : decode cX6_isNumber 1 = .ok (.getfield 41, 3) := by decide +kernel
theorem dX6_isNumber_4 : decode cX6_isNumber 4 = .ok (.iconst 3, 1) := by decide +kernel
theorem dX6_isNumber_5 : decode cX6_isNumber 5 = .ok (.if_icmp .ne 7, 3) := by decide +kernel
theorem dX6_isNumber_8 : decode cX6_isNumber 8 = .ok (.iconst 1, 1) := by decide +kernel
theorem dX6_isNumber_9 : decode cX6_isNumber 9 = .ok (.goto 4, 3) := by decide +kernel
theorem dX6_isNumber_12 : decode cX6_isNumber 12 = .ok (.iconst 0, 1) := by decide +kernel
theorem dX6_isNumber_13 : decode cX6_isNumber 13 = .ok (.ireturn, 1) := by decide +kernel
theorem dX6_number_0 : decode cX6_number 0 = .ok (.aload_n 0, 1) := by decide +kernel
theorem dX6_number_1 : decode cX6_number 1 = .ok (.getfield 44, 3) := by decide +kernel
theorem dX6_number_4 : decode cX6_number 4 = .ok (.ireturn, 1) := by decide +kernel
theorem dX6_isSemicolon_0 : decode cX6_isSemicolon 0 = .ok (.aload_n 0, 1) := by decide +kernel
theorem dX6_isSemicolon_1 : decode cX6_isSemicolon 1 = .ok (.getfield 41, 3) := by decide +kernel
theorem dX6_isSemicolon_4 : decode cX6_isSemicolon 4 = .ok (.iconst 4, 1) := by decide +kernel
theorem dX6_isSemicolon_5 : decode cX6_isSemicolon 5 = .ok (.if_icmp .ne 7, 3) := by decide +kernel
theorem dX6_isSemicolon_8 : decode cX6_isSemicolon 8 = .ok (.iconst 1, 1) := by decide +kernel
theorem dX6_isSemicolon_9 : decode cX6_isSemicolon 9 = .ok (.goto 4, 3) := by decide +kernel
theorem dX6_isSemicolon_12 : decode cX6_isSemicolon 12 = .ok (.iconst 0, 1) := by decide +kernel
theorem dX6_isSemicolon_13 : decode cX6_isSemicolon 13 = .ok (.ireturn, 1) := by decide +kernel
theorem dX6_isMinus_0 : decode cX6_isMinus 0 = .ok (.aload_n 0, 1) := by decide +kernel
theorem dX6_isMinus_1 : decode cX6_isMinus 1 = .ok (.getfield 41, 3) := by decide +kernel
theorem dX6_isMinus_4 : decode cX6_isMinus 4 = .ok (.iconst 5, 1) := by decide +kernel
theorem dX6_isMinus_5 : decode cX6_isMinus 5 = .ok (.if_icmp .ne 7, 3) := by decide +kernel
theorem dX6_isMinus_8 : decode cX6_isMinus 8 = .ok (.iconst 1, 1) := by decide +kernel
theorem dX6_isMinus_9 : decode cX6_isMinus 9 = .ok (.goto 4, 3) := by decide +kernel
theorem dX6_isMinus_12 : decode cX6_isMinus 12 = .ok (.iconst 0, 1) := by decide +kernel
theorem dX6_isMinus_13 : decode cX6_isMinus 13 = .ok (.ireturn, 1) := by decide +kernel
theorem dX6_isWord_0 : decode cX6_isWord 0 = .ok (.aload_n 0, 1) := by decide +kernel
theorem dX6_isWord_1 : decode cX6_isWord 1 = .ok (.getfield 41, 3) := by decide +kernel
theorem dX6_isWord_4 : decode cX6_isWord 4 = .ok (.iconst 2, 1) := by decide +kernel
theorem dX6_isWord_5 : decode cX6_isWord 5 = .ok (.if_icmp .ne 19, 3) := by decide +kernel
theorem dX6_isWord_8 : decode cX6_isWord 8 = .ok (.aload_n 0, 1) := by decide +kernel
theorem dX6_isWord_9 : decode cX6_isWord 9 = .ok (.getfield 28, 3) := by decide +kernel
theorem dX6_isWord_12 : decode cX6_isWord 12 = .ok (.aload_n 0, 1) := by decide +kernel
theorem dX6_isWord_13 : decode cX6_isWord 13 = .ok (.getfield 38, 3) := by decide +kernel
theorem dX6_isWord_16 : decode cX6_isWord 16 = .ok (.isub, 1) := by decide +kernel
theorem dX6_isWord_17 : decode cX6_isWord 17 = .ok (.aload_n 1, 1) := by decide +kernel
theorem dX6_isWord_18 : decode cX6_isWord 18 = .ok (.invokevirtual 48, 3) := by decide +kernel
theorem dX6_isWord_21 : decode cX6_isWord 21 = .ok (.if_icmp .eq 5, 3) := by decide +kernel
theorem dX6_isWord_24 : decode cX6_isWord 24 = .ok (.iconst 0, 1) := by decide +kernel
theorem dX6_isWord_25 : decode cX6_isWord 25 = .ok (.ireturn, 1) := by decide +kernel
theorem dX6_isWord_26 : decode cX6_isWord 26 = .ok (.iconst 0, 1) := by decide +kernel
theorem dX6_isWord_27 : decode cX6_isWord 27 = .ok (.istore_n 2, 1) := by decide +kernel
theorem dX6_isWord_28 : decode cX6_isWord 28 = .ok (.iload_n 2, 1) := by decide +kernel
theorem dX6_isWord_29 : decode cX6_isWord 29 = .ok (.aload_n 1, 1) := by decide +kernel
theorem dX6_isWord_30 : decode cX6_isWord 30 = .ok (.invokevirtual 48, 3) := by decide +kernel
theorem dX6_isWord_33 : decode cX6_isWord 33 = .ok (.if_icmp .ge 30, 3) := by decide +kernel
theorem dX6_isWord_36 : decode cX6_isWord 36 = .ok (.aload_n 0, 1) := by decide +kernel
theorem dX6_isWord_37 : decode cX6_isWord 37 = .ok (.getfield 9, 3) := by decide +kernel
theorem dX6_isWord_40 : decode cX6_isWord 40 = .ok (.aload_n 0, 1) := by decide +kernel
theorem dX6_isWord_41 : decode cX6_isWord 41 = .ok (.getfield 38, 3) := by decide +kernel
theorem dX6_isWord_44 : decode cX6_isWord 44 = .ok (.iload_n 2, 1) := by decide +kernel
theorem dX6_isWord_45 : decode cX6_isWord 45 = .ok (.iadd, 1) := by decide +kernel
theorem dX6_isWord_46 : decode cX6_isWord 46 = .ok (.baload, 1) := by decide +kernel
theorem dX6_isWord_47 : decode cX6_isWord 47 = .ok (.aload_n 1, 1) := by decide +kernel
theorem dX6_isWord_48 : decode cX6_isWord 48 = .ok (.iload_n 2, 1) := by decide +kernel
theorem dX6_isWord_49 : decode cX6_isWord 49 = .ok (.invokevirtual 54, 3) := by decide +kernel
theorem dX6_isWord_52 : decode cX6_isWord 52 = .ok (.if_icmp .eq 5, 3) := by decide +kernel
theorem dX6_isWord_55 : decode cX6_isWord 55 = .ok (.iconst 0, 1) := by decide +kernel
theorem dX6_isWord_56 : decode cX6_isWord 56 = .ok (.ireturn, 1) := by decide +kernel
theorem dX6_isWord_57 : decode cX6_isWord 57 = .ok (.iinc 2 1, 3) := by decide +kernel
theorem dX6_isWord_60 : decode cX6_isWord 60 = .ok (.goto (-32), 3) := by decide +kernel
theorem dX6_isWord_63 : decode cX6_isWord 63 = .ok (.iconst 1, 1) := by decide +kernel
theorem dX6_isWord_64 : decode cX6_isWord 64 = .ok (.ireturn, 1) := by decide +kernel
theorem dX8_init_0 : decode cX8_init 0 = .ok (.aload_n 0, 1) := by decide +kernel
theorem dX8_init_1 : decode cX8_init 1 = .ok (.invokespecial 3, 3) := by decide +kernel
theorem dX8_init_4 : decode cX8_init 4 = .ok (.aload_n 0, 1) := by decide +kernel
theorem dX8_init_5 : decode cX8_init 5 = .ok (.bipush 15, 2) := by decide +kernel
theorem dX8_init_7 : decode cX8_init 7 = .ok (.newarray .long, 2) := by decide +kernel
theorem dX8_init_9 : decode cX8_init 9 = .ok (.putfield 11, 3) := by decide +kernel
theorem dX8_init_12 : decode cX8_init 12 = .ok (.return_, 1) := by decide +kernel
theorem dX8_pack_0 : decode cX8_pack 0 = .ok (.aload_n 0, 1) := by decide +kernel
theorem dX8_pack_1 : decode cX8_pack 1 = .ok (.getfield 11, 3) := by decide +kernel
theorem dX8_pack_4 : decode cX8_pack 4 = .ok (.lconst 0, 1) := by decide +kernel
theorem dX8_pack_5 : decode cX8_pack 5 = .ok (.invokestatic 15, 3) := by decide +kernel
theorem dX8_pack_8 : decode cX8_pack 8 = .ok (.aload_n 0, 1) := by decide +kernel
theorem dX8_pack_9 : decode cX8_pack 9 = .ok (.aload_n 1, 1) := by decide +kernel
theorem dX8_pack_10 : decode cX8_pack 10 = .ok (.invokevirtual 21, 3) := by decide +kernel
theorem dX8_pack_13 : decode cX8_pack 13 = .ok (.invokevirtual 27, 3) := by decide +kernel
theorem dX8_pack_16 : decode cX8_pack 16 = .ok (.putfield 33, 3) := by decide +kernel
theorem dX8_pack_19 : decode cX8_pack 19 = .ok (.iconst 0, 1) := by decide +kernel
theorem dX8_pack_20 : decode cX8_pack 20 = .ok (.istore_n 2, 1) := by decide +kernel
theorem dX8_pack_21 : decode cX8_pack 21 = .ok (.iload_n 2, 1) := by decide +kernel
theorem dX8_pack_22 : decode cX8_pack 22 = .ok (.aload_n 1, 1) := by decide +kernel
theorem dX8_pack_23 : decode cX8_pack 23 = .ok (.invokevirtual 36, 3) := by decide +kernel
theorem dX8_pack_26 : decode cX8_pack 26 = .ok (.if_icmp .ge 20, 3) := by decide +kernel
theorem dX8_pack_29 : decode cX8_pack 29 = .ok (.aload_n 0, 1) := by decide +kernel
theorem dX8_pack_30 : decode cX8_pack 30 = .ok (.iload_n 2, 1) := by decide +kernel
theorem dX8_pack_31 : decode cX8_pack 31 = .ok (.aload_n 1, 1) := by decide +kernel
theorem dX8_pack_32 : decode cX8_pack 32 = .ok (.iload_n 2, 1) := by decide +kernel
theorem dX8_pack_33 : decode cX8_pack 33 = .ok (.invokevirtual 39, 3) := by decide +kernel
theorem dX8_pack_36 : decode cX8_pack 36 = .ok (.i2l, 1) := by decide +kernel
theorem dX8_pack_37 : decode cX8_pack 37 = .ok (.invokevirtual 43, 3) := by decide +kernel
theorem dX8_pack_40 : decode cX8_pack 40 = .ok (.iinc 2 1, 3) := by decide +kernel
theorem dX8_pack_43 : decode cX8_pack 43 = .ok (.goto (-22), 3) := by decide +kernel
theorem dX8_pack_46 : decode cX8_pack 46 = .ok (.return_, 1) := by decide +kernel
theorem dX8_packCode_0 : decode cX8_packCode 0 = .ok (.iload_n 1, 1) := by decide +kernel
theorem dX8_packCode_1 : decode cX8_packCode 1 = .ok (.aload_n 0, 1) := by decide +kernel
theorem dX8_packCode_2 : decode cX8_packCode 2 = .ok (.getfield 33, 3) := by decide +kernel
theorem dX8_packCode_5 : decode cX8_packCode 5 = .ok (.imul, 1) := by decide +kernel
theorem dX8_packCode_6 : decode cX8_packCode 6 = .ok (.istore 4, 2) := by decide +kernel
theorem dX8_packCode_8 : decode cX8_packCode 8 = .ok (.iload 4, 2) := by decide +kernel
theorem dX8_packCode_10 : decode cX8_packCode 10 = .ok (.bipush 64, 2) := by decide +kernel
theorem dX8_packCode_12 : decode cX8_packCode 12 = .ok (.idiv, 1) := by decide +kernel
theorem dX8_packCode_13 : decode cX8_packCode 13 = .ok (.istore 5, 2) := by decide +kernel
theorem dX8_packCode_15 : decode cX8_packCode 15 = .ok (.iload 4, 2) := by decide +kernel
theorem dX8_packCode_17 : decode cX8_packCode 17 = .ok (.bipush 64, 2) := by decide +kernel
theorem dX8_packCode_19 : decode cX8_packCode 19 = .ok (.irem, 1) := by decide +kernel
theorem dX8_packCode_20 : decode cX8_packCode 20 = .ok (.istore 6, 2) := by decide +kernel
theorem dX8_packCode_22 : decode cX8_packCode 22 = .ok (.iload 5, 2) := by decide +kernel
theorem dX8_packCode_24 : decode cX8_packCode 24 = .ok (.bipush 15, 2) := by decide +kernel
theorem dX8_packCode_26 : decode cX8_packCode 26 = .ok (.if_icmp .ge 17, 3) := by decide +kernel
theorem dX8_packCode_29 : decode cX8_packCode 29 = .ok (.aload_n 0, 1) := by decide +kernel
theorem dX8_packCode_30 : decode cX8_packCode 30 = .ok (.getfield 11, 3) := by decide +kernel
theorem dX8_packCode_33 : decode cX8_packCode 33 = .ok (.iload 5, 2) := by decide +kernel
theorem dX8_packCode_35 : decode cX8_packCode 35 = .ok (.dup2, 1) := by decide +kernel
theorem dX8_packCode_36 : decode cX8_packCode 36 = .ok (.laload, 1) := by decide +kernel
theorem dX8_packCode_37 : decode cX8_packCode 37 = .ok (.lload_n 2, 1) := by decide +kernel
theorem dX8_packCode_38 : decode cX8_packCode 38 = .ok (.iload 6, 2) := by decide +kernel
theorem dX8_packCode_40 : decode cX8_packCode 40 = .ok (.lshl, 1) := by decide +kernel
theorem dX8_packCode_41 : decode cX8_packCode 41 = .ok (.lor, 1) := by decide +kernel
theorem dX8_packCode_42 : decode cX8_packCode 42 = .ok (.lastore, 1) := by decide +kernel
theorem dX8_packCode_43 : decode cX8_packCode 43 = .ok (.iload 6, 2) := by decide +kernel
theorem dX8_packCode_45 : decode cX8_packCode 45 = .ok (.aload_n 0, 1) := by decide +kernel
theorem dX8_packCode_46 : decode cX8_packCode 46 = .ok (.getfield 33, 3) := by decide +kernel
theorem dX8_packCode_49 : decode cX8_packCode 49 = .ok (.iadd, 1) := by decide +kernel
theorem dX8_packCode_50 : decode cX8_packCode 50 = .ok (.bipush 64, 2) := by decide +kernel
theorem dX8_packCode_52 : decode cX8_packCode 52 = .ok (.if_icmp .le 31, 3) := by decide +kernel
theorem dX8_packCode_55 : decode cX8_packCode 55 = .ok (.iload 5, 2) := by decide +kernel
theorem dX8_packCode_57 : decode cX8_packCode 57 = .ok (.iconst 1, 1) := by decide +kernel
theorem dX8_packCode_58 : decode cX8_packCode 58 = .ok (.iadd, 1) := by decide +kernel
theorem dX8_packCode_59 : decode cX8_packCode 59 = .ok (.bipush 15, 2) := by decide +kernel
theorem dX8_packCode_61 : decode cX8_packCode 61 = .ok (.if_icmp .ge 22, 3) := by decide +kernel
theorem dX8_packCode_64 : decode cX8_packCode 64 = .ok (.aload_n 0, 1) := by decide +kernel
theorem dX8_packCode_65 : decode cX8_packCode 65 = .ok (.getfield 11, 3) := by decide +kernel
theorem dX8_packCode_68 : decode cX8_packCode 68 = .ok (.iload 5, 2) := by decide +kernel
theorem dX8_packCode_70 : decode cX8_packCode 70 = .ok (.iconst 1, 1) := by decide +kernel
theorem dX8_packCode_71 : decode cX8_packCode 71 = .ok (.iadd, 1) := by decide +kernel
theorem dX8_packCode_72 : decode cX8_packCode 72 = .ok (.dup2, 1) := by decide +kernel
theorem dX8_packCode_73 : decode cX8_packCode 73 = .ok (.laload, 1) := by decide +kernel
theorem dX8_packCode_74 : decode cX8_packCode 74 = .ok (.lload_n 2, 1) := by decide +kernel
theorem dX8_packCode_75 : decode cX8_packCode 75 = .ok (.bipush 64, 2) := by decide +kernel
theorem dX8_packCode_77 : decode cX8_packCode 77 = .ok (.iload 6, 2) := by decide +kernel
theorem dX8_packCode_79 : decode cX8_packCode 79 = .ok (.isub, 1) := by decide +kernel
theorem dX8_packCode_80 : decode cX8_packCode 80 = .ok (.lushr, 1) := by decide +kernel
theorem dX8_packCode_81 : decode cX8_packCode 81 = .ok (.lor, 1) := by decide +kernel
theorem dX8_packCode_82 : decode cX8_packCode 82 = .ok (.lastore, 1) := by decide +kernel
theorem dX8_packCode_83 : decode cX8_packCode 83 = .ok (.return_, 1) := by decide +kernel
theorem dX8_unpack_0 : decode cX8_unpack 0 = .ok (.iconst 0, 1) := by decide +kernel
theorem dX8_unpack_1 : decode cX8_unpack 1 = .ok (.istore_n 2, 1) := by decide +kernel
theorem dX8_unpack_2 : decode cX8_unpack 2 = .ok (.iconst 0, 1) := by decide +kernel
theorem dX8_unpack_3 : decode cX8_unpack 3 = .ok (.istore_n 3, 1) := by decide +kernel
theorem dX8_unpack_4 : decode cX8_unpack 4 = .ok (.iload_n 3, 1) := by decide +kernel
theorem dX8_unpack_5 : decode cX8_unpack 5 = .ok (.aload_n 0, 1) := by decide +kernel
theorem dX8_unpack_6 : decode cX8_unpack 6 = .ok (.getfield 33, 3) := by decide +kernel
theorem dX8_unpack_9 : decode cX8_unpack 9 = .ok (.if_icmp .ge 59, 3) := by decide +kernel
theorem dX8_unpack_12 : decode cX8_unpack 12 = .ok (.iload_n 1, 1) := by decide +kernel
theorem dX8_unpack_13 : decode cX8_unpack 13 = .ok (.aload_n 0, 1) := by decide +kernel
theorem dX8_unpack_14 : decode cX8_unpack 14 = .ok (.getfield 33, 3) := by decide +kernel
theorem dX8_unpack_17 : decode cX8_unpack 17 = .ok (.imul, 1) := by decide +kernel
theorem dX8_unpack_18 : decode cX8_unpack 18 = .ok (.iload_n 3, 1) := by decide +kernel
theorem dX8_unpack_19 : decode cX8_unpack 19 = .ok (.iadd, 1) := by decide +kernel
theorem dX8_unpack_20 : decode cX8_unpack 20 = .ok (.istore 4, 2) := by decide +kernel
theorem dX8_unpack_22 : decode cX8_unpack 22 = .ok (.iload 4, 2) := by decide +kernel
theorem dX8_unpack_24 : decode cX8_unpack 24 = .ok (.bipush 64, 2) := by decide +kernel
theorem dX8_unpack_26 : decode cX8_unpack 26 = .ok (.idiv, 1) := by decide +kernel
theorem dX8_unpack_27 : decode cX8_unpack 27 = .ok (.istore 5, 2) := by decide +kernel
theorem dX8_unpack_29 : decode cX8_unpack 29 = .ok (.iload 5, 2) := by decide +kernel
theorem dX8_unpack_31 : decode cX8_unpack 31 = .ok (.bipush 15, 2) := by decide +kernel
theorem dX8_unpack_33 : decode cX8_unpack 33 = .ok (.if_icmp .ge 29, 3) := by decide +kernel
theorem dX8_unpack_36 : decode cX8_unpack 36 = .ok (.aload_n 0, 1) := by decide +kernel
theorem dX8_unpack_37 : decode cX8_unpack 37 = .ok (.getfield 11, 3) := by decide +kernel
theorem dX8_unpack_40 : decode cX8_unpack 40 = .ok (.iload 5, 2) := by decide +kernel
theorem dX8_unpack_42 : decode cX8_unpack 42 = .ok (.laload, 1) := by decide +kernel
theorem dX8_unpack_43 : decode cX8_unpack 43 = .ok (.iload 4, 2) := by decide +kernel
theorem dX8_unpack_45 : decode cX8_unpack 45 = .ok (.bipush 64, 2) := by decide +kernel
theorem dX8_unpack_47 : decode cX8_unpack 47 = .ok (.irem, 1) := by decide +kernel
theorem dX8_unpack_48 : decode cX8_unpack 48 = .ok (.lushr, 1) := by decide +kernel
theorem dX8_unpack_49 : decode cX8_unpack 49 = .ok (.lconst 1, 1) := by decide +kernel
theorem dX8_unpack_50 : decode cX8_unpack 50 = .ok (.land, 1) := by decide +kernel
theorem dX8_unpack_51 : decode cX8_unpack 51 = .ok (.lconst 1, 1) := by decide +kernel
theorem dX8_unpack_52 : decode cX8_unpack 52 = .ok (.lcmp, 1) := by decide +kernel
theorem dX8_unpack_53 : decode cX8_unpack 53 = .ok (.ifCond .ne 9, 3) := by decide +kernel
theorem dX8_unpack_56 : decode cX8_unpack 56 = .ok (.iload_n 2, 1) := by decide +kernel
theorem dX8_unpack_57 : decode cX8_unpack 57 = .ok (.iconst 1, 1) := by decide +kernel
theorem dX8_unpack_58 : decode cX8_unpack 58 = .ok (.iload_n 3, 1) := by decide +kernel
theorem dX8_unpack_59 : decode cX8_unpack 59 = .ok (.ishl, 1) := by decide +kernel
theorem dX8_unpack_60 : decode cX8_unpack 60 = .ok (.ior, 1) := by decide +kernel
theorem dX8_unpack_61 : decode cX8_unpack 61 = .ok (.istore_n 2, 1) := by decide +kernel
theorem dX8_unpack_62 : decode cX8_unpack 62 = .ok (.iinc 3 1, 3) := by decide +kernel
theorem dX8_unpack_65 : decode cX8_unpack 65 = .ok (.goto (-61), 3) := by decide +kernel
theorem dX8_unpack_68 : decode cX8_unpack 68 = .ok (.iload_n 2, 1) := by decide +kernel
theorem dX8_unpack_69 : decode cX8_unpack 69 = .ok (.ireturn, 1) := by decide +kernel
theorem dX8_word_0 : decode cX8_word 0 = .ok (.aload_n 0, 1) := by decide +kernel
theorem dX8_word_1 : decode cX8_word 1 = .ok (.getfield 11, 3) := by decide +kernel
theorem dX8_word_4 : decode cX8_word 4 = .ok (.iload_n 1, 1) := by decide +kernel
theorem dX8_word_5 : decode cX8_word 5 = .ok (.laload, 1) := by decide +kernel
theorem dX8_word_6 : decode cX8_word 6 = .ok (.lreturn, 1) := by decide +kernel
theorem dX9_init_0 : decode cX9_init 0 = .ok (.aload_n 0, 1) := by decide +kernel
theorem dX9_init_1 : decode cX9_init 1 = .ok (.invokespecial 3, 3) := by decide +kernel
theorem dX9_init_4 : decode cX9_init 4 = .ok (.aload_n 0, 1) := by decide +kernel
theorem dX9_init_5 : decode cX9_init 5 = .ok (.iconst (-1), 1) := by decide +kernel
theorem dX9_init_6 : decode cX9_init 6 = .ok (.putfield 9, 3) := by decide +kernel
theorem dX9_init_9 : decode cX9_init 9 = .ok (.aload_n 0, 1) := by decide +kernel
theorem dX9_init_10 : decode cX9_init 10 = .ok (.sipush 360, 3) := by decide +kernel
theorem dX9_init_13 : decode cX9_init 13 = .ok (.newarray .int, 2) := by decide +kernel
theorem dX9_init_15 : decode cX9_init 15 = .ok (.putfield 15, 3) := by decide +kernel
theorem dX9_init_18 : decode cX9_init 18 = .ok (.aload_n 0, 1) := by decide +kernel
theorem dX9_init_19 : decode cX9_init 19 = .ok (.bipush 20, 2) := by decide +kernel
theorem dX9_init_21 : decode cX9_init 21 = .ok (.anewarray 19, 3) := by decide +kernel
theorem dX9_init_24 : decode cX9_init 24 = .ok (.putfield 21, 3) := by decide +kernel
theorem dX9_init_27 : decode cX9_init 27 = .ok (.aload_n 0, 1) := by decide +kernel
theorem dX9_init_28 : decode cX9_init 28 = .ok (.aload_n 1, 1) := by decide +kernel
theorem dX9_init_29 : decode cX9_init 29 = .ok (.putfield 25, 3) := by decide +kernel
theorem dX9_init_32 : decode cX9_init 32 = .ok (.iconst 0, 1) := by decide +kernel
theorem dX9_init_33 : decode cX9_init 33 = .ok (.istore_n 2, 1) := by decide +kernel
theorem dX9_init_34 : decode cX9_init 34 = .ok (.iload_n 2, 1) := by decide +kernel
theorem dX9_init_35 : decode cX9_init 35 = .ok (.bipush 20, 2) := by decide +kernel
theorem dX9_init_37 : decode cX9_init 37 = .ok (.if_icmp .ge 22, 3) := by decide +kernel
theorem dX9_init_40 : decode cX9_init 40 = .ok (.aload_n 0, 1) := by decide +kernel
theorem dX9_init_41 : decode cX9_init 41 = .ok (.getfield 21, 3) := by decide +kernel
theorem dX9_init_44 : decode cX9_init 44 = .ok (.iload_n 2, 1) := by decide +kernel
theorem dX9_init_45 : decode cX9_init 45 = .ok (.new 19, 3) := by decide +kernel
theorem dX9_init_48 : decode cX9_init 48 = .ok (.dup, 1) := by decide +kernel
theorem dX9_init_49 : decode cX9_init 49 = .ok (.invokespecial 29, 3) := by decide +kernel
theorem dX9_init_52 : decode cX9_init 52 = .ok (.aastore, 1) := by decide +kernel
theorem dX9_init_53 : decode cX9_init 53 = .ok (.iinc 2 1, 3) := by decide +kernel
theorem dX9_init_56 : decode cX9_init 56 = .ok (.goto (-22), 3) := by decide +kernel
theorem dX9_init_59 : decode cX9_init 59 = .ok (.return_, 1) := by decide +kernel
theorem dX9_columns_0 : decode cX9_columns 0 = .ok (.aload_n 0, 1) := by decide +kernel
theorem dX9_columns_1 : decode cX9_columns 1 = .ok (.getfield 33, 3) := by decide +kernel
theorem dX9_columns_4 : decode cX9_columns 4 = .ok (.ireturn, 1) := by decide +kernel
theorem dX9_rows_0 : decode cX9_rows 0 = .ok (.aload_n 0, 1) := by decide +kernel
theorem dX9_rows_1 : decode cX9_rows 1 = .ok (.getfield 36, 3) := by decide +kernel
theorem dX9_rows_4 : decode cX9_rows 4 = .ok (.ireturn, 1) := by decide +kernel
theorem dX9_cells_0 : decode cX9_cells 0 = .ok (.aload_n 0, 1) := by decide +kernel
theorem dX9_cells_1 : decode cX9_cells 1 = .ok (.getfield 15, 3) := by decide +kernel
theorem dX9_cells_4 : decode cX9_cells 4 = .ok (.areturn, 1) := by decide +kernel
theorem dX9_readTable_0 : decode cX9_readTable 0 = .ok (.aload_n 0, 1) := by decide +kernel
theorem dX9_readTable_1 : decode cX9_readTable 1 = .ok (.iload_n 1, 1) := by decide +kernel
theorem dX9_readTable_2 : decode cX9_readTable 2 = .ok (.invokevirtual 42, 3) := by decide +kernel
theorem dX9_readTable_5 : decode cX9_readTable 5 = .ok (.aload_n 0, 1) := by decide +kernel
theorem dX9_readTable_6 : decode cX9_readTable 6 = .ok (.invokevirtual 46, 3) := by decide +kernel
theorem dX9_readTable_9 : decode cX9_readTable 9 = .ok (.ifCond .ne 5, 3) := by decide +kernel
theorem dX9_readTable_12 : decode cX9_readTable 12 = .ok (.iconst 0, 1) := by decide +kernel
theorem dX9_readTable_13 : decode cX9_readTable 13 = .ok (.ireturn, 1) := by decide +kernel
theorem dX9_readTable_14 : decode cX9_readTable 14 = .ok (.iconst 0, 1) := by decide +kernel
theorem dX9_readTable_15 : decode cX9_readTable 15 = .ok (.istore_n 2, 1) := by decide +kernel
theorem dX9_readTable_16 : decode cX9_readTable 16 = .ok (.iload_n 2, 1) := by decide +kernel
theorem dX9_readTable_17 : decode cX9_readTable 17 = .ok (.bipush 60, 2) := by decide +kernel
theorem dX9_readTable_19 : decode cX9_readTable 19 = .ok (.if_icmp .gt 28, 3) := by decide +kernel
theorem dX9_readTable_22 : decode cX9_readTable 22 = .ok (.aload_n 0, 1) := by decide +kernel
theorem dX9_readTable_23 : decode cX9_readTable 23 = .ok (.getfield 25, 3) := by decide +kernel
theorem dX9_readTable_26 : decode cX9_readTable 26 = .ok (.invokevirtual 50, 3) := by decide +kernel
theorem dX9_readTable_29 : decode cX9_readTable 29 = .ok (.ifCond .ne 18, 3) := by decide +kernel
theorem dX9_readTable_32 : decode cX9_readTable 32 = .ok (.aload_n 0, 1) := by decide +kernel
theorem dX9_readTable_33 : decode cX9_readTable 33 = .ok (.invokevirtual 55, 3) := by decide +kernel
theorem dX9_readTable_36 : decode cX9_readTable 36 = .ok (.ifCond .ne 5, 3) := by decide +kernel
theorem dX9_readTable_39 : decode cX9_readTable 39 = .ok (.iconst 0, 1) := by decide +kernel
theorem dX9_readTable_40 : decode cX9_readTable 40 = .ok (.ireturn, 1) := by decide +kernel
theorem dX9_readTable_41 : decode cX9_readTable 41 = .ok (.iinc 2 1, 3) := by decide +kernel
theorem dX9_readTable_44 : decode cX9_readTable 44 = .ok (.goto (-28), 3) := by decide +kernel
theorem dX9_readTable_47 : decode cX9_readTable 47 = .ok (.iconst 1, 1) := by decide +kernel
theorem dX9_readTable_48 : decode cX9_readTable 48 = .ok (.ireturn, 1) := by decide +kernel
theorem dX9_readRow_0 : decode cX9_readRow 0 = .ok (.aload_n 0, 1) := by decide +kernel
theorem dX9_readRow_1 : decode cX9_readRow 1 = .ok (.iload_n 1, 1) := by decide +kernel
theorem dX9_readRow_2 : decode cX9_readRow 2 = .ok (.invokevirtual 42, 3) := by decide +kernel
theorem dX9_readRow_5 : decode cX9_readRow 5 = .ok (.aload_n 0, 1) := by decide +kernel
theorem dX9_readRow_6 : decode cX9_readRow 6 = .ok (.iload_n 2, 1) := by decide +kernel
theorem dX9_readRow_7 : decode cX9_readRow 7 = .ok (.putfield 33, 3) := by decide +kernel
theorem dX9_readRow_10 : decode cX9_readRow 10 = .ok (.aload_n 0, 1) := by decide +kernel
theorem dX9_readRow_11 : decode cX9_readRow 11 = .ok (.aload_n 0, 1) := by decide +kernel
theorem dX9_readRow_12 : decode cX9_readRow 12 = .ok (.getfield 15, 3) := by decide +kernel
theorem dX9_readRow_15 : decode cX9_readRow 15 = .ok (.iconst 0, 1) := by decide +kernel
theorem dX9_readRow_16 : decode cX9_readRow 16 = .ok (.invokevirtual 58, 3) := by decide +kernel
theorem dX9_readRow_19 : decode cX9_readRow 19 = .ok (.ifCond .eq 14, 3) := by decide +kernel
theorem dX9_readRow_22 : decode cX9_readRow 22 = .ok (.aload_n 0, 1) := by decide +kernel
theorem dX9_readRow_23 : decode cX9_readRow 23 = .ok (.invokevirtual 62, 3) := by decide +kernel
theorem dX9_readRow_26 : decode cX9_readRow 26 = .ok (.ifCond .eq 7, 3) := by decide +kernel
theorem dX9_readRow_29 : decode cX9_readRow 29 = .ok (.iconst 1, 1) := by decide +kernel
theorem dX9_readRow_30 : decode cX9_readRow 30 = .ok (.goto 4, 3) := by decide +kernel
theorem dX9_readRow_33 : decode cX9_readRow 33 = .ok (.iconst 0, 1) := by decide +kernel
theorem dX9_readRow_34 : decode cX9_readRow 34 = .ok (.ireturn, 1) := by decide +kernel
theorem dX9_start_0 : decode cX9_start 0 = .ok (.aload_n 0, 1) := by decide +kernel
theorem dX9_start_1 : decode cX9_start 1 = .ok (.iconst 0, 1) := by decide +kernel
theorem dX9_start_2 : decode cX9_start 2 = .ok (.putfield 30, 3) := by decide +kernel
theorem dX9_start_5 : decode cX9_start 5 = .ok (.aload_n 0, 1) := by decide +kernel
theorem dX9_start_6 : decode cX9_start 6 = .ok (.iconst (-1), 1) := by decide +kernel
theorem dX9_start_7 : decode cX9_start 7 = .ok (.putfield 9, 3) := by decide +kernel
theorem dX9_start_10 : decode cX9_start 10 = .ok (.aload_n 0, 1) := by decide +kernel
theorem dX9_start_11 : decode cX9_start 11 = .ok (.iconst 0, 1) := by decide +kernel
theorem dX9_start_12 : decode cX9_start 12 = .ok (.putfield 36, 3) := by decide +kernel
theorem dX9_start_15 : decode cX9_start 15 = .ok (.aload_n 0, 1) := by decide +kernel
theorem dX9_start_16 : decode cX9_start 16 = .ok (.iconst 0, 1) := by decide +kernel
theorem dX9_start_17 : decode cX9_start 17 = .ok (.putfield 39, 3) := by decide +kernel
theorem dX9_start_20 : decode cX9_start 20 = .ok (.aload_n 0, 1) := by decide +kernel
theorem dX9_start_21 : decode cX9_start 21 = .ok (.getfield 25, 3) := by decide +kernel
theorem dX9_start_24 : decode cX9_start 24 = .ok (.iload_n 1, 1) := by decide +kernel
theorem dX9_start_25 : decode cX9_start 25 = .ok (.invokevirtual 75, 3) := by decide +kernel
theorem dX9_start_28 : decode cX9_start 28 = .ok (.return_, 1) := by decide +kernel
theorem dX9_fail_0 : decode cX9_fail 0 = .ok (.aload_n 0, 1) := by decide +kernel
theorem dX9_fail_1 : decode cX9_fail 1 = .ok (.iload_n 1, 1) := by decide +kernel
theorem dX9_fail_2 : decode cX9_fail 2 = .ok (.putfield 30, 3) := by decide +kernel
theorem dX9_fail_5 : decode cX9_fail 5 = .ok (.aload_n 0, 1) := by decide +kernel
theorem dX9_fail_6 : decode cX9_fail 6 = .ok (.aload_n 0, 1) := by decide +kernel
theorem dX9_fail_7 : decode cX9_fail 7 = .ok (.getfield 25, 3) := by decide +kernel
theorem dX9_fail_10 : decode cX9_fail 10 = .ok (.invokevirtual 78, 3) := by decide +kernel
theorem dX9_fail_13 : decode cX9_fail 13 = .ok (.putfield 9, 3) := by decide +kernel
theorem dX9_fail_16 : decode cX9_fail 16 = .ok (.iconst 0, 1) := by decide +kernel
theorem dX9_fail_17 : decode cX9_fail 17 = .ok (.ireturn, 1) := by decide +kernel
theorem dX9_takeHead_0 : decode cX9_takeHead 0 = .ok (.aload_n 0, 1) := by decide +kernel
theorem dX9_takeHead_1 : decode cX9_takeHead 1 = .ok (.ldc 81, 2) := by decide +kernel
theorem dX9_takeHead_3 : decode cX9_takeHead 3 = .ok (.invokevirtual 83, 3) := by decide +kernel
theorem dX9_takeHead_6 : decode cX9_takeHead 6 = .ok (.ifCond .eq 13, 3) := by decide +kernel
theorem dX9_takeHead_9 : decode cX9_takeHead 9 = .ok (.aload_n 0, 1) := by decide +kernel
theorem dX9_takeHead_10 : decode cX9_takeHead 10 = .ok (.iconst 1, 1) := by decide +kernel
theorem dX9_takeHead_11 : decode cX9_takeHead 11 = .ok (.bipush 6, 2) := by decide +kernel
theorem dX9_takeHead_13 : decode cX9_takeHead 13 = .ok (.invokevirtual 87, 3) := by decide +kernel
theorem dX9_takeHead_16 : decode cX9_takeHead 16 = .ok (.ifCond .ne 5, 3) := by decide +kernel
theorem dX9_takeHead_19 : decode cX9_takeHead 19 = .ok (.iconst 0, 1) := by decide +kernel
theorem dX9_takeHead_20 : decode cX9_takeHead 20 = .ok (.ireturn, 1) := by decide +kernel
theorem dX9_takeHead_21 : decode cX9_takeHead 21 = .ok (.aload_n 0, 1) := by decide +kernel
theorem dX9_takeHead_22 : decode cX9_takeHead 22 = .ok (.aload_n 0, 1) := by decide +kernel
theorem dX9_takeHead_23 : decode cX9_takeHead 23 = .ok (.getfield 91, 3) := by decide +kernel
theorem dX9_takeHead_26 : decode cX9_takeHead 26 = .ok (.putfield 33, 3) := by decide +kernel
theorem dX9_takeHead_29 : decode cX9_takeHead 29 = .ok (.aload_n 0, 1) := by decide +kernel
theorem dX9_takeHead_30 : decode cX9_takeHead 30 = .ok (.invokevirtual 72, 3) := by decide +kernel
theorem dX9_takeHead_33 : decode cX9_takeHead 33 = .ok (.ireturn, 1) := by decide +kernel
theorem dX9_takeTableRow_0 : decode cX9_takeTableRow 0 = .ok (.aload_n 0, 1) := by decide +kernel
theorem dX9_takeTableRow_1 : decode cX9_takeTableRow 1 = .ok (.getfield 36, 3) := by decide +kernel
theorem dX9_takeTableRow_4 : decode cX9_takeTableRow 4 = .ok (.bipush 60, 2) := by decide +kernel
theorem dX9_takeTableRow_6 : decode cX9_takeTableRow 6 = .ok (.if_icmp .ne 8, 3) := by decide +kernel
theorem dX9_takeTableRow_9 : decode cX9_takeTableRow 9 = .ok (.aload_n 0, 1) := by decide +kernel
theorem dX9_takeTableRow_10 : decode cX9_takeTableRow 10 = .ok (.invokevirtual 94, 3) := by decide +kernel
theorem dX9_takeTableRow_13 : decode cX9_takeTableRow 13 = .ok (.ireturn, 1) := by decide +kernel
theorem dX9_takeTableRow_14 : decode cX9_takeTableRow 14 = .ok (.aload_n 0, 1) := by decide +kernel
theorem dX9_takeTableRow_15 : decode cX9_takeTableRow 15 = .ok (.aload_n 0, 1) := by decide +kernel
theorem dX9_takeTableRow_16 : decode cX9_takeTableRow 16 = .ok (.getfield 15, 3) := by decide +kernel
theorem dX9_takeTableRow_19 : decode cX9_takeTableRow 19 = .ok (.aload_n 0, 1) := by decide +kernel
theorem dX9_takeTableRow_20 : decode cX9_takeTableRow 20 = .ok (.getfield 36, 3) := by decide +kernel
theorem dX9_takeTableRow_23 : decode cX9_takeTableRow 23 = .ok (.aload_n 0, 1) := by decide +kernel
theorem dX9_takeTableRow_24 : decode cX9_takeTableRow 24 = .ok (.getfield 33, 3) := by decide +kernel
theorem dX9_takeTableRow_27 : decode cX9_takeTableRow 27 = .ok (.imul, 1) := by decide +kernel
theorem dX9_takeTableRow_28 : decode cX9_takeTableRow 28 = .ok (.invokevirtual 58, 3) := by decide +kernel
theorem dX9_takeTableRow_31 : decode cX9_takeTableRow 31 = .ok (.ifCond .eq 10, 3) := by decide +kernel
theorem dX9_takeTableRow_34 : decode cX9_takeTableRow 34 = .ok (.aload_n 0, 1) := by decide +kernel
theorem dX9_takeTableRow_35 : decode cX9_takeTableRow 35 = .ok (.invokevirtual 72, 3) := by decide +kernel
theorem dX9_takeTableRow_38 : decode cX9_takeTableRow 38 = .ok (.ifCond .ne 5, 3) := by decide +kernel
theorem dX9_takeTableRow_41 : decode cX9_takeTableRow 41 = .ok (.iconst 0, 1) := by decide +kernel
theorem dX9_takeTableRow_42 : decode cX9_takeTableRow 42 = .ok (.ireturn, 1) := by decide +kernel
theorem dX9_takeTableRow_43 : decode cX9_takeTableRow 43 = .ok (.aload_n 0, 1) := by decide +kernel
theorem dX9_takeTableRow_44 : decode cX9_takeTableRow 44 = .ok (.dup, 1) := by decide +kernel
theorem dX9_takeTableRow_45 : decode cX9_takeTableRow 45 = .ok (.getfield 36, 3) := by decide +kernel
theorem dX9_takeTableRow_48 : decode cX9_takeTableRow 48 = .ok (.iconst 1, 1) := by decide +kernel
theorem dX9_takeTableRow_49 : decode cX9_takeTableRow 49 = .ok (.iadd, 1) := by decide +kernel
theorem dX9_takeTableRow_50 : decode cX9_takeTableRow 50 = .ok (.putfield 36, 3) := by decide +kernel
theorem dX9_takeTableRow_53 : decode cX9_takeTableRow 53 = .ok (.iconst 1, 1) := by decide +kernel
theorem dX9_takeTableRow_54 : decode cX9_takeTableRow 54 = .ok (.ireturn, 1) := by decide +kernel
theorem dX9_failAtExtraRow_0 : decode cX9_failAtExtraRow 0 = .ok (.aload_n 0, 1) := by decide +kernel
theorem dX9_failAtExtraRow_1 : decode cX9_failAtExtraRow 1 = .ok (.getfield 25, 3) := by decide +kernel
theorem dX9_failAtExtraRow_4 : decode cX9_failAtExtraRow 4 = .ok (.invokevirtual 97, 3) := by decide +kernel
theorem dX9_failAtExtraRow_7 : decode cX9_failAtExtraRow 7 = .ok (.ifCond .eq 9, 3) := by decide +kernel
theorem dX9_failAtExtraRow_10 : decode cX9_failAtExtraRow 10 = .ok (.aload_n 0, 1) := by decide +kernel
theorem dX9_failAtExtraRow_11 : decode cX9_failAtExtraRow 11 = .ok (.iconst 3, 1) := by decide +kernel
theorem dX9_failAtExtraRow_12 : decode cX9_failAtExtraRow 12 = .ok (.invokevirtual 100, 3) := by decide +kernel
theorem dX9_failAtExtraRow_15 : decode cX9_failAtExtraRow 15 = .ok (.ireturn, 1) := by decide +kernel
theorem dX9_failAtExtraRow_16 : decode cX9_failAtExtraRow 16 = .ok (.aload_n 0, 1) := by decide +kernel
theorem dX9_failAtExtraRow_17 : decode cX9_failAtExtraRow 17 = .ok (.getfield 25, 3) := by decide +kernel
theorem dX9_failAtExtraRow_20 : decode cX9_failAtExtraRow 20 = .ok (.invokevirtual 104, 3) := by decide +kernel
theorem dX9_failAtExtraRow_23 : decode cX9_failAtExtraRow 23 = .ok (.ifCond .ne 9, 3) := by decide +kernel
theorem dX9_failAtExtraRow_26 : decode cX9_failAtExtraRow 26 = .ok (.aload_n 0, 1) := by decide +kernel
theorem dX9_failAtExtraRow_27 : decode cX9_failAtExtraRow 27 = .ok (.iconst 1, 1) := by decide +kernel
theorem dX9_failAtExtraRow_28 : decode cX9_failAtExtraRow 28 = .ok (.invokevirtual 100, 3) := by decide +kernel
theorem dX9_failAtExtraRow_31 : decode cX9_failAtExtraRow 31 = .ok (.ireturn, 1) := by decide +kernel
theorem dX9_failAtExtraRow_32 : decode cX9_failAtExtraRow 32 = .ok (.aload_n 0, 1) := by decide +kernel
theorem dX9_failAtExtraRow_33 : decode cX9_failAtExtraRow 33 = .ok (.aload_n 0, 1) := by decide +kernel
theorem dX9_failAtExtraRow_34 : decode cX9_failAtExtraRow 34 = .ok (.getfield 25, 3) := by decide +kernel
theorem dX9_failAtExtraRow_37 : decode cX9_failAtExtraRow 37 = .ok (.invokevirtual 107, 3) := by decide +kernel
theorem dX9_failAtExtraRow_40 : decode cX9_failAtExtraRow 40 = .ok (.sipush 9999, 3) := by decide +kernel
theorem dX9_failAtExtraRow_43 : decode cX9_failAtExtraRow 43 = .ok (.if_icmp .le 7, 3) := by decide +kernel
theorem dX9_failAtExtraRow_46 : decode cX9_failAtExtraRow 46 = .ok (.iconst 2, 1) := by decide +kernel
theorem dX9_failAtExtraRow_47 : decode cX9_failAtExtraRow 47 = .ok (.goto 4, 3) := by decide +kernel
theorem dX9_failAtExtraRow_50 : decode cX9_failAtExtraRow 50 = .ok (.iconst 3, 1) := by decide +kernel
theorem dX9_failAtExtraRow_51 : decode cX9_failAtExtraRow 51 = .ok (.invokevirtual 100, 3) := by decide +kernel
theorem dX9_failAtExtraRow_54 : decode cX9_failAtExtraRow 54 = .ok (.ireturn, 1) := by decide +kernel
theorem dX9_takeRow_0 : decode cX9_takeRow 0 = .ok (.iconst 0, 1) := by decide +kernel
theorem dX9_takeRow_1 : decode cX9_takeRow 1 = .ok (.istore_n 3, 1) := by decide +kernel
theorem dX9_takeRow_2 : decode cX9_takeRow 2 = .ok (.iload_n 3, 1) := by decide +kernel
theorem dX9_takeRow_3 : decode cX9_takeRow 3 = .ok (.aload_n 0, 1) := by decide +kernel
theorem dX9_takeRow_4 : decode cX9_takeRow 4 = .ok (.getfield 33, 3) := by decide +kernel
theorem dX9_takeRow_7 : decode cX9_takeRow 7 = .ok (.if_icmp .ge 27, 3) := by decide +kernel
theorem dX9_takeRow_10 : decode cX9_takeRow 10 = .ok (.aload_n 0, 1) := by decide +kernel
theorem dX9_takeRow_11 : decode cX9_takeRow 11 = .ok (.invokevirtual 109, 3) := by decide +kernel
theorem dX9_takeRow_14 : decode cX9_takeRow 14 = .ok (.ifCond .ne 5, 3) := by decide +kernel
theorem dX9_takeRow_17 : decode cX9_takeRow 17 = .ok (.iconst 0, 1) := by decide +kernel
theorem dX9_takeRow_18 : decode cX9_takeRow 18 = .ok (.ireturn, 1) := by decide +kernel
theorem dX9_takeRow_19 : decode cX9_takeRow 19 = .ok (.aload_n 1, 1) := by decide +kernel
theorem dX9_takeRow_20 : decode cX9_takeRow 20 = .ok (.iload_n 2, 1) := by decide +kernel
theorem dX9_takeRow_21 : decode cX9_takeRow 21 = .ok (.iload_n 3, 1) := by decide +kernel
theorem dX9_takeRow_22 : decode cX9_takeRow 22 = .ok (.iadd, 1) := by decide +kernel
theorem dX9_takeRow_23 : decode cX9_takeRow 23 = .ok (.aload_n 0, 1) := by decide +kernel
theorem dX9_takeRow_24 : decode cX9_takeRow 24 = .ok (.getfield 91, 3) := by decide +kernel
theorem dX9_takeRow_27 : decode cX9_takeRow 27 = .ok (.iastore, 1) := by decide +kernel
theorem dX9_takeRow_28 : decode cX9_takeRow 28 = .ok (.iinc 3 1, 3) := by decide +kernel
theorem dX9_takeRow_31 : decode cX9_takeRow 31 = .ok (.goto (-29), 3) := by decide +kernel
theorem dX9_takeRow_34 : decode cX9_takeRow 34 = .ok (.iconst 1, 1) := by decide +kernel
theorem dX9_takeRow_35 : decode cX9_takeRow 35 = .ok (.ireturn, 1) := by decide +kernel
theorem dX9_takeInteger_0 : decode cX9_takeInteger 0 = .ok (.aload_n 0, 1) := by decide +kernel
theorem dX9_takeInteger_1 : decode cX9_takeInteger 1 = .ok (.getfield 25, 3) := by decide +kernel
theorem dX9_takeInteger_4 : decode cX9_takeInteger 4 = .ok (.invokevirtual 97, 3) := by decide +kernel
theorem dX9_takeInteger_7 : decode cX9_takeInteger 7 = .ok (.istore_n 1, 1) := by decide +kernel
theorem dX9_takeInteger_8 : decode cX9_takeInteger 8 = .ok (.iload_n 1, 1) := by decide +kernel
theorem dX9_takeInteger_9 : decode cX9_takeInteger 9 = .ok (.ifCond .eq 10, 3) := by decide +kernel
theorem dX9_takeInteger_12 : decode cX9_takeInteger 12 = .ok (.aload_n 0, 1) := by decide +kernel
theorem dX9_takeInteger_13 : decode cX9_takeInteger 13 = .ok (.getfield 25, 3) := by decide +kernel
theorem dX9_takeInteger_16 : decode cX9_takeInteger 16 = .ok (.invokevirtual 120, 3) := by decide +kernel
theorem dX9_takeInteger_19 : decode cX9_takeInteger 19 = .ok (.aload_n 0, 1) := by decide +kernel
theorem dX9_takeInteger_20 : decode cX9_takeInteger 20 = .ok (.iconst 0, 1) := by decide +kernel
theorem dX9_takeInteger_21 : decode cX9_takeInteger 21 = .ok (.sipush 9999, 3) := by decide +kernel
theorem dX9_takeInteger_24 : decode cX9_takeInteger 24 = .ok (.invokevirtual 87, 3) := by decide +kernel
theorem dX9_takeInteger_27 : decode cX9_takeInteger 27 = .ok (.istore_n 2, 1) := by decide +kernel
theorem dX9_takeInteger_28 : decode cX9_takeInteger 28 = .ok (.aload_n 0, 1) := by decide +kernel
theorem dX9_takeInteger_29 : decode cX9_takeInteger 29 = .ok (.iload_n 1, 1) := by decide +kernel
theorem dX9_takeInteger_30 : decode cX9_takeInteger 30 = .ok (.ifCond .eq 11, 3) := by decide +kernel
theorem dX9_takeInteger_33 : decode cX9_takeInteger 33 = .ok (.aload_n 0, 1) := by decide +kernel
theorem dX9_takeInteger_34 : decode cX9_takeInteger 34 = .ok (.getfield 91, 3) := by decide +kernel
theorem dX9_takeInteger_37 : decode cX9_takeInteger 37 = .ok (.ineg, 1) := by decide +kernel
theorem dX9_takeInteger_38 : decode cX9_takeInteger 38 = .ok (.goto 7, 3) := by decide +kernel
theorem dX9_takeInteger_41 : decode cX9_takeInteger 41 = .ok (.aload_n 0, 1) := by decide +kernel
theorem dX9_takeInteger_42 : decode cX9_takeInteger 42 = .ok (.getfield 91, 3) := by decide +kernel
theorem dX9_takeInteger_45 : decode cX9_takeInteger 45 = .ok (.putfield 91, 3) := by decide +kernel
theorem dX9_takeInteger_48 : decode cX9_takeInteger 48 = .ok (.iload_n 2, 1) := by decide +kernel
theorem dX9_takeInteger_49 : decode cX9_takeInteger 49 = .ok (.ireturn, 1) := by decide +kernel
theorem dX9_takeNumber_0 : decode cX9_takeNumber 0 = .ok (.aload_n 0, 1) := by decide +kernel
theorem dX9_takeNumber_1 : decode cX9_takeNumber 1 = .ok (.getfield 25, 3) := by decide +kernel
theorem dX9_takeNumber_4 : decode cX9_takeNumber 4 = .ok (.invokevirtual 104, 3) := by decide +kernel
theorem dX9_takeNumber_7 : decode cX9_takeNumber 7 = .ok (.ifCond .ne 9, 3) := by decide +kernel
theorem dX9_takeNumber_10 : decode cX9_takeNumber 10 = .ok (.aload_n 0, 1) := by decide +kernel
theorem dX9_takeNumber_11 : decode cX9_takeNumber 11 = .ok (.iconst 1, 1) := by decide +kernel
theorem dX9_takeNumber_12 : decode cX9_takeNumber 12 = .ok (.invokevirtual 100, 3) := by decide +kernel
theorem dX9_takeNumber_15 : decode cX9_takeNumber 15 = .ok (.ireturn, 1) := by decide +kernel
theorem dX9_takeNumber_16 : decode cX9_takeNumber 16 = .ok (.aload_n 0, 1) := by decide +kernel
theorem dX9_takeNumber_17 : decode cX9_takeNumber 17 = .ok (.getfield 25, 3) := by decide +kernel
theorem dX9_takeNumber_20 : decode cX9_takeNumber 20 = .ok (.invokevirtual 107, 3) := by decide +kernel
theorem dX9_takeNumber_23 : decode cX9_takeNumber 23 = .ok (.iload_n 1, 1) := by decide +kernel
theorem dX9_takeNumber_24 : decode cX9_takeNumber 24 = .ok (.if_icmp .lt 14, 3) := by decide +kernel
theorem dX9_takeNumber_27 : decode cX9_takeNumber 27 = .ok (.aload_n 0, 1) := by decide +kernel
theorem dX9_takeNumber_28 : decode cX9_takeNumber 28 = .ok (.getfield 25, 3) := by decide +kernel
theorem dX9_takeNumber_31 : decode cX9_takeNumber 31 = .ok (.invokevirtual 107, 3) := by decide +kernel
theorem dX9_takeNumber_34 : decode cX9_takeNumber 34 = .ok (.iload_n 2, 1) := by decide +kernel
theorem dX9_takeNumber_35 : decode cX9_takeNumber 35 = .ok (.if_icmp .le 9, 3) := by decide +kernel
theorem dX9_takeNumber_38 : decode cX9_takeNumber 38 = .ok (.aload_n 0, 1) := by decide +kernel
theorem dX9_takeNumber_39 : decode cX9_takeNumber 39 = .ok (.iconst 2, 1) := by decide +kernel
theorem dX9_takeNumber_40 : decode cX9_takeNumber 40 = .ok (.invokevirtual 100, 3) := by decide +kernel
theorem dX9_takeNumber_43 : decode cX9_takeNumber 43 = .ok (.ireturn, 1) := by decide +kernel
theorem dX9_takeNumber_44 : decode cX9_takeNumber 44 = .ok (.aload_n 0, 1) := by decide +kernel
theorem dX9_takeNumber_45 : decode cX9_takeNumber 45 = .ok (.aload_n 0, 1) := by decide +kernel
theorem dX9_takeNumber_46 : decode cX9_takeNumber 46 = .ok (.getfield 25, 3) := by decide +kernel
theorem dX9_takeNumber_49 : decode cX9_takeNumber 49 = .ok (.invokevirtual 107, 3) := by decide +kernel
theorem dX9_takeNumber_52 : decode cX9_takeNumber 52 = .ok (.putfield 91, 3) := by decide +kernel
theorem dX9_takeNumber_55 : decode cX9_takeNumber 55 = .ok (.aload_n 0, 1) := by decide +kernel
theorem dX9_takeNumber_56 : decode cX9_takeNumber 56 = .ok (.getfield 25, 3) := by decide +kernel
theorem dX9_takeNumber_59 : decode cX9_takeNumber 59 = .ok (.invokevirtual 120, 3) := by decide +kernel
theorem dX9_takeNumber_62 : decode cX9_takeNumber 62 = .ok (.iconst 1, 1) := by decide +kernel
theorem dX9_takeNumber_63 : decode cX9_takeNumber 63 = .ok (.ireturn, 1) := by decide +kernel
theorem dX9_takeWord_0 : decode cX9_takeWord 0 = .ok (.aload_n 0, 1) := by decide +kernel
theorem dX9_takeWord_1 : decode cX9_takeWord 1 = .ok (.getfield 25, 3) := by decide +kernel
theorem dX9_takeWord_4 : decode cX9_takeWord 4 = .ok (.aload_n 1, 1) := by decide +kernel
theorem dX9_takeWord_5 : decode cX9_takeWord 5 = .ok (.invokevirtual 133, 3) := by decide +kernel
theorem dX9_takeWord_8 : decode cX9_takeWord 8 = .ok (.ifCond .ne 9, 3) := by decide +kernel
theorem dX9_takeWord_11 : decode cX9_takeWord 11 = .ok (.aload_n 0, 1) := by decide +kernel
theorem dX9_takeWord_12 : decode cX9_takeWord 12 = .ok (.iconst 1, 1) := by decide +kernel
theorem dX9_takeWord_13 : decode cX9_takeWord 13 = .ok (.invokevirtual 100, 3) := by decide +kernel
theorem dX9_takeWord_16 : decode cX9_takeWord 16 = .ok (.ireturn, 1) := by decide +kernel
theorem dX9_takeWord_17 : decode cX9_takeWord 17 = .ok (.aload_n 0, 1) := by decide +kernel
theorem dX9_takeWord_18 : decode cX9_takeWord 18 = .ok (.getfield 25, 3) := by decide +kernel
theorem dX9_takeWord_21 : decode cX9_takeWord 21 = .ok (.invokevirtual 120, 3) := by decide +kernel
theorem dX9_takeWord_24 : decode cX9_takeWord 24 = .ok (.iconst 1, 1) := by decide +kernel
theorem dX9_takeWord_25 : decode cX9_takeWord 25 = .ok (.ireturn, 1) := by decide +kernel
theorem dX9_takeSemicolon_0 : decode cX9_takeSemicolon 0 = .ok (.aload_n 0, 1) := by decide +kernel
theorem dX9_takeSemicolon_1 : decode cX9_takeSemicolon 1 = .ok (.getfield 25, 3) := by decide +kernel
theorem dX9_takeSemicolon_4 : decode cX9_takeSemicolon 4 = .ok (.invokevirtual 171, 3) := by decide +kernel
theorem dX9_takeSemicolon_7 : decode cX9_takeSemicolon 7 = .ok (.ifCond .ne 9, 3) := by decide +kernel
theorem dX9_takeSemicolon_10 : decode cX9_takeSemicolon 10 = .ok (.aload_n 0, 1) := by decide +kernel
theorem dX9_takeSemicolon_11 : decode cX9_takeSemicolon 11 = .ok (.iconst 1, 1) := by decide +kernel
theorem dX9_takeSemicolon_12 : decode cX9_takeSemicolon 12 = .ok (.invokevirtual 100, 3) := by decide +kernel
theorem dX9_takeSemicolon_15 : decode cX9_takeSemicolon 15 = .ok (.ireturn, 1) := by decide +kernel
theorem dX9_takeSemicolon_16 : decode cX9_takeSemicolon 16 = .ok (.aload_n 0, 1) := by decide +kernel
theorem dX9_takeSemicolon_17 : decode cX9_takeSemicolon 17 = .ok (.getfield 25, 3) := by decide +kernel
theorem dX9_takeSemicolon_20 : decode cX9_takeSemicolon 20 = .ok (.invokevirtual 120, 3) := by decide +kernel
theorem dX9_takeSemicolon_23 : decode cX9_takeSemicolon 23 = .ok (.iconst 1, 1) := by decide +kernel
theorem dX9_takeSemicolon_24 : decode cX9_takeSemicolon 24 = .ok (.ireturn, 1) := by decide +kernel
theorem dX9_takeEnd_0 : decode cX9_takeEnd 0 = .ok (.aload_n 0, 1) := by decide +kernel
theorem dX9_takeEnd_1 : decode cX9_takeEnd 1 = .ok (.getfield 25, 3) := by decide +kernel
theorem dX9_takeEnd_4 : decode cX9_takeEnd 4 = .ok (.invokevirtual 50, 3) := by decide +kernel
theorem dX9_takeEnd_7 : decode cX9_takeEnd 7 = .ok (.ifCond .ne 11, 3) := by decide +kernel
theorem dX9_takeEnd_10 : decode cX9_takeEnd 10 = .ok (.aload_n 0, 1) := by decide +kernel
theorem dX9_takeEnd_11 : decode cX9_takeEnd 11 = .ok (.iconst 1, 1) := by decide +kernel
theorem dX9_takeEnd_12 : decode cX9_takeEnd 12 = .ok (.invokevirtual 100, 3) := by decide +kernel
theorem dX9_takeEnd_15 : decode cX9_takeEnd 15 = .ok (.ifCond .eq 7, 3) := by decide +kernel
theorem dX9_takeEnd_18 : decode cX9_takeEnd 18 = .ok (.iconst 1, 1) := by decide +kernel
theorem dX9_takeEnd_19 : decode cX9_takeEnd 19 = .ok (.goto 4, 3) := by decide +kernel
theorem dX9_takeEnd_22 : decode cX9_takeEnd 22 = .ok (.iconst 0, 1) := by decide +kernel
theorem dX9_takeEnd_23 : decode cX9_takeEnd 23 = .ok (.ireturn, 1) := by decide +kernel
theorem dX10_init_0 : decode cX10_init 0 = .ok (.aload_n 0, 1) := by decide +kernel
theorem dX10_init_1 : decode cX10_init 1 = .ok (.invokespecial 3, 3) := by decide +kernel
theorem dX10_init_4 : decode cX10_init 4 = .ok (.aload_n 0, 1) := by decide +kernel
theorem dX10_init_5 : decode cX10_init 5 = .ok (.bipush 60, 2) := by decide +kernel
theorem dX10_init_7 : decode cX10_init 7 = .ok (.newarray .int, 2) := by decide +kernel
theorem dX10_init_9 : decode cX10_init 9 = .ok (.putfield 9, 3) := by decide +kernel
theorem dX10_init_12 : decode cX10_init 12 = .ok (.aload_n 0, 1) := by decide +kernel
theorem dX10_init_13 : decode cX10_init 13 = .ok (.bipush 60, 2) := by decide +kernel
theorem dX10_init_15 : decode cX10_init 15 = .ok (.newarray .int, 2) := by decide +kernel
theorem dX10_init_17 : decode cX10_init 17 = .ok (.putfield 15, 3) := by decide +kernel
theorem dX10_init_20 : decode cX10_init 20 = .ok (.return_, 1) := by decide +kernel
theorem dX10_reset_0 : decode cX10_reset 0 = .ok (.aload_n 0, 1) := by decide +kernel
theorem dX10_reset_1 : decode cX10_reset 1 = .ok (.iload_n 1, 1) := by decide +kernel
theorem dX10_reset_2 : decode cX10_reset 2 = .ok (.putfield 18, 3) := by decide +kernel
theorem dX10_reset_5 : decode cX10_reset 5 = .ok (.iconst 0, 1) := by decide +kernel
theorem dX10_reset_6 : decode cX10_reset 6 = .ok (.istore_n 2, 1) := by decide +kernel
theorem dX10_reset_7 : decode cX10_reset 7 = .ok (.iload_n 2, 1) := by decide +kernel
theorem dX10_reset_8 : decode cX10_reset 8 = .ok (.aload_n 0, 1) := by decide +kernel
theorem dX10_reset_9 : decode cX10_reset 9 = .ok (.getfield 18, 3) := by decide +kernel
theorem dX10_reset_12 : decode cX10_reset 12 = .ok (.if_icmp .ge 16, 3) := by decide +kernel
theorem dX10_reset_15 : decode cX10_reset 15 = .ok (.aload_n 0, 1) := by decide +kernel
theorem dX10_reset_16 : decode cX10_reset 16 = .ok (.getfield 9, 3) := by decide +kernel
theorem dX10_reset_19 : decode cX10_reset 19 = .ok (.iload_n 2, 1) := by decide +kernel
theorem dX10_reset_20 : decode cX10_reset 20 = .ok (.iload_n 2, 1) := by decide +kernel
theorem dX10_reset_21 : decode cX10_reset 21 = .ok (.iastore, 1) := by decide +kernel
theorem dX10_reset_22 : decode cX10_reset 22 = .ok (.iinc 2 1, 3) := by decide +kernel
theorem dX10_reset_25 : decode cX10_reset 25 = .ok (.goto (-18), 3) := by decide +kernel
theorem dX10_reset_28 : decode cX10_reset 28 = .ok (.return_, 1) := by decide +kernel
theorem dX10_sortBy_0 : decode cX10_sortBy 0 = .ok (.aload_n 0, 1) := by decide +kernel
theorem dX10_sortBy_1 : decode cX10_sortBy 1 = .ok (.aload_n 1, 1) := by decide +kernel
theorem dX10_sortBy_2 : decode cX10_sortBy 2 = .ok (.invokevirtual 22, 3) := by decide +kernel
theorem dX10_sortBy_5 : decode cX10_sortBy 5 = .ok (.invokevirtual 27, 3) := by decide +kernel
theorem dX10_sortBy_8 : decode cX10_sortBy 8 = .ok (.iconst 1, 1) := by decide +kernel
theorem dX10_sortBy_9 : decode cX10_sortBy 9 = .ok (.istore_n 3, 1) := by decide +kernel
theorem dX10_sortBy_10 : decode cX10_sortBy 10 = .ok (.iload_n 3, 1) := by decide +kernel
theorem dX10_sortBy_11 : decode cX10_sortBy 11 = .ok (.aload_n 0, 1) := by decide +kernel
theorem dX10_sortBy_12 : decode cX10_sortBy 12 = .ok (.getfield 18, 3) := by decide +kernel
theorem dX10_sortBy_15 : decode cX10_sortBy 15 = .ok (.if_icmp .ge 86, 3) := by decide +kernel
theorem dX10_sortBy_18 : decode cX10_sortBy 18 = .ok (.aload_n 0, 1) := by decide +kernel
theorem dX10_sortBy_19 : decode cX10_sortBy 19 = .ok (.getfield 9, 3) := by decide +kernel
theorem dX10_sortBy_22 : decode cX10_sortBy 22 = .ok (.iload_n 3, 1) := by decide +kernel
theorem dX10_sortBy_23 : decode cX10_sortBy 23 = .ok (.iaload, 1) := by decide +kernel
theorem dX10_sortBy_24 : decode cX10_sortBy 24 = .ok (.istore 4, 2) := by decide +kernel
theorem dX10_sortBy_26 : decode cX10_sortBy 26 = .ok (.aload_n 1, 1) := by decide +kernel
theorem dX10_sortBy_27 : decode cX10_sortBy 27 = .ok (.iload 4, 2) := by decide +kernel
theorem dX10_sortBy_29 : decode cX10_sortBy 29 = .ok (.invokevirtual 31, 3) := by decide +kernel
theorem dX10_sortBy_32 : decode cX10_sortBy 32 = .ok (.istore 5, 2) := by decide +kernel
theorem dX10_sortBy_34 : decode cX10_sortBy 34 = .ok (.iload_n 3, 1) := by decide +kernel
theorem dX10_sortBy_35 : decode cX10_sortBy 35 = .ok (.istore 6, 2) := by decide +kernel
theorem dX10_sortBy_37 : decode cX10_sortBy 37 = .ok (.iload 6, 2) := by decide +kernel
theorem dX10_sortBy_39 : decode cX10_sortBy 39 = .ok (.ifCond .le 47, 3) := by decide +kernel
theorem dX10_sortBy_42 : decode cX10_sortBy 42 = .ok (.aload_n 1, 1) := by decide +kernel
theorem dX10_sortBy_43 : decode cX10_sortBy 43 = .ok (.aload_n 0, 1) := by decide +kernel
theorem dX10_sortBy_44 : decode cX10_sortBy 44 = .ok (.getfield 9, 3) := by decide +kernel
theorem dX10_sortBy_47 : decode cX10_sortBy 47 = .ok (.iload 6, 2) := by decide +kernel
theorem dX10_sortBy_49 : decode cX10_sortBy 49 = .ok (.iconst 1, 1) := by decide +kernel
theorem dX10_sortBy_50 : decode cX10_sortBy 50 = .ok (.isub, 1) := by decide +kernel
theorem dX10_sortBy_51 : decode cX10_sortBy 51 = .ok (.iaload, 1) := by decide +kernel
theorem dX10_sortBy_52 : decode cX10_sortBy 52 = .ok (.invokevirtual 31, 3) := by decide +kernel
theorem dX10_sortBy_55 : decode cX10_sortBy 55 = .ok (.iload 5, 2) := by decide +kernel
theorem dX10_sortBy_57 : decode cX10_sortBy 57 = .ok (.iload_n 2, 1) := by decide +kernel
theorem dX10_sortBy_58 : decode cX10_sortBy 58 = .ok (.invokestatic 35, 3) := by decide +kernel
theorem dX10_sortBy_61 : decode cX10_sortBy 61 = .ok (.ifCond .eq 25, 3) := by decide +kernel
theorem dX10_sortBy_64 : decode cX10_sortBy 64 = .ok (.aload_n 0, 1) := by decide +kernel
theorem dX10_sortBy_65 : decode cX10_sortBy 65 = .ok (.getfield 9, 3) := by decide +kernel
theorem dX10_sortBy_68 : decode cX10_sortBy 68 = .ok (.iload 6, 2) := by decide +kernel
theorem dX10_sortBy_70 : decode cX10_sortBy 70 = .ok (.aload_n 0, 1) := by decide +kernel
theorem dX10_sortBy_71 : decode cX10_sortBy 71 = .ok (.getfield 9, 3) := by decide +kernel
theorem dX10_sortBy_74 : decode cX10_sortBy 74 = .ok (.iload 6, 2) := by decide +kernel
end
section
/-! decode rows -/
theorem dX10_sortBy_76 : decode cX10_sortBy 76 = .ok (.iconst 1, 1) := by decide +kernel
theorem dX10_sortBy_77 : decode cX10_sortBy 77 = .ok (.isub, 1) := by decide +kernel
theorem dX10_sortBy_78 : decode cX10_sortBy 78 = .ok (.iaload, 1) := by decide +kernel
theorem dX10_sortBy_79 : decode cX10_sortBy 79 = .ok (.iastore, 1) := by decide +kernel
theorem dX10_sortBy_80 : decode cX10_sortBy 80 = .ok (.iinc 6 (-1), 3) := by decide +kernel
theorem dX10_sortBy_83 : decode cX10_sortBy 83 = .ok (.goto (-46), 3) := by decide +kernel
theorem dX10_sortBy_86 : decode cX10_sortBy 86 = .ok (.aload_n 0, 1) := by decide +kernel
theorem dX10_sortBy_87 : decode cX10_sortBy 87 = .ok (.getfield 9, 3) := by decide +kernel
theorem dX10_sortBy_90 : decode cX10_sortBy 90 = .ok (.iload 6, 2) := by decide +kernel
theorem dX10_sortBy_92 : decode cX10_sortBy 92 = .ok (.iload 4, 2) := by decide +kernel
theorem dX10_sortBy_94 : decode cX10_sortBy 94 = .ok (.iastore, 1) := by decide +kernel
theorem dX10_sortBy_95 : decode cX10_sortBy 95 = .ok (.iinc 3 1, 3) := by decide +kernel
theorem dX10_sortBy_98 : decode cX10_sortBy 98 = .ok (.goto (-88), 3) := by decide +kernel
theorem dX10_sortBy_101 : decode cX10_sortBy 101 = .ok (.return_, 1) := by decide +kernel
theorem dX10_isWrong_0 : decode cX10_isWrong 0 = .ok (.iload_n 2, 1) := by decide +kernel
theorem dX10_isWrong_1 : decode cX10_isWrong 1 = .ok (.ifCond .eq 16, 3) := by decide +kernel
theorem dX10_isWrong_4 : decode cX10_isWrong 4 = .ok (.iload_n 0, 1) := by decide +kernel
theorem dX10_isWrong_5 : decode cX10_isWrong 5 = .ok (.iload_n 1, 1) := by decide +kernel
theorem dX10_isWrong_6 : decode cX10_isWrong 6 = .ok (.if_icmp .le 7, 3) := by decide +kernel
theorem dX10_isWrong_9 : decode cX10_isWrong 9 = .ok (.iconst 1, 1) := by decide +kernel
theorem dX10_isWrong_10 : decode cX10_isWrong 10 = .ok (.goto 17, 3) := by decide +kernel
theorem dX10_isWrong_13 : decode cX10_isWrong 13 = .ok (.iconst 0, 1) := by decide +kernel
theorem dX10_isWrong_14 : decode cX10_isWrong 14 = .ok (.goto 13, 3) := by decide +kernel
theorem dX10_isWrong_17 : decode cX10_isWrong 17 = .ok (.iload_n 0, 1) := by decide +kernel
theorem dX10_isWrong_18 : decode cX10_isWrong 18 = .ok (.iload_n 1, 1) := by decide +kernel
theorem dX10_isWrong_19 : decode cX10_isWrong 19 = .ok (.if_icmp .ge 7, 3) := by decide +kernel
theorem dX10_isWrong_22 : decode cX10_isWrong 22 = .ok (.iconst 1, 1) := by decide +kernel
theorem dX10_isWrong_23 : decode cX10_isWrong 23 = .ok (.goto 4, 3) := by decide +kernel
theorem dX10_isWrong_26 : decode cX10_isWrong 26 = .ok (.iconst 0, 1) := by decide +kernel
theorem dX10_isWrong_27 : decode cX10_isWrong 27 = .ok (.ireturn, 1) := by decide +kernel
theorem dX10_source_0 : decode cX10_source 0 = .ok (.aload_n 0, 1) := by decide +kernel
theorem dX10_source_1 : decode cX10_source 1 = .ok (.getfield 9, 3) := by decide +kernel
theorem dX10_source_4 : decode cX10_source 4 = .ok (.iload_n 1, 1) := by decide +kernel
theorem dX10_source_5 : decode cX10_source 5 = .ok (.iaload, 1) := by decide +kernel
theorem dX10_source_6 : decode cX10_source 6 = .ok (.ireturn, 1) := by decide +kernel
theorem dX10_applyTo_0 : decode cX10_applyTo 0 = .ok (.iconst 0, 1) := by decide +kernel
theorem dX10_applyTo_1 : decode cX10_applyTo 1 = .ok (.istore_n 2, 1) := by decide +kernel
theorem dX10_applyTo_2 : decode cX10_applyTo 2 = .ok (.iload_n 2, 1) := by decide +kernel
theorem dX10_applyTo_3 : decode cX10_applyTo 3 = .ok (.aload_n 0, 1) := by decide +kernel
theorem dX10_applyTo_4 : decode cX10_applyTo 4 = .ok (.getfield 18, 3) := by decide +kernel
theorem dX10_applyTo_7 : decode cX10_applyTo 7 = .ok (.if_icmp .ge 23, 3) := by decide +kernel
theorem dX10_applyTo_10 : decode cX10_applyTo 10 = .ok (.aload_n 0, 1) := by decide +kernel
theorem dX10_applyTo_11 : decode cX10_applyTo 11 = .ok (.getfield 15, 3) := by decide +kernel
theorem dX10_applyTo_14 : decode cX10_applyTo 14 = .ok (.iload_n 2, 1) := by decide +kernel
theorem dX10_applyTo_15 : decode cX10_applyTo 15 = .ok (.aload_n 1, 1) := by decide +kernel
theorem dX10_applyTo_16 : decode cX10_applyTo 16 = .ok (.aload_n 0, 1) := by decide +kernel
theorem dX10_applyTo_17 : decode cX10_applyTo 17 = .ok (.getfield 9, 3) := by decide +kernel
theorem dX10_applyTo_20 : decode cX10_applyTo 20 = .ok (.iload_n 2, 1) := by decide +kernel
theorem dX10_applyTo_21 : decode cX10_applyTo 21 = .ok (.iaload, 1) := by decide +kernel
theorem dX10_applyTo_22 : decode cX10_applyTo 22 = .ok (.iaload, 1) := by decide +kernel
theorem dX10_applyTo_23 : decode cX10_applyTo 23 = .ok (.iastore, 1) := by decide +kernel
theorem dX10_applyTo_24 : decode cX10_applyTo 24 = .ok (.iinc 2 1, 3) := by decide +kernel
theorem dX10_applyTo_27 : decode cX10_applyTo 27 = .ok (.goto (-25), 3) := by decide +kernel
theorem dX10_applyTo_30 : decode cX10_applyTo 30 = .ok (.aload_n 0, 1) := by decide +kernel
theorem dX10_applyTo_31 : decode cX10_applyTo 31 = .ok (.getfield 15, 3) := by decide +kernel
theorem dX10_applyTo_34 : decode cX10_applyTo 34 = .ok (.iconst 0, 1) := by decide +kernel
theorem dX10_applyTo_35 : decode cX10_applyTo 35 = .ok (.aload_n 1, 1) := by decide +kernel
theorem dX10_applyTo_36 : decode cX10_applyTo 36 = .ok (.iconst 0, 1) := by decide +kernel
theorem dX10_applyTo_37 : decode cX10_applyTo 37 = .ok (.aload_n 0, 1) := by decide +kernel
theorem dX10_applyTo_38 : decode cX10_applyTo 38 = .ok (.getfield 18, 3) := by decide +kernel
theorem dX10_applyTo_41 : decode cX10_applyTo 41 = .ok (.invokestatic 39, 3) := by decide +kernel
theorem dX10_applyTo_44 : decode cX10_applyTo 44 = .ok (.return_, 1) := by decide +kernel
theorem dX11_init_0 : decode cX11_init 0 = .ok (.aload_n 0, 1) := by decide +kernel
theorem dX11_init_1 : decode cX11_init 1 = .ok (.invokespecial 3, 3) := by decide +kernel
theorem dX11_init_4 : decode cX11_init 4 = .ok (.aload_n 0, 1) := by decide +kernel
theorem dX11_init_5 : decode cX11_init 5 = .ok (.bipush 6, 2) := by decide +kernel
theorem dX11_init_7 : decode cX11_init 7 = .ok (.anewarray 9, 3) := by decide +kernel
theorem dX11_init_10 : decode cX11_init 10 = .ok (.putfield 11, 3) := by decide +kernel
theorem dX11_init_13 : decode cX11_init 13 = .ok (.aload_n 0, 1) := by decide +kernel
theorem dX11_init_14 : decode cX11_init 14 = .ok (.iconst 1, 1) := by decide +kernel
theorem dX11_init_15 : decode cX11_init 15 = .ok (.putfield 17, 3) := by decide +kernel
theorem dX11_init_18 : decode cX11_init 18 = .ok (.aload_n 0, 1) := by decide +kernel
theorem dX11_init_19 : decode cX11_init 19 = .ok (.new 21, 3) := by decide +kernel
theorem dX11_init_22 : decode cX11_init 22 = .ok (.dup, 1) := by decide +kernel
theorem dX11_init_23 : decode cX11_init 23 = .ok (.invokespecial 23, 3) := by decide +kernel
theorem dX11_init_26 : decode cX11_init 26 = .ok (.putfield 24, 3) := by decide +kernel
theorem dX11_init_29 : decode cX11_init 29 = .ok (.iconst 0, 1) := by decide +kernel
theorem dX11_init_30 : decode cX11_init 30 = .ok (.istore_n 1, 1) := by decide +kernel
theorem dX11_init_31 : decode cX11_init 31 = .ok (.iload_n 1, 1) := by decide +kernel
theorem dX11_init_32 : decode cX11_init 32 = .ok (.bipush 6, 2) := by decide +kernel
theorem dX11_init_34 : decode cX11_init 34 = .ok (.if_icmp .ge 22, 3) := by decide +kernel
theorem dX11_init_37 : decode cX11_init 37 = .ok (.aload_n 0, 1) := by decide +kernel
theorem dX11_init_38 : decode cX11_init 38 = .ok (.getfield 11, 3) := by decide +kernel
theorem dX11_init_41 : decode cX11_init 41 = .ok (.iload_n 1, 1) := by decide +kernel
theorem dX11_init_42 : decode cX11_init 42 = .ok (.new 9, 3) := by decide +kernel
theorem dX11_init_45 : decode cX11_init 45 = .ok (.dup, 1) := by decide +kernel
theorem dX11_init_46 : decode cX11_init 46 = .ok (.invokespecial 28, 3) := by decide +kernel
theorem dX11_init_49 : decode cX11_init 49 = .ok (.aastore, 1) := by decide +kernel
theorem dX11_init_50 : decode cX11_init 50 = .ok (.iinc 1 1, 3) := by decide +kernel
theorem dX11_init_53 : decode cX11_init 53 = .ok (.goto (-22), 3) := by decide +kernel
theorem dX11_init_56 : decode cX11_init 56 = .ok (.return_, 1) := by decide +kernel
theorem dX11_columns_0 : decode cX11_columns 0 = .ok (.aload_n 0, 1) := by decide +kernel
theorem dX11_columns_1 : decode cX11_columns 1 = .ok (.getfield 17, 3) := by decide +kernel
theorem dX11_columns_4 : decode cX11_columns 4 = .ok (.ireturn, 1) := by decide +kernel
theorem dX11_rows_0 : decode cX11_rows 0 = .ok (.aload_n 0, 1) := by decide +kernel
theorem dX11_rows_1 : decode cX11_rows 1 = .ok (.getfield 11, 3) := by decide +kernel
theorem dX11_rows_4 : decode cX11_rows 4 = .ok (.iconst 0, 1) := by decide +kernel
theorem dX11_rows_5 : decode cX11_rows 5 = .ok (.aaload, 1) := by decide +kernel
theorem dX11_rows_6 : decode cX11_rows 6 = .ok (.invokevirtual 29, 3) := by decide +kernel
theorem dX11_rows_9 : decode cX11_rows 9 = .ok (.ireturn, 1) := by decide +kernel
theorem dX11_column_0 : decode cX11_column 0 = .ok (.aload_n 0, 1) := by decide +kernel
theorem dX11_column_1 : decode cX11_column 1 = .ok (.getfield 11, 3) := by decide +kernel
theorem dX11_column_4 : decode cX11_column 4 = .ok (.iload_n 1, 1) := by decide +kernel
theorem dX11_column_5 : decode cX11_column 5 = .ok (.aaload, 1) := by decide +kernel
theorem dX11_column_6 : decode cX11_column 6 = .ok (.areturn, 1) := by decide +kernel
theorem dX11_dictionary_0 : decode cX11_dictionary 0 = .ok (.aload_n 0, 1) := by decide +kernel
theorem dX11_dictionary_1 : decode cX11_dictionary 1 = .ok (.getfield 11, 3) := by decide +kernel
theorem dX11_dictionary_4 : decode cX11_dictionary 4 = .ok (.iload_n 1, 1) := by decide +kernel
theorem dX11_dictionary_5 : decode cX11_dictionary 5 = .ok (.aaload, 1) := by decide +kernel
theorem dX11_dictionary_6 : decode cX11_dictionary 6 = .ok (.invokevirtual 33, 3) := by decide +kernel
theorem dX11_dictionary_9 : decode cX11_dictionary 9 = .ok (.areturn, 1) := by decide +kernel
theorem dX11_filter_0 : decode cX11_filter 0 = .ok (.aload_n 0, 1) := by decide +kernel
theorem dX11_filter_1 : decode cX11_filter 1 = .ok (.getfield 24, 3) := by decide +kernel
theorem dX11_filter_4 : decode cX11_filter 4 = .ok (.areturn, 1) := by decide +kernel
theorem dX11_isFull_0 : decode cX11_isFull 0 = .ok (.aload_n 0, 1) := by decide +kernel
theorem dX11_isFull_1 : decode cX11_isFull 1 = .ok (.invokevirtual 37, 3) := by decide +kernel
theorem dX11_isFull_4 : decode cX11_isFull 4 = .ok (.bipush 60, 2) := by decide +kernel
theorem dX11_isFull_6 : decode cX11_isFull 6 = .ok (.if_icmp .lt 7, 3) := by decide +kernel
theorem dX11_isFull_9 : decode cX11_isFull 9 = .ok (.iconst 1, 1) := by decide +kernel
theorem dX11_isFull_10 : decode cX11_isFull 10 = .ok (.goto 4, 3) := by decide +kernel
theorem dX11_isFull_13 : decode cX11_isFull 13 = .ok (.iconst 0, 1) := by decide +kernel
theorem dX11_isFull_14 : decode cX11_isFull 14 = .ok (.ireturn, 1) := by decide +kernel
theorem dX11_hasRow_0 : decode cX11_hasRow 0 = .ok (.iload_n 1, 1) := by decide +kernel
theorem dX11_hasRow_1 : decode cX11_hasRow 1 = .ok (.ifCond .lt 15, 3) := by decide +kernel
theorem dX11_hasRow_4 : decode cX11_hasRow 4 = .ok (.iload_n 1, 1) := by decide +kernel
theorem dX11_hasRow_5 : decode cX11_hasRow 5 = .ok (.aload_n 0, 1) := by decide +kernel
theorem dX11_hasRow_6 : decode cX11_hasRow 6 = .ok (.invokevirtual 37, 3) := by decide +kernel
theorem dX11_hasRow_9 : decode cX11_hasRow 9 = .ok (.if_icmp .ge 7, 3) := by decide +kernel
theorem dX11_hasRow_12 : decode cX11_hasRow 12 = .ok (.iconst 1, 1) := by decide +kernel
theorem dX11_hasRow_13 : decode cX11_hasRow 13 = .ok (.goto 4, 3) := by decide +kernel
theorem dX11_hasRow_16 : decode cX11_hasRow 16 = .ok (.iconst 0, 1) := by decide +kernel
theorem dX11_hasRow_17 : decode cX11_hasRow 17 = .ok (.ireturn, 1) := by decide +kernel
theorem dX11_replace_0 : decode cX11_replace 0 = .ok (.aload_n 0, 1) := by decide +kernel
theorem dX11_replace_1 : decode cX11_replace 1 = .ok (.iload_n 1, 1) := by decide +kernel
theorem dX11_replace_2 : decode cX11_replace 2 = .ok (.putfield 17, 3) := by decide +kernel
theorem dX11_replace_5 : decode cX11_replace 5 = .ok (.aload_n 0, 1) := by decide +kernel
theorem dX11_replace_6 : decode cX11_replace 6 = .ok (.getfield 24, 3) := by decide +kernel
theorem dX11_replace_9 : decode cX11_replace 9 = .ok (.invokevirtual 40, 3) := by decide +kernel
theorem dX11_replace_12 : decode cX11_replace 12 = .ok (.iconst 0, 1) := by decide +kernel
theorem dX11_replace_13 : decode cX11_replace 13 = .ok (.istore 4, 2) := by decide +kernel
theorem dX11_replace_15 : decode cX11_replace 15 = .ok (.iload 4, 2) := by decide +kernel
theorem dX11_replace_17 : decode cX11_replace 17 = .ok (.aload_n 0, 1) := by decide +kernel
theorem dX11_replace_18 : decode cX11_replace 18 = .ok (.getfield 17, 3) := by decide +kernel
theorem dX11_replace_21 : decode cX11_replace 21 = .ok (.if_icmp .ge 19, 3) := by decide +kernel
theorem dX11_replace_24 : decode cX11_replace 24 = .ok (.aload_n 0, 1) := by decide +kernel
theorem dX11_replace_25 : decode cX11_replace 25 = .ok (.getfield 11, 3) := by decide +kernel
theorem dX11_replace_28 : decode cX11_replace 28 = .ok (.iload 4, 2) := by decide +kernel
theorem dX11_replace_30 : decode cX11_replace 30 = .ok (.aaload, 1) := by decide +kernel
theorem dX11_replace_31 : decode cX11_replace 31 = .ok (.invokevirtual 43, 3) := by decide +kernel
theorem dX11_replace_34 : decode cX11_replace 34 = .ok (.iinc 4 1, 3) := by decide +kernel
theorem dX11_replace_37 : decode cX11_replace 37 = .ok (.goto (-22), 3) := by decide +kernel
theorem dX11_replace_40 : decode cX11_replace 40 = .ok (.iconst 0, 1) := by decide +kernel
theorem dX11_replace_41 : decode cX11_replace 41 = .ok (.istore 4, 2) := by decide +kernel
theorem dX11_replace_43 : decode cX11_replace 43 = .ok (.iload 4, 2) := by decide +kernel
theorem dX11_replace_45 : decode cX11_replace 45 = .ok (.iload_n 2, 1) := by decide +kernel
theorem dX11_replace_46 : decode cX11_replace 46 = .ok (.if_icmp .ge 21, 3) := by decide +kernel
theorem dX11_replace_49 : decode cX11_replace 49 = .ok (.aload_n 0, 1) := by decide +kernel
theorem dX11_replace_50 : decode cX11_replace 50 = .ok (.aload_n 3, 1) := by decide +kernel
theorem dX11_replace_51 : decode cX11_replace 51 = .ok (.iload 4, 2) := by decide +kernel
theorem dX11_replace_53 : decode cX11_replace 53 = .ok (.aload_n 0, 1) := by decide +kernel
theorem dX11_replace_54 : decode cX11_replace 54 = .ok (.getfield 17, 3) := by decide +kernel
theorem dX11_replace_57 : decode cX11_replace 57 = .ok (.imul, 1) := by decide +kernel
theorem dX11_replace_58 : decode cX11_replace 58 = .ok (.invokevirtual 44, 3) := by decide +kernel
theorem dX11_replace_61 : decode cX11_replace 61 = .ok (.iinc 4 1, 3) := by decide +kernel
theorem dX11_replace_64 : decode cX11_replace 64 = .ok (.goto (-21), 3) := by decide +kernel
theorem dX11_replace_67 : decode cX11_replace 67 = .ok (.return_, 1) := by decide +kernel
theorem dX11_appendRow_0 : decode cX11_appendRow 0 = .ok (.iconst 0, 1) := by decide +kernel
theorem dX11_appendRow_1 : decode cX11_appendRow 1 = .ok (.istore_n 3, 1) := by decide +kernel
theorem dX11_appendRow_2 : decode cX11_appendRow 2 = .ok (.iload_n 3, 1) := by decide +kernel
theorem dX11_appendRow_3 : decode cX11_appendRow 3 = .ok (.aload_n 0, 1) := by decide +kernel
theorem dX11_appendRow_4 : decode cX11_appendRow 4 = .ok (.getfield 17, 3) := by decide +kernel
theorem dX11_appendRow_7 : decode cX11_appendRow 7 = .ok (.if_icmp .ge 23, 3) := by decide +kernel
theorem dX11_appendRow_10 : decode cX11_appendRow 10 = .ok (.aload_n 0, 1) := by decide +kernel
theorem dX11_appendRow_11 : decode cX11_appendRow 11 = .ok (.getfield 11, 3) := by decide +kernel
theorem dX11_appendRow_14 : decode cX11_appendRow 14 = .ok (.iload_n 3, 1) := by decide +kernel
theorem dX11_appendRow_15 : decode cX11_appendRow 15 = .ok (.aaload, 1) := by decide +kernel
theorem dX11_appendRow_16 : decode cX11_appendRow 16 = .ok (.aload_n 1, 1) := by decide +kernel
theorem dX11_appendRow_17 : decode cX11_appendRow 17 = .ok (.iload_n 2, 1) := by decide +kernel
theorem dX11_appendRow_18 : decode cX11_appendRow 18 = .ok (.iload_n 3, 1) := by decide +kernel
theorem dX11_appendRow_19 : decode cX11_appendRow 19 = .ok (.iadd, 1) := by decide +kernel
theorem dX11_appendRow_20 : decode cX11_appendRow 20 = .ok (.iaload, 1) := by decide +kernel
theorem dX11_appendRow_21 : decode cX11_appendRow 21 = .ok (.invokevirtual 48, 3) := by decide +kernel
theorem dX11_appendRow_24 : decode cX11_appendRow 24 = .ok (.iinc 3 1, 3) := by decide +kernel
theorem dX11_appendRow_27 : decode cX11_appendRow 27 = .ok (.goto (-25), 3) := by decide +kernel
theorem dX11_appendRow_30 : decode cX11_appendRow 30 = .ok (.return_, 1) := by decide +kernel
theorem dX11_deleteRow_0 : decode cX11_deleteRow 0 = .ok (.iload_n 1, 1) := by decide +kernel
theorem dX11_deleteRow_1 : decode cX11_deleteRow 1 = .ok (.iconst 1, 1) := by decide +kernel
theorem dX11_deleteRow_2 : decode cX11_deleteRow 2 = .ok (.iadd, 1) := by decide +kernel
theorem dX11_deleteRow_3 : decode cX11_deleteRow 3 = .ok (.istore_n 2, 1) := by decide +kernel
theorem dX11_deleteRow_4 : decode cX11_deleteRow 4 = .ok (.iload_n 2, 1) := by decide +kernel
theorem dX11_deleteRow_5 : decode cX11_deleteRow 5 = .ok (.aload_n 0, 1) := by decide +kernel
theorem dX11_deleteRow_6 : decode cX11_deleteRow 6 = .ok (.invokevirtual 37, 3) := by decide +kernel
theorem dX11_deleteRow_9 : decode cX11_deleteRow 9 = .ok (.if_icmp .ge 17, 3) := by decide +kernel
theorem dX11_deleteRow_12 : decode cX11_deleteRow 12 = .ok (.aload_n 0, 1) := by decide +kernel
theorem dX11_deleteRow_13 : decode cX11_deleteRow 13 = .ok (.iload_n 2, 1) := by decide +kernel
theorem dX11_deleteRow_14 : decode cX11_deleteRow 14 = .ok (.iload_n 2, 1) := by decide +kernel
theorem dX11_deleteRow_15 : decode cX11_deleteRow 15 = .ok (.iconst 1, 1) := by decide +kernel
theorem dX11_deleteRow_16 : decode cX11_deleteRow 16 = .ok (.isub, 1) := by decide +kernel
theorem dX11_deleteRow_17 : decode cX11_deleteRow 17 = .ok (.invokevirtual 52, 3) := by decide +kernel
theorem dX11_deleteRow_20 : decode cX11_deleteRow 20 = .ok (.iinc 2 1, 3) := by decide +kernel
theorem dX11_deleteRow_23 : decode cX11_deleteRow 23 = .ok (.goto (-19), 3) := by decide +kernel
theorem dX11_deleteRow_26 : decode cX11_deleteRow 26 = .ok (.aload_n 0, 1) := by decide +kernel
theorem dX11_deleteRow_27 : decode cX11_deleteRow 27 = .ok (.aload_n 0, 1) := by decide +kernel
theorem dX11_deleteRow_28 : decode cX11_deleteRow 28 = .ok (.invokevirtual 37, 3) := by decide +kernel
theorem dX11_deleteRow_31 : decode cX11_deleteRow 31 = .ok (.iconst 1, 1) := by decide +kernel
theorem dX11_deleteRow_32 : decode cX11_deleteRow 32 = .ok (.isub, 1) := by decide +kernel
theorem dX11_deleteRow_33 : decode cX11_deleteRow 33 = .ok (.invokevirtual 56, 3) := by decide +kernel
theorem dX11_deleteRow_36 : decode cX11_deleteRow 36 = .ok (.return_, 1) := by decide +kernel
theorem dX11_deleteSelectedRows_0 : decode cX11_deleteSelectedRows 0 = .ok (.iconst 0, 1) := by decide +kernel
theorem dX11_deleteSelectedRows_1 : decode cX11_deleteSelectedRows 1 = .ok (.istore_n 1, 1) := by decide +kernel
theorem dX11_deleteSelectedRows_2 : decode cX11_deleteSelectedRows 2 = .ok (.iconst 0, 1) := by decide +kernel
theorem dX11_deleteSelectedRows_3 : decode cX11_deleteSelectedRows 3 = .ok (.istore_n 2, 1) := by decide +kernel
theorem dX11_deleteSelectedRows_4 : decode cX11_deleteSelectedRows 4 = .ok (.iload_n 2, 1) := by decide +kernel
theorem dX11_deleteSelectedRows_5 : decode cX11_deleteSelectedRows 5 = .ok (.aload_n 0, 1) := by decide +kernel
theorem dX11_deleteSelectedRows_6 : decode cX11_deleteSelectedRows 6 = .ok (.invokevirtual 37, 3) := by decide +kernel
theorem dX11_deleteSelectedRows_9 : decode cX11_deleteSelectedRows 9 = .ok (.if_icmp .ge 26, 3) := by decide +kernel
theorem dX11_deleteSelectedRows_12 : decode cX11_deleteSelectedRows 12 = .ok (.aload_n 0, 1) := by decide +kernel
theorem dX11_deleteSelectedRows_13 : decode cX11_deleteSelectedRows 13 = .ok (.iload_n 2, 1) := by decide +kernel
theorem dX11_deleteSelectedRows_14 : decode cX11_deleteSelectedRows 14 = .ok (.invokevirtual 59, 3) := by decide +kernel
theorem dX11_deleteSelectedRows_17 : decode cX11_deleteSelectedRows 17 = .ok (.ifCond .ne 12, 3) := by decide +kernel
theorem dX11_deleteSelectedRows_20 : decode cX11_deleteSelectedRows 20 = .ok (.aload_n 0, 1) := by decide +kernel
theorem dX11_deleteSelectedRows_21 : decode cX11_deleteSelectedRows 21 = .ok (.iload_n 2, 1) := by decide +kernel
theorem dX11_deleteSelectedRows_22 : decode cX11_deleteSelectedRows 22 = .ok (.iload_n 1, 1) := by decide +kernel
theorem dX11_deleteSelectedRows_23 : decode cX11_deleteSelectedRows 23 = .ok (.invokevirtual 52, 3) := by decide +kernel
theorem dX11_deleteSelectedRows_26 : decode cX11_deleteSelectedRows 26 = .ok (.iinc 1 1, 3) := by decide +kernel
theorem dX11_deleteSelectedRows_29 : decode cX11_deleteSelectedRows 29 = .ok (.iinc 2 1, 3) := by decide +kernel
theorem dX11_deleteSelectedRows_32 : decode cX11_deleteSelectedRows 32 = .ok (.goto (-28), 3) := by decide +kernel
theorem dX11_deleteSelectedRows_35 : decode cX11_deleteSelectedRows 35 = .ok (.aload_n 0, 1) := by decide +kernel
theorem dX11_deleteSelectedRows_36 : decode cX11_deleteSelectedRows 36 = .ok (.invokevirtual 37, 3) := by decide +kernel
theorem dX11_deleteSelectedRows_39 : decode cX11_deleteSelectedRows 39 = .ok (.iload_n 1, 1) := by decide +kernel
theorem dX11_deleteSelectedRows_40 : decode cX11_deleteSelectedRows 40 = .ok (.isub, 1) := by decide +kernel
theorem dX11_deleteSelectedRows_41 : decode cX11_deleteSelectedRows 41 = .ok (.istore_n 2, 1) := by decide +kernel
theorem dX11_deleteSelectedRows_42 : decode cX11_deleteSelectedRows 42 = .ok (.aload_n 0, 1) := by decide +kernel
theorem dX11_deleteSelectedRows_43 : decode cX11_deleteSelectedRows 43 = .ok (.iload_n 1, 1) := by decide +kernel
theorem dX11_deleteSelectedRows_44 : decode cX11_deleteSelectedRows 44 = .ok (.invokevirtual 56, 3) := by decide +kernel
theorem dX11_deleteSelectedRows_47 : decode cX11_deleteSelectedRows 47 = .ok (.iload_n 2, 1) := by decide +kernel
theorem dX11_deleteSelectedRows_48 : decode cX11_deleteSelectedRows 48 = .ok (.ireturn, 1) := by decide +kernel
theorem dX11_moveRow_0 : decode cX11_moveRow 0 = .ok (.iconst 0, 1) := by decide +kernel
theorem dX11_moveRow_1 : decode cX11_moveRow 1 = .ok (.istore_n 3, 1) := by decide +kernel
theorem dX11_moveRow_2 : decode cX11_moveRow 2 = .ok (.iload_n 3, 1) := by decide +kernel
theorem dX11_moveRow_3 : decode cX11_moveRow 3 = .ok (.aload_n 0, 1) := by decide +kernel
theorem dX11_moveRow_4 : decode cX11_moveRow 4 = .ok (.getfield 17, 3) := by decide +kernel
theorem dX11_moveRow_7 : decode cX11_moveRow 7 = .ok (.if_icmp .ge 20, 3) := by decide +kernel
theorem dX11_moveRow_10 : decode cX11_moveRow 10 = .ok (.aload_n 0, 1) := by decide +kernel
theorem dX11_moveRow_11 : decode cX11_moveRow 11 = .ok (.getfield 11, 3) := by decide +kernel
theorem dX11_moveRow_14 : decode cX11_moveRow 14 = .ok (.iload_n 3, 1) := by decide +kernel
theorem dX11_moveRow_15 : decode cX11_moveRow 15 = .ok (.aaload, 1) := by decide +kernel
theorem dX11_moveRow_16 : decode cX11_moveRow 16 = .ok (.iload_n 1, 1) := by decide +kernel
theorem dX11_moveRow_17 : decode cX11_moveRow 17 = .ok (.iload_n 2, 1) := by decide +kernel
theorem dX11_moveRow_18 : decode cX11_moveRow 18 = .ok (.invokevirtual 63, 3) := by decide +kernel
theorem dX11_moveRow_21 : decode cX11_moveRow 21 = .ok (.iinc 3 1, 3) := by decide +kernel
theorem dX11_moveRow_24 : decode cX11_moveRow 24 = .ok (.goto (-22), 3) := by decide +kernel
theorem dX11_moveRow_27 : decode cX11_moveRow 27 = .ok (.return_, 1) := by decide +kernel
theorem dX11_shorten_0 : decode cX11_shorten 0 = .ok (.iconst 0, 1) := by decide +kernel
theorem dX11_shorten_1 : decode cX11_shorten 1 = .ok (.istore_n 2, 1) := by decide +kernel
theorem dX11_shorten_2 : decode cX11_shorten 2 = .ok (.iload_n 2, 1) := by decide +kernel
theorem dX11_shorten_3 : decode cX11_shorten 3 = .ok (.aload_n 0, 1) := by decide +kernel
theorem dX11_shorten_4 : decode cX11_shorten 4 = .ok (.getfield 17, 3) := by decide +kernel
theorem dX11_shorten_7 : decode cX11_shorten 7 = .ok (.if_icmp .ge 19, 3) := by decide +kernel
theorem dX11_shorten_10 : decode cX11_shorten 10 = .ok (.aload_n 0, 1) := by decide +kernel
theorem dX11_shorten_11 : decode cX11_shorten 11 = .ok (.getfield 11, 3) := by decide +kernel
theorem dX11_shorten_14 : decode cX11_shorten 14 = .ok (.iload_n 2, 1) := by decide +kernel
theorem dX11_shorten_15 : decode cX11_shorten 15 = .ok (.aaload, 1) := by decide +kernel
theorem dX11_shorten_16 : decode cX11_shorten 16 = .ok (.iload_n 1, 1) := by decide +kernel
theorem dX11_shorten_17 : decode cX11_shorten 17 = .ok (.invokevirtual 66, 3) := by decide +kernel
theorem dX11_shorten_20 : decode cX11_shorten 20 = .ok (.iinc 2 1, 3) := by decide +kernel
theorem dX11_shorten_23 : decode cX11_shorten 23 = .ok (.goto (-21), 3) := by decide +kernel
theorem dX11_shorten_26 : decode cX11_shorten 26 = .ok (.return_, 1) := by decide +kernel
theorem dX11_reorder_0 : decode cX11_reorder 0 = .ok (.iconst 0, 1) := by decide +kernel
theorem dX11_reorder_1 : decode cX11_reorder 1 = .ok (.istore_n 2, 1) := by decide +kernel
theorem dX11_reorder_2 : decode cX11_reorder 2 = .ok (.iload_n 2, 1) := by decide +kernel
theorem dX11_reorder_3 : decode cX11_reorder 3 = .ok (.aload_n 0, 1) := by decide +kernel
theorem dX11_reorder_4 : decode cX11_reorder 4 = .ok (.getfield 17, 3) := by decide +kernel
theorem dX11_reorder_7 : decode cX11_reorder 7 = .ok (.if_icmp .ge 19, 3) := by decide +kernel
theorem dX11_reorder_10 : decode cX11_reorder 10 = .ok (.aload_n 0, 1) := by decide +kernel
theorem dX11_reorder_11 : decode cX11_reorder 11 = .ok (.getfield 11, 3) := by decide +kernel
theorem dX11_reorder_14 : decode cX11_reorder 14 = .ok (.iload_n 2, 1) := by decide +kernel
theorem dX11_reorder_15 : decode cX11_reorder 15 = .ok (.aaload, 1) := by decide +kernel
theorem dX11_reorder_16 : decode cX11_reorder 16 = .ok (.aload_n 1, 1) := by decide +kernel
theorem dX11_reorder_17 : decode cX11_reorder 17 = .ok (.invokevirtual 67, 3) := by decide +kernel
theorem dX11_reorder_20 : decode cX11_reorder 20 = .ok (.iinc 2 1, 3) := by decide +kernel
theorem dX11_reorder_23 : decode cX11_reorder 23 = .ok (.goto (-21), 3) := by decide +kernel
theorem dX11_reorder_26 : decode cX11_reorder 26 = .ok (.return_, 1) := by decide +kernel
theorem dX11_fulfills_0 : decode cX11_fulfills 0 = .ok (.aload_n 0, 1) := by decide +kernel
theorem dX11_fulfills_1 : decode cX11_fulfills 1 = .ok (.getfield 24, 3) := by decide +kernel
theorem dX11_fulfills_4 : decode cX11_fulfills 4 = .ok (.iload_n 2, 1) := by decide +kernel
theorem dX11_fulfills_5 : decode cX11_fulfills 5 = .ok (.aload_n 0, 1) := by decide +kernel
theorem dX11_fulfills_6 : decode cX11_fulfills 6 = .ok (.getfield 11, 3) := by decide +kernel
theorem dX11_fulfills_9 : decode cX11_fulfills 9 = .ok (.aload_n 0, 1) := by decide +kernel
theorem dX11_fulfills_10 : decode cX11_fulfills 10 = .ok (.getfield 24, 3) := by decide +kernel
theorem dX11_fulfills_13 : decode cX11_fulfills 13 = .ok (.iload_n 2, 1) := by decide +kernel
theorem dX11_fulfills_14 : decode cX11_fulfills 14 = .ok (.invokevirtual 71, 3) := by decide +kernel
theorem dX11_fulfills_17 : decode cX11_fulfills 17 = .ok (.aaload, 1) := by decide +kernel
theorem dX11_fulfills_18 : decode cX11_fulfills 18 = .ok (.iload_n 1, 1) := by decide +kernel
theorem dX11_fulfills_19 : decode cX11_fulfills 19 = .ok (.invokevirtual 75, 3) := by decide +kernel
theorem dX11_fulfills_22 : decode cX11_fulfills 22 = .ok (.invokevirtual 78, 3) := by decide +kernel
theorem dX11_fulfills_25 : decode cX11_fulfills 25 = .ok (.ireturn, 1) := by decide +kernel
theorem dX11_rowsFulfilling_0 : decode cX11_rowsFulfilling 0 = .ok (.iconst 0, 1) := by decide +kernel
theorem dX11_rowsFulfilling_1 : decode cX11_rowsFulfilling 1 = .ok (.istore_n 2, 1) := by decide +kernel
theorem dX11_rowsFulfilling_2 : decode cX11_rowsFulfilling 2 = .ok (.iconst 0, 1) := by decide +kernel
theorem dX11_rowsFulfilling_3 : decode cX11_rowsFulfilling 3 = .ok (.istore_n 3, 1) := by decide +kernel
theorem dX11_rowsFulfilling_4 : decode cX11_rowsFulfilling 4 = .ok (.iload_n 3, 1) := by decide +kernel
theorem dX11_rowsFulfilling_5 : decode cX11_rowsFulfilling 5 = .ok (.aload_n 0, 1) := by decide +kernel
theorem dX11_rowsFulfilling_6 : decode cX11_rowsFulfilling 6 = .ok (.invokevirtual 37, 3) := by decide +kernel
theorem dX11_rowsFulfilling_9 : decode cX11_rowsFulfilling 9 = .ok (.if_icmp .ge 21, 3) := by decide +kernel
theorem dX11_rowsFulfilling_12 : decode cX11_rowsFulfilling 12 = .ok (.aload_n 0, 1) := by decide +kernel
theorem dX11_rowsFulfilling_13 : decode cX11_rowsFulfilling 13 = .ok (.iload_n 3, 1) := by decide +kernel
theorem dX11_rowsFulfilling_14 : decode cX11_rowsFulfilling 14 = .ok (.iload_n 1, 1) := by decide +kernel
theorem dX11_rowsFulfilling_15 : decode cX11_rowsFulfilling 15 = .ok (.invokevirtual 82, 3) := by decide +kernel
theorem dX11_rowsFulfilling_18 : decode cX11_rowsFulfilling 18 = .ok (.ifCond .eq 6, 3) := by decide +kernel
theorem dX11_rowsFulfilling_21 : decode cX11_rowsFulfilling 21 = .ok (.iinc 2 1, 3) := by decide +kernel
theorem dX11_rowsFulfilling_24 : decode cX11_rowsFulfilling 24 = .ok (.iinc 3 1, 3) := by decide +kernel
theorem dX11_rowsFulfilling_27 : decode cX11_rowsFulfilling 27 = .ok (.goto (-23), 3) := by decide +kernel
theorem dX11_rowsFulfilling_30 : decode cX11_rowsFulfilling 30 = .ok (.iload_n 2, 1) := by decide +kernel
theorem dX11_rowsFulfilling_31 : decode cX11_rowsFulfilling 31 = .ok (.ireturn, 1) := by decide +kernel
theorem dX11_firstRejecting_0 : decode cX11_firstRejecting 0 = .ok (.iconst 0, 1) := by decide +kernel
theorem dX11_firstRejecting_1 : decode cX11_firstRejecting 1 = .ok (.istore_n 2, 1) := by decide +kernel
theorem dX11_firstRejecting_2 : decode cX11_firstRejecting 2 = .ok (.iload_n 2, 1) := by decide +kernel
theorem dX11_firstRejecting_3 : decode cX11_firstRejecting 3 = .ok (.aload_n 0, 1) := by decide +kernel
theorem dX11_firstRejecting_4 : decode cX11_firstRejecting 4 = .ok (.getfield 24, 3) := by decide +kernel
theorem dX11_firstRejecting_7 : decode cX11_firstRejecting 7 = .ok (.invokevirtual 85, 3) := by decide +kernel
theorem dX11_firstRejecting_10 : decode cX11_firstRejecting 10 = .ok (.if_icmp .ge 20, 3) := by decide +kernel
theorem dX11_firstRejecting_13 : decode cX11_firstRejecting 13 = .ok (.aload_n 0, 1) := by decide +kernel
theorem dX11_firstRejecting_14 : decode cX11_firstRejecting 14 = .ok (.iload_n 1, 1) := by decide +kernel
theorem dX11_firstRejecting_15 : decode cX11_firstRejecting 15 = .ok (.iload_n 2, 1) := by decide +kernel
theorem dX11_firstRejecting_16 : decode cX11_firstRejecting 16 = .ok (.invokevirtual 82, 3) := by decide +kernel
theorem dX11_firstRejecting_19 : decode cX11_firstRejecting 19 = .ok (.ifCond .ne 5, 3) := by decide +kernel
theorem dX11_firstRejecting_22 : decode cX11_firstRejecting 22 = .ok (.iload_n 2, 1) := by decide +kernel
theorem dX11_firstRejecting_23 : decode cX11_firstRejecting 23 = .ok (.ireturn, 1) := by decide +kernel
theorem dX11_firstRejecting_24 : decode cX11_firstRejecting 24 = .ok (.iinc 2 1, 3) := by decide +kernel
theorem dX11_firstRejecting_27 : decode cX11_firstRejecting 27 = .ok (.goto (-25), 3) := by decide +kernel
theorem dX11_firstRejecting_30 : decode cX11_firstRejecting 30 = .ok (.iconst (-1), 1) := by decide +kernel
theorem dX11_firstRejecting_31 : decode cX11_firstRejecting 31 = .ok (.ireturn, 1) := by decide +kernel
theorem dX11_selects_0 : decode cX11_selects 0 = .ok (.aload_n 0, 1) := by decide +kernel
theorem dX11_selects_1 : decode cX11_selects 1 = .ok (.iload_n 1, 1) := by decide +kernel
theorem dX11_selects_2 : decode cX11_selects 2 = .ok (.invokevirtual 88, 3) := by decide +kernel
theorem dX11_selects_5 : decode cX11_selects 5 = .ok (.ifCond .ge 7, 3) := by decide +kernel
theorem dX11_selects_8 : decode cX11_selects 8 = .ok (.iconst 1, 1) := by decide +kernel
theorem dX11_selects_9 : decode cX11_selects 9 = .ok (.goto 4, 3) := by decide +kernel
theorem dX11_selects_12 : decode cX11_selects 12 = .ok (.iconst 0, 1) := by decide +kernel
theorem dX11_selects_13 : decode cX11_selects 13 = .ok (.ireturn, 1) := by decide +kernel
theorem dX11_selectedRows_0 : decode cX11_selectedRows 0 = .ok (.iconst 0, 1) := by decide +kernel
theorem dX11_selectedRows_1 : decode cX11_selectedRows 1 = .ok (.istore_n 1, 1) := by decide +kernel
theorem dX11_selectedRows_2 : decode cX11_selectedRows 2 = .ok (.iconst 0, 1) := by decide +kernel
theorem dX11_selectedRows_3 : decode cX11_selectedRows 3 = .ok (.istore_n 2, 1) := by decide +kernel
theorem dX11_selectedRows_4 : decode cX11_selectedRows 4 = .ok (.iload_n 2, 1) := by decide +kernel
theorem dX11_selectedRows_5 : decode cX11_selectedRows 5 = .ok (.aload_n 0, 1) := by decide +kernel
theorem dX11_selectedRows_6 : decode cX11_selectedRows 6 = .ok (.invokevirtual 37, 3) := by decide +kernel
theorem dX11_selectedRows_9 : decode cX11_selectedRows 9 = .ok (.if_icmp .ge 20, 3) := by decide +kernel
theorem dX11_selectedRows_12 : decode cX11_selectedRows 12 = .ok (.aload_n 0, 1) := by decide +kernel
theorem dX11_selectedRows_13 : decode cX11_selectedRows 13 = .ok (.iload_n 2, 1) := by decide +kernel
theorem dX11_selectedRows_14 : decode cX11_selectedRows 14 = .ok (.invokevirtual 59, 3) := by decide +kernel
theorem dX11_selectedRows_17 : decode cX11_selectedRows 17 = .ok (.ifCond .eq 6, 3) := by decide +kernel
theorem dX11_selectedRows_20 : decode cX11_selectedRows 20 = .ok (.iinc 1 1, 3) := by decide +kernel
theorem dX11_selectedRows_23 : decode cX11_selectedRows 23 = .ok (.iinc 2 1, 3) := by decide +kernel
theorem dX11_selectedRows_26 : decode cX11_selectedRows 26 = .ok (.goto (-22), 3) := by decide +kernel
theorem dX11_selectedRows_29 : decode cX11_selectedRows 29 = .ok (.iload_n 1, 1) := by decide +kernel
theorem dX11_selectedRows_30 : decode cX11_selectedRows 30 = .ok (.ireturn, 1) := by decide +kernel
theorem dX11_lowerEnd_0 : decode cX11_lowerEnd 0 = .ok (.aload_n 0, 1) := by decide +kernel
theorem dX11_lowerEnd_1 : decode cX11_lowerEnd 1 = .ok (.aload_n 0, 1) := by decide +kernel
theorem dX11_lowerEnd_2 : decode cX11_lowerEnd 2 = .ok (.getfield 24, 3) := by decide +kernel
theorem dX11_lowerEnd_5 : decode cX11_lowerEnd 5 = .ok (.iload_n 1, 1) := by decide +kernel
theorem dX11_lowerEnd_6 : decode cX11_lowerEnd 6 = .ok (.invokevirtual 71, 3) := by decide +kernel
theorem dX11_lowerEnd_9 : decode cX11_lowerEnd 9 = .ok (.invokevirtual 91, 3) := by decide +kernel
theorem dX11_lowerEnd_12 : decode cX11_lowerEnd 12 = .ok (.astore_n 2, 1) := by decide +kernel
theorem dX11_lowerEnd_13 : decode cX11_lowerEnd 13 = .ok (.aload_n 0, 1) := by decide +kernel
theorem dX11_lowerEnd_14 : decode cX11_lowerEnd 14 = .ok (.getfield 24, 3) := by decide +kernel
theorem dX11_lowerEnd_17 : decode cX11_lowerEnd 17 = .ok (.iload_n 1, 1) := by decide +kernel
theorem dX11_lowerEnd_18 : decode cX11_lowerEnd 18 = .ok (.invokevirtual 94, 3) := by decide +kernel
theorem dX11_lowerEnd_21 : decode cX11_lowerEnd 21 = .ok (.istore_n 3, 1) := by decide +kernel
theorem dX11_lowerEnd_22 : decode cX11_lowerEnd 22 = .ok (.aload_n 0, 1) := by decide +kernel
theorem dX11_lowerEnd_23 : decode cX11_lowerEnd 23 = .ok (.getfield 24, 3) := by decide +kernel
theorem dX11_lowerEnd_26 : decode cX11_lowerEnd 26 = .ok (.iload_n 1, 1) := by decide +kernel
theorem dX11_lowerEnd_27 : decode cX11_lowerEnd 27 = .ok (.invokevirtual 97, 3) := by decide +kernel
theorem dX11_lowerEnd_30 : decode cX11_lowerEnd 30 = .ok (.lookupswitch 36 #[(-1, 26), (1, 28)], 26) := by decide +kernel
theorem dX11_lowerEnd_56 : decode cX11_lowerEnd 56 = .ok (.iconst 0, 1) := by decide +kernel
theorem dX11_lowerEnd_57 : decode cX11_lowerEnd 57 = .ok (.ireturn, 1) := by decide +kernel
theorem dX11_lowerEnd_58 : decode cX11_lowerEnd 58 = .ok (.aload_n 2, 1) := by decide +kernel
theorem dX11_lowerEnd_59 : decode cX11_lowerEnd 59 = .ok (.iload_n 3, 1) := by decide +kernel
theorem dX11_lowerEnd_60 : decode cX11_lowerEnd 60 = .ok (.iconst 1, 1) := by decide +kernel
theorem dX11_lowerEnd_61 : decode cX11_lowerEnd 61 = .ok (.iadd, 1) := by decide +kernel
theorem dX11_lowerEnd_62 : decode cX11_lowerEnd 62 = .ok (.invokevirtual 100, 3) := by decide +kernel
theorem dX11_lowerEnd_65 : decode cX11_lowerEnd 65 = .ok (.ireturn, 1) := by decide +kernel
theorem dX11_lowerEnd_66 : decode cX11_lowerEnd 66 = .ok (.aload_n 2, 1) := by decide +kernel
theorem dX11_lowerEnd_67 : decode cX11_lowerEnd 67 = .ok (.iload_n 3, 1) := by decide +kernel
theorem dX11_lowerEnd_68 : decode cX11_lowerEnd 68 = .ok (.invokevirtual 100, 3) := by decide +kernel
theorem dX11_lowerEnd_71 : decode cX11_lowerEnd 71 = .ok (.ireturn, 1) := by decide +kernel
theorem dX11_upperEnd_0 : decode cX11_upperEnd 0 = .ok (.aload_n 0, 1) := by decide +kernel
theorem dX11_upperEnd_1 : decode cX11_upperEnd 1 = .ok (.aload_n 0, 1) := by decide +kernel
theorem dX11_upperEnd_2 : decode cX11_upperEnd 2 = .ok (.getfield 24, 3) := by decide +kernel
theorem dX11_upperEnd_5 : decode cX11_upperEnd 5 = .ok (.iload_n 1, 1) := by decide +kernel
theorem dX11_upperEnd_6 : decode cX11_upperEnd 6 = .ok (.invokevirtual 71, 3) := by decide +kernel
theorem dX11_upperEnd_9 : decode cX11_upperEnd 9 = .ok (.invokevirtual 91, 3) := by decide +kernel
theorem dX11_upperEnd_12 : decode cX11_upperEnd 12 = .ok (.astore_n 2, 1) := by decide +kernel
theorem dX11_upperEnd_13 : decode cX11_upperEnd 13 = .ok (.aload_n 0, 1) := by decide +kernel
theorem dX11_upperEnd_14 : decode cX11_upperEnd 14 = .ok (.getfield 24, 3) := by decide +kernel
theorem dX11_upperEnd_17 : decode cX11_upperEnd 17 = .ok (.iload_n 1, 1) := by decide +kernel
theorem dX11_upperEnd_18 : decode cX11_upperEnd 18 = .ok (.invokevirtual 94, 3) := by decide +kernel
theorem dX11_upperEnd_21 : decode cX11_upperEnd 21 = .ok (.istore_n 3, 1) := by decide +kernel
theorem dX11_upperEnd_22 : decode cX11_upperEnd 22 = .ok (.aload_n 0, 1) := by decide +kernel
theorem dX11_upperEnd_23 : decode cX11_upperEnd 23 = .ok (.getfield 24, 3) := by decide +kernel
theorem dX11_upperEnd_26 : decode cX11_upperEnd 26 = .ok (.iload_n 1, 1) := by decide +kernel
theorem dX11_upperEnd_27 : decode cX11_upperEnd 27 = .ok (.invokevirtual 97, 3) := by decide +kernel
theorem dX11_upperEnd_30 : decode cX11_upperEnd 30 = .ok (.lookupswitch 37 #[(-1, 26), (1, 32)], 26) := by decide +kernel
theorem dX11_upperEnd_56 : decode cX11_upperEnd 56 = .ok (.aload_n 2, 1) := by decide +kernel
theorem dX11_upperEnd_57 : decode cX11_upperEnd 57 = .ok (.iload_n 3, 1) := by decide +kernel
theorem dX11_upperEnd_58 : decode cX11_upperEnd 58 = .ok (.invokevirtual 100, 3) := by decide +kernel
theorem dX11_upperEnd_61 : decode cX11_upperEnd 61 = .ok (.ireturn, 1) := by decide +kernel
theorem dX11_upperEnd_62 : decode cX11_upperEnd 62 = .ok (.aload_n 2, 1) := by decide +kernel
theorem dX11_upperEnd_63 : decode cX11_upperEnd 63 = .ok (.invokevirtual 105, 3) := by decide +kernel
theorem dX11_upperEnd_66 : decode cX11_upperEnd 66 = .ok (.ireturn, 1) := by decide +kernel
theorem dX11_upperEnd_67 : decode cX11_upperEnd 67 = .ok (.aload_n 2, 1) := by decide +kernel
theorem dX11_upperEnd_68 : decode cX11_upperEnd 68 = .ok (.iload_n 3, 1) := by decide +kernel
theorem dX11_upperEnd_69 : decode cX11_upperEnd 69 = .ok (.iconst 1, 1) := by decide +kernel
theorem dX11_upperEnd_70 : decode cX11_upperEnd 70 = .ok (.iadd, 1) := by decide +kernel
theorem dX11_upperEnd_71 : decode cX11_upperEnd 71 = .ok (.invokevirtual 100, 3) := by decide +kernel
theorem dX11_upperEnd_74 : decode cX11_upperEnd 74 = .ok (.ireturn, 1) := by decide +kernel
theorem dX11_selectsByCode_0 : decode cX11_selectsByCode 0 = .ok (.iconst 0, 1) := by decide +kernel
theorem dX11_selectsByCode_1 : decode cX11_selectsByCode 1 = .ok (.istore_n 2, 1) := by decide +kernel
theorem dX11_selectsByCode_2 : decode cX11_selectsByCode 2 = .ok (.iload_n 2, 1) := by decide +kernel
theorem dX11_selectsByCode_3 : decode cX11_selectsByCode 3 = .ok (.aload_n 0, 1) := by decide +kernel
theorem dX11_selectsByCode_4 : decode cX11_selectsByCode 4 = .ok (.getfield 24, 3) := by decide +kernel
theorem dX11_selectsByCode_7 : decode cX11_selectsByCode 7 = .ok (.invokevirtual 85, 3) := by decide +kernel
theorem dX11_selectsByCode_10 : decode cX11_selectsByCode 10 = .ok (.if_icmp .ge 47, 3) := by decide +kernel
theorem dX11_selectsByCode_13 : decode cX11_selectsByCode 13 = .ok (.aload_n 0, 1) := by decide +kernel
theorem dX11_selectsByCode_14 : decode cX11_selectsByCode 14 = .ok (.getfield 11, 3) := by decide +kernel
theorem dX11_selectsByCode_17 : decode cX11_selectsByCode 17 = .ok (.aload_n 0, 1) := by decide +kernel
theorem dX11_selectsByCode_18 : decode cX11_selectsByCode 18 = .ok (.getfield 24, 3) := by decide +kernel
theorem dX11_selectsByCode_21 : decode cX11_selectsByCode 21 = .ok (.iload_n 2, 1) := by decide +kernel
theorem dX11_selectsByCode_22 : decode cX11_selectsByCode 22 = .ok (.invokevirtual 71, 3) := by decide +kernel
theorem dX11_selectsByCode_25 : decode cX11_selectsByCode 25 = .ok (.aaload, 1) := by decide +kernel
theorem dX11_selectsByCode_26 : decode cX11_selectsByCode 26 = .ok (.iload_n 1, 1) := by decide +kernel
theorem dX11_selectsByCode_27 : decode cX11_selectsByCode 27 = .ok (.invokevirtual 106, 3) := by decide +kernel
theorem dX11_selectsByCode_30 : decode cX11_selectsByCode 30 = .ok (.istore_n 3, 1) := by decide +kernel
theorem dX11_selectsByCode_31 : decode cX11_selectsByCode 31 = .ok (.iload_n 3, 1) := by decide +kernel
theorem dX11_selectsByCode_32 : decode cX11_selectsByCode 32 = .ok (.aload_n 0, 1) := by decide +kernel
theorem dX11_selectsByCode_33 : decode cX11_selectsByCode 33 = .ok (.iload_n 2, 1) := by decide +kernel
theorem dX11_selectsByCode_34 : decode cX11_selectsByCode 34 = .ok (.invokevirtual 109, 3) := by decide +kernel
theorem dX11_selectsByCode_37 : decode cX11_selectsByCode 37 = .ok (.if_icmp .lt 12, 3) := by decide +kernel
theorem dX11_selectsByCode_40 : decode cX11_selectsByCode 40 = .ok (.iload_n 3, 1) := by decide +kernel
theorem dX11_selectsByCode_41 : decode cX11_selectsByCode 41 = .ok (.aload_n 0, 1) := by decide +kernel
theorem dX11_selectsByCode_42 : decode cX11_selectsByCode 42 = .ok (.iload_n 2, 1) := by decide +kernel
theorem dX11_selectsByCode_43 : decode cX11_selectsByCode 43 = .ok (.invokevirtual 112, 3) := by decide +kernel
theorem dX11_selectsByCode_46 : decode cX11_selectsByCode 46 = .ok (.if_icmp .lt 5, 3) := by decide +kernel
theorem dX11_selectsByCode_49 : decode cX11_selectsByCode 49 = .ok (.iconst 0, 1) := by decide +kernel
theorem dX11_selectsByCode_50 : decode cX11_selectsByCode 50 = .ok (.ireturn, 1) := by decide +kernel
theorem dX11_selectsByCode_51 : decode cX11_selectsByCode 51 = .ok (.iinc 2 1, 3) := by decide +kernel
theorem dX11_selectsByCode_54 : decode cX11_selectsByCode 54 = .ok (.goto (-52), 3) := by decide +kernel
theorem dX11_selectsByCode_57 : decode cX11_selectsByCode 57 = .ok (.iconst 1, 1) := by decide +kernel
theorem dX11_selectsByCode_58 : decode cX11_selectsByCode 58 = .ok (.ireturn, 1) := by decide +kernel
theorem dX11_copyFrom_0 : decode cX11_copyFrom 0 = .ok (.aload_n 0, 1) := by decide +kernel
theorem dX11_copyFrom_1 : decode cX11_copyFrom 1 = .ok (.aload_n 1, 1) := by decide +kernel
theorem dX11_copyFrom_2 : decode cX11_copyFrom 2 = .ok (.getfield 17, 3) := by decide +kernel
theorem dX11_copyFrom_5 : decode cX11_copyFrom 5 = .ok (.putfield 17, 3) := by decide +kernel
theorem dX11_copyFrom_8 : decode cX11_copyFrom 8 = .ok (.iconst 0, 1) := by decide +kernel
theorem dX11_copyFrom_9 : decode cX11_copyFrom 9 = .ok (.istore_n 2, 1) := by decide +kernel
theorem dX11_copyFrom_10 : decode cX11_copyFrom 10 = .ok (.iload_n 2, 1) := by decide +kernel
theorem dX11_copyFrom_11 : decode cX11_copyFrom 11 = .ok (.aload_n 0, 1) := by decide +kernel
theorem dX11_copyFrom_12 : decode cX11_copyFrom 12 = .ok (.getfield 17, 3) := by decide +kernel
theorem dX11_copyFrom_15 : decode cX11_copyFrom 15 = .ok (.if_icmp .ge 24, 3) := by decide +kernel
theorem dX11_copyFrom_18 : decode cX11_copyFrom 18 = .ok (.aload_n 0, 1) := by decide +kernel
theorem dX11_copyFrom_19 : decode cX11_copyFrom 19 = .ok (.getfield 11, 3) := by decide +kernel
theorem dX11_copyFrom_22 : decode cX11_copyFrom 22 = .ok (.iload_n 2, 1) := by decide +kernel
theorem dX11_copyFrom_23 : decode cX11_copyFrom 23 = .ok (.aaload, 1) := by decide +kernel
theorem dX11_copyFrom_24 : decode cX11_copyFrom 24 = .ok (.aload_n 1, 1) := by decide +kernel
theorem dX11_copyFrom_25 : decode cX11_copyFrom 25 = .ok (.getfield 11, 3) := by decide +kernel
theorem dX11_copyFrom_28 : decode cX11_copyFrom 28 = .ok (.iload_n 2, 1) := by decide +kernel
theorem dX11_copyFrom_29 : decode cX11_copyFrom 29 = .ok (.aaload, 1) := by decide +kernel
theorem dX11_copyFrom_30 : decode cX11_copyFrom 30 = .ok (.invokevirtual 115, 3) := by decide +kernel
theorem dX11_copyFrom_33 : decode cX11_copyFrom 33 = .ok (.iinc 2 1, 3) := by decide +kernel
theorem dX11_copyFrom_36 : decode cX11_copyFrom 36 = .ok (.goto (-26), 3) := by decide +kernel
theorem dX11_copyFrom_39 : decode cX11_copyFrom 39 = .ok (.aload_n 0, 1) := by decide +kernel
theorem dX11_copyFrom_40 : decode cX11_copyFrom 40 = .ok (.getfield 24, 3) := by decide +kernel
theorem dX11_copyFrom_43 : decode cX11_copyFrom 43 = .ok (.aload_n 1, 1) := by decide +kernel
theorem dX11_copyFrom_44 : decode cX11_copyFrom 44 = .ok (.getfield 24, 3) := by decide +kernel
theorem dX11_copyFrom_47 : decode cX11_copyFrom 47 = .ok (.invokevirtual 119, 3) := by decide +kernel
theorem dX11_copyFrom_50 : decode cX11_copyFrom 50 = .ok (.return_, 1) := by decide +kernel
theorem dX12_init_0 : decode cX12_init 0 = .ok (.aload_n 0, 1) := by decide +kernel
theorem dX12_init_1 : decode cX12_init 1 = .ok (.invokespecial 1, 3) := by decide +kernel
theorem dX12_init_4 : decode cX12_init 4 = .ok (.aload_n 0, 1) := by decide +kernel
theorem dX12_init_5 : decode cX12_init 5 = .ok (.new 7, 3) := by decide +kernel
theorem dX12_init_8 : decode cX12_init 8 = .ok (.dup, 1) := by decide +kernel
theorem dX12_init_9 : decode cX12_init 9 = .ok (.invokespecial 9, 3) := by decide +kernel
theorem dX12_init_12 : decode cX12_init 12 = .ok (.putfield 10, 3) := by decide +kernel
theorem dX12_init_15 : decode cX12_init 15 = .ok (.aload_n 0, 1) := by decide +kernel
theorem dX12_init_16 : decode cX12_init 16 = .ok (.new 7, 3) := by decide +kernel
theorem dX12_init_19 : decode cX12_init 19 = .ok (.dup, 1) := by decide +kernel
theorem dX12_init_20 : decode cX12_init 20 = .ok (.invokespecial 9, 3) := by decide +kernel
theorem dX12_init_23 : decode cX12_init 23 = .ok (.putfield 16, 3) := by decide +kernel
theorem dX12_init_26 : decode cX12_init 26 = .ok (.aload_n 0, 1) := by decide +kernel
theorem dX12_init_27 : decode cX12_init 27 = .ok (.new 19, 3) := by decide +kernel
theorem dX12_init_30 : decode cX12_init 30 = .ok (.dup, 1) := by decide +kernel
theorem dX12_init_31 : decode cX12_init 31 = .ok (.invokespecial 21, 3) := by decide +kernel
theorem dX12_init_34 : decode cX12_init 34 = .ok (.putfield 22, 3) := by decide +kernel
theorem dX12_init_37 : decode cX12_init 37 = .ok (.aload_n 0, 1) := by decide +kernel
theorem dX12_init_38 : decode cX12_init 38 = .ok (.new 26, 3) := by decide +kernel
theorem dX12_init_41 : decode cX12_init 41 = .ok (.dup, 1) := by decide +kernel
theorem dX12_init_42 : decode cX12_init 42 = .ok (.invokespecial 28, 3) := by decide +kernel
theorem dX12_init_45 : decode cX12_init 45 = .ok (.putfield 29, 3) := by decide +kernel
theorem dX12_init_48 : decode cX12_init 48 = .ok (.aload_n 0, 1) := by decide +kernel
theorem dX12_init_49 : decode cX12_init 49 = .ok (.new 33, 3) := by decide +kernel
theorem dX12_init_52 : decode cX12_init 52 = .ok (.dup, 1) := by decide +kernel
theorem dX12_init_53 : decode cX12_init 53 = .ok (.aload_n 0, 1) := by decide +kernel
theorem dX12_init_54 : decode cX12_init 54 = .ok (.getfield 29, 3) := by decide +kernel
theorem dX12_init_57 : decode cX12_init 57 = .ok (.invokespecial 35, 3) := by decide +kernel
theorem dX12_init_60 : decode cX12_init 60 = .ok (.putfield 38, 3) := by decide +kernel
theorem dX12_init_63 : decode cX12_init 63 = .ok (.aload_n 0, 1) := by decide +kernel
theorem dX12_init_64 : decode cX12_init 64 = .ok (.bipush 36, 2) := by decide +kernel
theorem dX12_init_66 : decode cX12_init 66 = .ok (.newarray .byte, 2) := by decide +kernel
theorem dX12_init_68 : decode cX12_init 68 = .ok (.putfield 42, 3) := by decide +kernel
theorem dX12_init_71 : decode cX12_init 71 = .ok (.aload_n 0, 1) := by decide +kernel
theorem dX12_init_72 : decode cX12_init 72 = .ok (.new 46, 3) := by decide +kernel
theorem dX12_init_75 : decode cX12_init 75 = .ok (.dup, 1) := by decide +kernel
theorem dX12_init_76 : decode cX12_init 76 = .ok (.invokespecial 48, 3) := by decide +kernel
theorem dX12_init_79 : decode cX12_init 79 = .ok (.putfield 49, 3) := by decide +kernel
theorem dX12_init_82 : decode cX12_init 82 = .ok (.aload_n 0, 1) := by decide +kernel
theorem dX12_init_83 : decode cX12_init 83 = .ok (.new 53, 3) := by decide +kernel
theorem dX12_init_86 : decode cX12_init 86 = .ok (.dup, 1) := by decide +kernel
theorem dX12_init_87 : decode cX12_init 87 = .ok (.invokespecial 55, 3) := by decide +kernel
theorem dX12_init_90 : decode cX12_init 90 = .ok (.putfield 56, 3) := by decide +kernel
theorem dX12_init_93 : decode cX12_init 93 = .ok (.aload_n 0, 1) := by decide +kernel
theorem dX12_init_94 : decode cX12_init 94 = .ok (.new 60, 3) := by decide +kernel
theorem dX12_init_97 : decode cX12_init 97 = .ok (.dup, 1) := by decide +kernel
theorem dX12_init_98 : decode cX12_init 98 = .ok (.invokespecial 62, 3) := by decide +kernel
theorem dX12_init_101 : decode cX12_init 101 = .ok (.putfield 63, 3) := by decide +kernel
theorem dX12_init_104 : decode cX12_init 104 = .ok (.aload_n 0, 1) := by decide +kernel
theorem dX12_init_105 : decode cX12_init 105 = .ok (.getfield 10, 3) := by decide +kernel
theorem dX12_init_108 : decode cX12_init 108 = .ok (.iconst 3, 1) := by decide +kernel
theorem dX12_init_109 : decode cX12_init 109 = .ok (.bipush 6, 2) := by decide +kernel
theorem dX12_init_111 : decode cX12_init 111 = .ok (.getstatic 67, 3) := by decide +kernel
theorem dX12_init_114 : decode cX12_init 114 = .ok (.invokevirtual 71, 3) := by decide +kernel
theorem dX12_init_117 : decode cX12_init 117 = .ok (.return_, 1) := by decide +kernel
theorem dX12_appendText_0 : decode cX12_appendText 0 = .ok (.aload_n 0, 1) := by decide +kernel
theorem dX12_appendText_1 : decode cX12_appendText 1 = .ok (.getfield 29, 3) := by decide +kernel
theorem dX12_appendText_4 : decode cX12_appendText 4 = .ok (.invokevirtual 75, 3) := by decide +kernel
theorem dX12_appendText_7 : decode cX12_appendText 7 = .ok (.bipush 20, 2) := by decide +kernel
theorem dX12_appendText_9 : decode cX12_appendText 9 = .ok (.iadd, 1) := by decide +kernel
theorem dX12_appendText_10 : decode cX12_appendText 10 = .ok (.sipush 700, 3) := by decide +kernel
theorem dX12_appendText_13 : decode cX12_appendText 13 = .ok (.if_icmp .le 5, 3) := by decide +kernel
theorem dX12_appendText_16 : decode cX12_appendText 16 = .ok (.iconst (-1), 1) := by decide +kernel
theorem dX12_appendText_17 : decode cX12_appendText 17 = .ok (.ireturn, 1) := by decide +kernel
theorem dX12_appendText_18 : decode cX12_appendText 18 = .ok (.aload_n 0, 1) := by decide +kernel
theorem dX12_appendText_19 : decode cX12_appendText 19 = .ok (.getfield 29, 3) := by decide +kernel
theorem dX12_appendText_22 : decode cX12_appendText 22 = .ok (.iload_n 1, 1) := by decide +kernel
theorem dX12_appendText_23 : decode cX12_appendText 23 = .ok (.invokevirtual 79, 3) := by decide +kernel
theorem dX12_appendText_26 : decode cX12_appendText 26 = .ok (.aload_n 0, 1) := by decide +kernel
theorem dX12_appendText_27 : decode cX12_appendText 27 = .ok (.getfield 29, 3) := by decide +kernel
theorem dX12_appendText_30 : decode cX12_appendText 30 = .ok (.iload_n 2, 1) := by decide +kernel
theorem dX12_appendText_31 : decode cX12_appendText 31 = .ok (.invokevirtual 79, 3) := by decide +kernel
theorem dX12_appendText_34 : decode cX12_appendText 34 = .ok (.aload_n 0, 1) := by decide +kernel
theorem dX12_appendText_35 : decode cX12_appendText 35 = .ok (.getfield 29, 3) := by decide +kernel
theorem dX12_appendText_38 : decode cX12_appendText 38 = .ok (.iload_n 3, 1) := by decide +kernel
theorem dX12_appendText_39 : decode cX12_appendText 39 = .ok (.invokevirtual 79, 3) := by decide +kernel
theorem dX12_appendText_42 : decode cX12_appendText 42 = .ok (.aload_n 0, 1) := by decide +kernel
theorem dX12_appendText_43 : decode cX12_appendText 43 = .ok (.getfield 29, 3) := by decide +kernel
theorem dX12_appendText_46 : decode cX12_appendText 46 = .ok (.iload 4, 2) := by decide +kernel
theorem dX12_appendText_48 : decode cX12_appendText 48 = .ok (.invokevirtual 79, 3) := by decide +kernel
theorem dX12_appendText_51 : decode cX12_appendText 51 = .ok (.aload_n 0, 1) := by decide +kernel
theorem dX12_appendText_52 : decode cX12_appendText 52 = .ok (.getfield 29, 3) := by decide +kernel
theorem dX12_appendText_55 : decode cX12_appendText 55 = .ok (.iload 5, 2) := by decide +kernel
theorem dX12_appendText_57 : decode cX12_appendText 57 = .ok (.invokevirtual 79, 3) := by decide +kernel
theorem dX12_appendText_60 : decode cX12_appendText 60 = .ok (.aload_n 0, 1) := by decide +kernel
theorem dX12_appendText_61 : decode cX12_appendText 61 = .ok (.getfield 29, 3) := by decide +kernel
theorem dX12_appendText_64 : decode cX12_appendText 64 = .ok (.invokevirtual 75, 3) := by decide +kernel
theorem dX12_appendText_67 : decode cX12_appendText 67 = .ok (.ireturn, 1) := by decide +kernel
theorem dX12_loadTable_0 : decode cX12_loadTable 0 = .ok (.aload_n 0, 1) := by decide +kernel
theorem dX12_loadTable_1 : decode cX12_loadTable 1 = .ok (.iload_n 1, 1) := by decide +kernel
theorem dX12_loadTable_2 : decode cX12_loadTable 2 = .ok (.invokevirtual 83, 3) := by decide +kernel
theorem dX12_loadTable_5 : decode cX12_loadTable 5 = .ok (.aload_n 0, 1) := by decide +kernel
theorem dX12_loadTable_6 : decode cX12_loadTable 6 = .ok (.getfield 38, 3) := by decide +kernel
theorem dX12_loadTable_9 : decode cX12_loadTable 9 = .ok (.iload_n 1, 1) := by decide +kernel
theorem dX12_loadTable_10 : decode cX12_loadTable 10 = .ok (.invokevirtual 86, 3) := by decide +kernel
theorem dX12_loadTable_13 : decode cX12_loadTable 13 = .ok (.istore_n 2, 1) := by decide +kernel
theorem dX12_loadTable_14 : decode cX12_loadTable 14 = .ok (.aload_n 0, 1) := by decide +kernel
theorem dX12_loadTable_15 : decode cX12_loadTable 15 = .ok (.getfield 29, 3) := by decide +kernel
theorem dX12_loadTable_18 : decode cX12_loadTable 18 = .ok (.invokevirtual 90, 3) := by decide +kernel
theorem dX12_loadTable_21 : decode cX12_loadTable 21 = .ok (.iload_n 2, 1) := by decide +kernel
theorem dX12_loadTable_22 : decode cX12_loadTable 22 = .ok (.ifCond .ne 5, 3) := by decide +kernel
theorem dX12_loadTable_25 : decode cX12_loadTable 25 = .ok (.iconst (-1), 1) := by decide +kernel
theorem dX12_loadTable_26 : decode cX12_loadTable 26 = .ok (.ireturn, 1) := by decide +kernel
theorem dX12_loadTable_27 : decode cX12_loadTable 27 = .ok (.aload_n 0, 1) := by decide +kernel
theorem dX12_loadTable_28 : decode cX12_loadTable 28 = .ok (.getfield 10, 3) := by decide +kernel
theorem dX12_loadTable_31 : decode cX12_loadTable 31 = .ok (.aload_n 0, 1) := by decide +kernel
theorem dX12_loadTable_32 : decode cX12_loadTable 32 = .ok (.getfield 38, 3) := by decide +kernel
theorem dX12_loadTable_35 : decode cX12_loadTable 35 = .ok (.invokevirtual 93, 3) := by decide +kernel
theorem dX12_loadTable_38 : decode cX12_loadTable 38 = .ok (.aload_n 0, 1) := by decide +kernel
theorem dX12_loadTable_39 : decode cX12_loadTable 39 = .ok (.getfield 38, 3) := by decide +kernel
theorem dX12_loadTable_42 : decode cX12_loadTable 42 = .ok (.invokevirtual 96, 3) := by decide +kernel
theorem dX12_loadTable_45 : decode cX12_loadTable 45 = .ok (.aload_n 0, 1) := by decide +kernel
theorem dX12_loadTable_46 : decode cX12_loadTable 46 = .ok (.getfield 38, 3) := by decide +kernel
theorem dX12_loadTable_49 : decode cX12_loadTable 49 = .ok (.invokevirtual 99, 3) := by decide +kernel
theorem dX12_loadTable_52 : decode cX12_loadTable 52 = .ok (.invokevirtual 71, 3) := by decide +kernel
theorem dX12_loadTable_55 : decode cX12_loadTable 55 = .ok (.aload_n 0, 1) := by decide +kernel
theorem dX12_loadTable_56 : decode cX12_loadTable 56 = .ok (.getfield 22, 3) := by decide +kernel
theorem dX12_loadTable_59 : decode cX12_loadTable 59 = .ok (.invokevirtual 103, 3) := by decide +kernel
theorem dX12_loadTable_62 : decode cX12_loadTable 62 = .ok (.aload_n 0, 1) := by decide +kernel
theorem dX12_loadTable_63 : decode cX12_loadTable 63 = .ok (.iconst 0, 1) := by decide +kernel
theorem dX12_loadTable_64 : decode cX12_loadTable 64 = .ok (.putfield 104, 3) := by decide +kernel
theorem dX12_loadTable_67 : decode cX12_loadTable 67 = .ok (.aload_n 0, 1) := by decide +kernel
theorem dX12_loadTable_68 : decode cX12_loadTable 68 = .ok (.getfield 10, 3) := by decide +kernel
theorem dX12_loadTable_71 : decode cX12_loadTable 71 = .ok (.invokevirtual 108, 3) := by decide +kernel
theorem dX12_loadTable_74 : decode cX12_loadTable 74 = .ok (.ireturn, 1) := by decide +kernel
theorem dX12_columnCount_0 : decode cX12_columnCount 0 = .ok (.aload_n 0, 1) := by decide +kernel
theorem dX12_columnCount_1 : decode cX12_columnCount 1 = .ok (.getfield 10, 3) := by decide +kernel
theorem dX12_columnCount_4 : decode cX12_columnCount 4 = .ok (.invokevirtual 115, 3) := by decide +kernel
theorem dX12_columnCount_7 : decode cX12_columnCount 7 = .ok (.ireturn, 1) := by decide +kernel
theorem dX12_rowCount_0 : decode cX12_rowCount 0 = .ok (.aload_n 0, 1) := by decide +kernel
theorem dX12_rowCount_1 : decode cX12_rowCount 1 = .ok (.getfield 10, 3) := by decide +kernel
theorem dX12_rowCount_4 : decode cX12_rowCount 4 = .ok (.invokevirtual 108, 3) := by decide +kernel
theorem dX12_rowCount_7 : decode cX12_rowCount 7 = .ok (.ireturn, 1) := by decide +kernel
theorem dX12_value_0 : decode cX12_value 0 = .ok (.aload_n 0, 1) := by decide +kernel
theorem dX12_value_1 : decode cX12_value 1 = .ok (.iload_n 1, 1) := by decide +kernel
theorem dX12_value_2 : decode cX12_value 2 = .ok (.invokevirtual 116, 3) := by decide +kernel
theorem dX12_value_5 : decode cX12_value 5 = .ok (.aload_n 0, 1) := by decide +kernel
theorem dX12_value_6 : decode cX12_value 6 = .ok (.iload_n 2, 1) := by decide +kernel
theorem dX12_value_7 : decode cX12_value 7 = .ok (.invokevirtual 119, 3) := by decide +kernel
theorem dX12_value_10 : decode cX12_value 10 = .ok (.aload_n 0, 1) := by decide +kernel
theorem dX12_value_11 : decode cX12_value 11 = .ok (.getfield 10, 3) := by decide +kernel
theorem dX12_value_14 : decode cX12_value 14 = .ok (.iload_n 1, 1) := by decide +kernel
theorem dX12_value_15 : decode cX12_value 15 = .ok (.invokevirtual 122, 3) := by decide +kernel
theorem dX12_value_18 : decode cX12_value 18 = .ok (.iload_n 2, 1) := by decide +kernel
theorem dX12_value_19 : decode cX12_value 19 = .ok (.invokevirtual 126, 3) := by decide +kernel
theorem dX12_value_22 : decode cX12_value 22 = .ok (.ireturn, 1) := by decide +kernel
theorem dX12_code_0 : decode cX12_code 0 = .ok (.aload_n 0, 1) := by decide +kernel
theorem dX12_code_1 : decode cX12_code 1 = .ok (.iload_n 1, 1) := by decide +kernel
theorem dX12_code_2 : decode cX12_code 2 = .ok (.invokevirtual 116, 3) := by decide +kernel
theorem dX12_code_5 : decode cX12_code 5 = .ok (.aload_n 0, 1) := by decide +kernel
theorem dX12_code_6 : decode cX12_code 6 = .ok (.iload_n 2, 1) := by decide +kernel
theorem dX12_code_7 : decode cX12_code 7 = .ok (.invokevirtual 119, 3) := by decide +kernel
theorem dX12_code_10 : decode cX12_code 10 = .ok (.aload_n 0, 1) := by decide +kernel
theorem dX12_code_11 : decode cX12_code 11 = .ok (.getfield 10, 3) := by decide +kernel
theorem dX12_code_14 : decode cX12_code 14 = .ok (.iload_n 1, 1) := by decide +kernel
theorem dX12_code_15 : decode cX12_code 15 = .ok (.invokevirtual 122, 3) := by decide +kernel
theorem dX12_code_18 : decode cX12_code 18 = .ok (.iload_n 2, 1) := by decide +kernel
theorem dX12_code_19 : decode cX12_code 19 = .ok (.invokevirtual 132, 3) := by decide +kernel
theorem dX12_code_22 : decode cX12_code 22 = .ok (.ireturn, 1) := by decide +kernel
theorem dX12_dictionarySize_0 : decode cX12_dictionarySize 0 = .ok (.aload_n 0, 1) := by decide +kernel
theorem dX12_dictionarySize_1 : decode cX12_dictionarySize 1 = .ok (.iload_n 1, 1) := by decide +kernel
theorem dX12_dictionarySize_2 : decode cX12_dictionarySize 2 = .ok (.invokevirtual 116, 3) := by decide +kernel
theorem dX12_dictionarySize_5 : decode cX12_dictionarySize 5 = .ok (.aload_n 0, 1) := by decide +kernel
theorem dX12_dictionarySize_6 : decode cX12_dictionarySize 6 = .ok (.getfield 10, 3) := by decide +kernel
theorem dX12_dictionarySize_9 : decode cX12_dictionarySize 9 = .ok (.iload_n 1, 1) := by decide +kernel
theorem dX12_dictionarySize_10 : decode cX12_dictionarySize 10 = .ok (.invokevirtual 135, 3) := by decide +kernel
theorem dX12_dictionarySize_13 : decode cX12_dictionarySize 13 = .ok (.invokevirtual 139, 3) := by decide +kernel
theorem dX12_dictionarySize_16 : decode cX12_dictionarySize 16 = .ok (.ireturn, 1) := by decide +kernel
theorem dX12_dictionaryValue_0 : decode cX12_dictionaryValue 0 = .ok (.aload_n 0, 1) := by decide +kernel
theorem dX12_dictionaryValue_1 : decode cX12_dictionaryValue 1 = .ok (.iload_n 1, 1) := by decide +kernel
theorem dX12_dictionaryValue_2 : decode cX12_dictionaryValue 2 = .ok (.invokevirtual 116, 3) := by decide +kernel
theorem dX12_dictionaryValue_5 : decode cX12_dictionaryValue 5 = .ok (.aload_n 0, 1) := by decide +kernel
theorem dX12_dictionaryValue_6 : decode cX12_dictionaryValue 6 = .ok (.iload_n 1, 1) := by decide +kernel
theorem dX12_dictionaryValue_7 : decode cX12_dictionaryValue 7 = .ok (.iload_n 2, 1) := by decide +kernel
theorem dX12_dictionaryValue_8 : decode cX12_dictionaryValue 8 = .ok (.invokevirtual 140, 3) := by decide +kernel
theorem dX12_dictionaryValue_11 : decode cX12_dictionaryValue 11 = .ok (.aload_n 0, 1) := by decide +kernel
theorem dX12_dictionaryValue_12 : decode cX12_dictionaryValue 12 = .ok (.getfield 10, 3) := by decide +kernel
theorem dX12_dictionaryValue_15 : decode cX12_dictionaryValue 15 = .ok (.iload_n 1, 1) := by decide +kernel
theorem dX12_dictionaryValue_16 : decode cX12_dictionaryValue 16 = .ok (.invokevirtual 135, 3) := by decide +kernel
theorem dX12_dictionaryValue_19 : decode cX12_dictionaryValue 19 = .ok (.iload_n 2, 1) := by decide +kernel
theorem dX12_dictionaryValue_20 : decode cX12_dictionaryValue 20 = .ok (.invokevirtual 144, 3) := by decide +kernel
theorem dX12_dictionaryValue_23 : decode cX12_dictionaryValue 23 = .ok (.ireturn, 1) := by decide +kernel
theorem dX12_findCode_0 : decode cX12_findCode 0 = .ok (.aload_n 0, 1) := by decide +kernel
theorem dX12_findCode_1 : decode cX12_findCode 1 = .ok (.iload_n 1, 1) := by decide +kernel
theorem dX12_findCode_2 : decode cX12_findCode 2 = .ok (.invokevirtual 116, 3) := by decide +kernel
theorem dX12_findCode_5 : decode cX12_findCode 5 = .ok (.aload_n 0, 1) := by decide +kernel
theorem dX12_findCode_6 : decode cX12_findCode 6 = .ok (.getfield 10, 3) := by decide +kernel
theorem dX12_findCode_9 : decode cX12_findCode 9 = .ok (.iload_n 1, 1) := by decide +kernel
theorem dX12_findCode_10 : decode cX12_findCode 10 = .ok (.invokevirtual 135, 3) := by decide +kernel
theorem dX12_findCode_13 : decode cX12_findCode 13 = .ok (.iload_n 2, 1) := by decide +kernel
theorem dX12_findCode_14 : decode cX12_findCode 14 = .ok (.invokevirtual 147, 3) := by decide +kernel
theorem dX12_findCode_17 : decode cX12_findCode 17 = .ok (.ireturn, 1) := by decide +kernel
theorem dX12_staleCount_0 : decode cX12_staleCount 0 = .ok (.aload_n 0, 1) := by decide +kernel
theorem dX12_staleCount_1 : decode cX12_staleCount 1 = .ok (.iload_n 1, 1) := by decide +kernel
theorem dX12_staleCount_2 : decode cX12_staleCount 2 = .ok (.invokevirtual 116, 3) := by decide +kernel
theorem dX12_staleCount_5 : decode cX12_staleCount 5 = .ok (.aload_n 0, 1) := by decide +kernel
theorem dX12_staleCount_6 : decode cX12_staleCount 6 = .ok (.getfield 10, 3) := by decide +kernel
theorem dX12_staleCount_9 : decode cX12_staleCount 9 = .ok (.iload_n 1, 1) := by decide +kernel
theorem dX12_staleCount_10 : decode cX12_staleCount 10 = .ok (.invokevirtual 122, 3) := by decide +kernel
theorem dX12_staleCount_13 : decode cX12_staleCount 13 = .ok (.aload_n 0, 1) := by decide +kernel
theorem dX12_staleCount_14 : decode cX12_staleCount 14 = .ok (.getfield 56, 3) := by decide +kernel
theorem dX12_staleCount_17 : decode cX12_staleCount 17 = .ok (.invokevirtual 150, 3) := by decide +kernel
theorem dX12_staleCount_20 : decode cX12_staleCount 20 = .ok (.aload_n 0, 1) := by decide +kernel
theorem dX12_staleCount_21 : decode cX12_staleCount 21 = .ok (.getfield 10, 3) := by decide +kernel
theorem dX12_staleCount_24 : decode cX12_staleCount 24 = .ok (.iload_n 1, 1) := by decide +kernel
theorem dX12_staleCount_25 : decode cX12_staleCount 25 = .ok (.invokevirtual 135, 3) := by decide +kernel
theorem dX12_staleCount_28 : decode cX12_staleCount 28 = .ok (.invokevirtual 139, 3) := by decide +kernel
theorem dX12_staleCount_31 : decode cX12_staleCount 31 = .ok (.aload_n 0, 1) := by decide +kernel
theorem dX12_staleCount_32 : decode cX12_staleCount 32 = .ok (.getfield 56, 3) := by decide +kernel
theorem dX12_staleCount_35 : decode cX12_staleCount 35 = .ok (.invokevirtual 139, 3) := by decide +kernel
theorem dX12_staleCount_38 : decode cX12_staleCount 38 = .ok (.isub, 1) := by decide +kernel
theorem dX12_staleCount_39 : decode cX12_staleCount 39 = .ok (.ireturn, 1) := by decide +kernel
theorem dX12_frequency_0 : decode cX12_frequency 0 = .ok (.aload_n 0, 1) := by decide +kernel
theorem dX12_frequency_1 : decode cX12_frequency 1 = .ok (.iload_n 1, 1) := by decide +kernel
theorem dX12_frequency_2 : decode cX12_frequency 2 = .ok (.invokevirtual 116, 3) := by decide +kernel
theorem dX12_frequency_5 : decode cX12_frequency 5 = .ok (.aload_n 0, 1) := by decide +kernel
theorem dX12_frequency_6 : decode cX12_frequency 6 = .ok (.iload_n 1, 1) := by decide +kernel
theorem dX12_frequency_7 : decode cX12_frequency 7 = .ok (.iload_n 2, 1) := by decide +kernel
theorem dX12_frequency_8 : decode cX12_frequency 8 = .ok (.invokevirtual 140, 3) := by decide +kernel
theorem dX12_frequency_11 : decode cX12_frequency 11 = .ok (.aload_n 0, 1) := by decide +kernel
theorem dX12_frequency_12 : decode cX12_frequency 12 = .ok (.getfield 10, 3) := by decide +kernel
theorem dX12_frequency_15 : decode cX12_frequency 15 = .ok (.iload_n 1, 1) := by decide +kernel
theorem dX12_frequency_16 : decode cX12_frequency 16 = .ok (.invokevirtual 122, 3) := by decide +kernel
theorem dX12_frequency_19 : decode cX12_frequency 19 = .ok (.aload_n 0, 1) := by decide +kernel
theorem dX12_frequency_20 : decode cX12_frequency 20 = .ok (.getfield 10, 3) := by decide +kernel
theorem dX12_frequency_23 : decode cX12_frequency 23 = .ok (.iload_n 1, 1) := by decide +kernel
theorem dX12_frequency_24 : decode cX12_frequency 24 = .ok (.invokevirtual 135, 3) := by decide +kernel
theorem dX12_frequency_27 : decode cX12_frequency 27 = .ok (.iload_n 2, 1) := by decide +kernel
theorem dX12_frequency_28 : decode cX12_frequency 28 = .ok (.invokevirtual 144, 3) := by decide +kernel
theorem dX12_frequency_31 : decode cX12_frequency 31 = .ok (.invokevirtual 154, 3) := by decide +kernel
theorem dX12_frequency_34 : decode cX12_frequency 34 = .ok (.ireturn, 1) := by decide +kernel
theorem dX12_commonestCode_0 : decode cX12_commonestCode 0 = .ok (.aload_n 0, 1) := by decide +kernel
theorem dX12_commonestCode_1 : decode cX12_commonestCode 1 = .ok (.iload_n 1, 1) := by decide +kernel
theorem dX12_commonestCode_2 : decode cX12_commonestCode 2 = .ok (.invokevirtual 116, 3) := by decide +kernel
theorem dX12_commonestCode_5 : decode cX12_commonestCode 5 = .ok (.aload_n 0, 1) := by decide +kernel
theorem dX12_commonestCode_6 : decode cX12_commonestCode 6 = .ok (.getfield 10, 3) := by decide +kernel
theorem dX12_commonestCode_9 : decode cX12_commonestCode 9 = .ok (.iload_n 1, 1) := by decide +kernel
theorem dX12_commonestCode_10 : decode cX12_commonestCode 10 = .ok (.invokevirtual 122, 3) := by decide +kernel
theorem dX12_commonestCode_13 : decode cX12_commonestCode 13 = .ok (.invokevirtual 157, 3) := by decide +kernel
theorem dX12_commonestCode_16 : decode cX12_commonestCode 16 = .ok (.ireturn, 1) := by decide +kernel
theorem dX12_bitWidth_0 : decode cX12_bitWidth 0 = .ok (.aload_n 0, 1) := by decide +kernel
theorem dX12_bitWidth_1 : decode cX12_bitWidth 1 = .ok (.iload_n 1, 1) := by decide +kernel
theorem dX12_bitWidth_2 : decode cX12_bitWidth 2 = .ok (.invokevirtual 116, 3) := by decide +kernel
theorem dX12_bitWidth_5 : decode cX12_bitWidth 5 = .ok (.aload_n 0, 1) := by decide +kernel
theorem dX12_bitWidth_6 : decode cX12_bitWidth 6 = .ok (.getfield 10, 3) := by decide +kernel
theorem dX12_bitWidth_9 : decode cX12_bitWidth 9 = .ok (.iload_n 1, 1) := by decide +kernel
theorem dX12_bitWidth_10 : decode cX12_bitWidth 10 = .ok (.invokevirtual 135, 3) := by decide +kernel
theorem dX12_bitWidth_13 : decode cX12_bitWidth 13 = .ok (.invokevirtual 160, 3) := by decide +kernel
theorem dX12_bitWidth_16 : decode cX12_bitWidth 16 = .ok (.ireturn, 1) := by decide +kernel
theorem dX12_wordCount_0 : decode cX12_wordCount 0 = .ok (.aload_n 0, 1) := by decide +kernel
theorem dX12_wordCount_1 : decode cX12_wordCount 1 = .ok (.iload_n 1, 1) := by decide +kernel
theorem dX12_wordCount_2 : decode cX12_wordCount 2 = .ok (.invokevirtual 116, 3) := by decide +kernel
theorem dX12_wordCount_5 : decode cX12_wordCount 5 = .ok (.aload_n 0, 1) := by decide +kernel
theorem dX12_wordCount_6 : decode cX12_wordCount 6 = .ok (.iload_n 1, 1) := by decide +kernel
theorem dX12_wordCount_7 : decode cX12_wordCount 7 = .ok (.invokevirtual 163, 3) := by decide +kernel
theorem dX12_wordCount_10 : decode cX12_wordCount 10 = .ok (.ireturn, 1) := by decide +kernel
theorem dX12_packedWord_0 : decode cX12_packedWord 0 = .ok (.aload_n 0, 1) := by decide +kernel
theorem dX12_packedWord_1 : decode cX12_packedWord 1 = .ok (.iload_n 1, 1) := by decide +kernel
theorem dX12_packedWord_2 : decode cX12_packedWord 2 = .ok (.invokevirtual 116, 3) := by decide +kernel
theorem dX12_packedWord_5 : decode cX12_packedWord 5 = .ok (.iload_n 2, 1) := by decide +kernel
theorem dX12_packedWord_6 : decode cX12_packedWord 6 = .ok (.ifCond .lt 12, 3) := by decide +kernel
theorem dX12_packedWord_9 : decode cX12_packedWord 9 = .ok (.iload_n 2, 1) := by decide +kernel
theorem dX12_packedWord_10 : decode cX12_packedWord 10 = .ok (.aload_n 0, 1) := by decide +kernel
theorem dX12_packedWord_11 : decode cX12_packedWord 11 = .ok (.iload_n 1, 1) := by decide +kernel
theorem dX12_packedWord_12 : decode cX12_packedWord 12 = .ok (.invokevirtual 163, 3) := by decide +kernel
theorem dX12_packedWord_15 : decode cX12_packedWord 15 = .ok (.if_icmp .lt 13, 3) := by decide +kernel
theorem dX12_packedWord_18 : decode cX12_packedWord 18 = .ok (.new 166, 3) := by decide +kernel
theorem dX12_packedWord_21 : decode cX12_packedWord 21 = .ok (.dup, 1) := by decide +kernel
theorem dX12_packedWord_22 : decode cX12_packedWord 22 = .ok (.ldc 168, 2) := by decide +kernel
theorem dX12_packedWord_24 : decode cX12_packedWord 24 = .ok (.invokespecial 170, 3) := by decide +kernel
theorem dX12_packedWord_27 : decode cX12_packedWord 27 = .ok (.athrow, 1) := by decide +kernel
theorem dX12_packedWord_28 : decode cX12_packedWord 28 = .ok (.aload_n 0, 1) := by decide +kernel
theorem dX12_packedWord_29 : decode cX12_packedWord 29 = .ok (.getfield 63, 3) := by decide +kernel
theorem dX12_packedWord_32 : decode cX12_packedWord 32 = .ok (.aload_n 0, 1) := by decide +kernel
theorem dX12_packedWord_33 : decode cX12_packedWord 33 = .ok (.getfield 10, 3) := by decide +kernel
theorem dX12_packedWord_36 : decode cX12_packedWord 36 = .ok (.iload_n 1, 1) := by decide +kernel
theorem dX12_packedWord_37 : decode cX12_packedWord 37 = .ok (.invokevirtual 122, 3) := by decide +kernel
theorem dX12_packedWord_40 : decode cX12_packedWord 40 = .ok (.invokevirtual 173, 3) := by decide +kernel
theorem dX12_packedWord_43 : decode cX12_packedWord 43 = .ok (.aload_n 0, 1) := by decide +kernel
theorem dX12_packedWord_44 : decode cX12_packedWord 44 = .ok (.getfield 63, 3) := by decide +kernel
theorem dX12_packedWord_47 : decode cX12_packedWord 47 = .ok (.iload_n 2, 1) := by decide +kernel
theorem dX12_packedWord_48 : decode cX12_packedWord 48 = .ok (.invokevirtual 177, 3) := by decide +kernel
theorem dX12_packedWord_51 : decode cX12_packedWord 51 = .ok (.lreturn, 1) := by decide +kernel
theorem dX12_packedBits_0 : decode cX12_packedBits 0 = .ok (.iconst 0, 1) := by decide +kernel
theorem dX12_packedBits_1 : decode cX12_packedBits 1 = .ok (.istore_n 1, 1) := by decide +kernel
theorem dX12_packedBits_2 : decode cX12_packedBits 2 = .ok (.iconst 0, 1) := by decide +kernel
theorem dX12_packedBits_3 : decode cX12_packedBits 3 = .ok (.istore_n 2, 1) := by decide +kernel
theorem dX12_packedBits_4 : decode cX12_packedBits 4 = .ok (.iload_n 2, 1) := by decide +kernel
theorem dX12_packedBits_5 : decode cX12_packedBits 5 = .ok (.aload_n 0, 1) := by decide +kernel
theorem dX12_packedBits_6 : decode cX12_packedBits 6 = .ok (.getfield 10, 3) := by decide +kernel
theorem dX12_packedBits_9 : decode cX12_packedBits 9 = .ok (.invokevirtual 115, 3) := by decide +kernel
theorem dX12_packedBits_12 : decode cX12_packedBits 12 = .ok (.if_icmp .ge 23, 3) := by decide +kernel
theorem dX12_packedBits_15 : decode cX12_packedBits 15 = .ok (.iload_n 1, 1) := by decide +kernel
theorem dX12_packedBits_16 : decode cX12_packedBits 16 = .ok (.aload_n 0, 1) := by decide +kernel
theorem dX12_packedBits_17 : decode cX12_packedBits 17 = .ok (.getfield 10, 3) := by decide +kernel
theorem dX12_packedBits_20 : decode cX12_packedBits 20 = .ok (.iload_n 2, 1) := by decide +kernel
theorem dX12_packedBits_21 : decode cX12_packedBits 21 = .ok (.invokevirtual 135, 3) := by decide +kernel
theorem dX12_packedBits_24 : decode cX12_packedBits 24 = .ok (.invokevirtual 160, 3) := by decide +kernel
theorem dX12_packedBits_27 : decode cX12_packedBits 27 = .ok (.iadd, 1) := by decide +kernel
theorem dX12_packedBits_28 : decode cX12_packedBits 28 = .ok (.istore_n 1, 1) := by decide +kernel
theorem dX12_packedBits_29 : decode cX12_packedBits 29 = .ok (.iinc 2 1, 3) := by decide +kernel
theorem dX12_packedBits_32 : decode cX12_packedBits 32 = .ok (.goto (-28), 3) := by decide +kernel
theorem dX12_packedBits_35 : decode cX12_packedBits 35 = .ok (.iload_n 1, 1) := by decide +kernel
theorem dX12_packedBits_36 : decode cX12_packedBits 36 = .ok (.aload_n 0, 1) := by decide +kernel
theorem dX12_packedBits_37 : decode cX12_packedBits 37 = .ok (.getfield 10, 3) := by decide +kernel
theorem dX12_packedBits_40 : decode cX12_packedBits 40 = .ok (.invokevirtual 108, 3) := by decide +kernel
theorem dX12_packedBits_43 : decode cX12_packedBits 43 = .ok (.imul, 1) := by decide +kernel
theorem dX12_packedBits_44 : decode cX12_packedBits 44 = .ok (.ireturn, 1) := by decide +kernel
theorem dX12_runCount_0 : decode cX12_runCount 0 = .ok (.aload_n 0, 1) := by decide +kernel
theorem dX12_runCount_1 : decode cX12_runCount 1 = .ok (.iload_n 1, 1) := by decide +kernel
theorem dX12_runCount_2 : decode cX12_runCount 2 = .ok (.invokevirtual 116, 3) := by decide +kernel
theorem dX12_runCount_5 : decode cX12_runCount 5 = .ok (.aload_n 0, 1) := by decide +kernel
theorem dX12_runCount_6 : decode cX12_runCount 6 = .ok (.getfield 49, 3) := by decide +kernel
theorem dX12_runCount_9 : decode cX12_runCount 9 = .ok (.aload_n 0, 1) := by decide +kernel
theorem dX12_runCount_10 : decode cX12_runCount 10 = .ok (.getfield 10, 3) := by decide +kernel
theorem dX12_runCount_13 : decode cX12_runCount 13 = .ok (.invokevirtual 108, 3) := by decide +kernel
theorem dX12_runCount_16 : decode cX12_runCount 16 = .ok (.invokevirtual 184, 3) := by decide +kernel
theorem dX12_runCount_19 : decode cX12_runCount 19 = .ok (.aload_n 0, 1) := by decide +kernel
theorem dX12_runCount_20 : decode cX12_runCount 20 = .ok (.getfield 10, 3) := by decide +kernel
theorem dX12_runCount_23 : decode cX12_runCount 23 = .ok (.iload_n 1, 1) := by decide +kernel
theorem dX12_runCount_24 : decode cX12_runCount 24 = .ok (.invokevirtual 122, 3) := by decide +kernel
theorem dX12_runCount_27 : decode cX12_runCount 27 = .ok (.aload_n 0, 1) := by decide +kernel
theorem dX12_runCount_28 : decode cX12_runCount 28 = .ok (.getfield 49, 3) := by decide +kernel
theorem dX12_runCount_31 : decode cX12_runCount 31 = .ok (.invokevirtual 187, 3) := by decide +kernel
theorem dX12_runCount_34 : decode cX12_runCount 34 = .ok (.ireturn, 1) := by decide +kernel
theorem dX12_longestRun_0 : decode cX12_longestRun 0 = .ok (.aload_n 0, 1) := by decide +kernel
theorem dX12_longestRun_1 : decode cX12_longestRun 1 = .ok (.iload_n 1, 1) := by decide +kernel
theorem dX12_longestRun_2 : decode cX12_longestRun 2 = .ok (.invokevirtual 116, 3) := by decide +kernel
theorem dX12_longestRun_5 : decode cX12_longestRun 5 = .ok (.aload_n 0, 1) := by decide +kernel
theorem dX12_longestRun_6 : decode cX12_longestRun 6 = .ok (.getfield 10, 3) := by decide +kernel
theorem dX12_longestRun_9 : decode cX12_longestRun 9 = .ok (.iload_n 1, 1) := by decide +kernel
theorem dX12_longestRun_10 : decode cX12_longestRun 10 = .ok (.invokevirtual 122, 3) := by decide +kernel
theorem dX12_longestRun_13 : decode cX12_longestRun 13 = .ok (.invokevirtual 191, 3) := by decide +kernel
theorem dX12_longestRun_16 : decode cX12_longestRun 16 = .ok (.ireturn, 1) := by decide +kernel
theorem dX12_isSorted_0 : decode cX12_isSorted 0 = .ok (.aload_n 0, 1) := by decide +kernel
theorem dX12_isSorted_1 : decode cX12_isSorted 1 = .ok (.iload_n 1, 1) := by decide +kernel
theorem dX12_isSorted_2 : decode cX12_isSorted 2 = .ok (.invokevirtual 116, 3) := by decide +kernel
theorem dX12_isSorted_5 : decode cX12_isSorted 5 = .ok (.aload_n 0, 1) := by decide +kernel
theorem dX12_isSorted_6 : decode cX12_isSorted 6 = .ok (.getfield 10, 3) := by decide +kernel
theorem dX12_isSorted_9 : decode cX12_isSorted 9 = .ok (.iload_n 1, 1) := by decide +kernel
theorem dX12_isSorted_10 : decode cX12_isSorted 10 = .ok (.invokevirtual 122, 3) := by decide +kernel
theorem dX12_isSorted_13 : decode cX12_isSorted 13 = .ok (.invokevirtual 194, 3) := by decide +kernel
theorem dX12_isSorted_16 : decode cX12_isSorted 16 = .ok (.ireturn, 1) := by decide +kernel
theorem dX12_conditionCount_0 : decode cX12_conditionCount 0 = .ok (.aload_n 0, 1) := by decide +kernel
theorem dX12_conditionCount_1 : decode cX12_conditionCount 1 = .ok (.getfield 10, 3) := by decide +kernel
theorem dX12_conditionCount_4 : decode cX12_conditionCount 4 = .ok (.invokevirtual 198, 3) := by decide +kernel
theorem dX12_conditionCount_7 : decode cX12_conditionCount 7 = .ok (.invokevirtual 202, 3) := by decide +kernel
theorem dX12_conditionCount_10 : decode cX12_conditionCount 10 = .ok (.ireturn, 1) := by decide +kernel
theorem dX12_conditionColumn_0 : decode cX12_conditionColumn 0 = .ok (.aload_n 0, 1) := by decide +kernel
theorem dX12_conditionColumn_1 : decode cX12_conditionColumn 1 = .ok (.iload_n 1, 1) := by decide +kernel
theorem dX12_conditionColumn_2 : decode cX12_conditionColumn 2 = .ok (.invokevirtual 205, 3) := by decide +kernel
theorem dX12_conditionColumn_5 : decode cX12_conditionColumn 5 = .ok (.aload_n 0, 1) := by decide +kernel
theorem dX12_conditionColumn_6 : decode cX12_conditionColumn 6 = .ok (.getfield 10, 3) := by decide +kernel
theorem dX12_conditionColumn_9 : decode cX12_conditionColumn 9 = .ok (.invokevirtual 198, 3) := by decide +kernel
theorem dX12_conditionColumn_12 : decode cX12_conditionColumn 12 = .ok (.iload_n 1, 1) := by decide +kernel
theorem dX12_conditionColumn_13 : decode cX12_conditionColumn 13 = .ok (.invokevirtual 208, 3) := by decide +kernel
theorem dX12_conditionColumn_16 : decode cX12_conditionColumn 16 = .ok (.ireturn, 1) := by decide +kernel
theorem dX12_conditionValue_0 : decode cX12_conditionValue 0 = .ok (.aload_n 0, 1) := by decide +kernel
theorem dX12_conditionValue_1 : decode cX12_conditionValue 1 = .ok (.iload_n 1, 1) := by decide +kernel
theorem dX12_conditionValue_2 : decode cX12_conditionValue 2 = .ok (.invokevirtual 205, 3) := by decide +kernel
theorem dX12_conditionValue_5 : decode cX12_conditionValue 5 = .ok (.aload_n 0, 1) := by decide +kernel
theorem dX12_conditionValue_6 : decode cX12_conditionValue 6 = .ok (.getfield 10, 3) := by decide +kernel
theorem dX12_conditionValue_9 : decode cX12_conditionValue 9 = .ok (.invokevirtual 198, 3) := by decide +kernel
theorem dX12_conditionValue_12 : decode cX12_conditionValue 12 = .ok (.iload_n 1, 1) := by decide +kernel
theorem dX12_conditionValue_13 : decode cX12_conditionValue 13 = .ok (.invokevirtual 211, 3) := by decide +kernel
theorem dX12_conditionValue_16 : decode cX12_conditionValue 16 = .ok (.ireturn, 1) := by decide +kernel
theorem dX12_conditionDirection_0 : decode cX12_conditionDirection 0 = .ok (.aload_n 0, 1) := by decide +kernel
theorem dX12_conditionDirection_1 : decode cX12_conditionDirection 1 = .ok (.iload_n 1, 1) := by decide +kernel
theorem dX12_conditionDirection_2 : decode cX12_conditionDirection 2 = .ok (.invokevirtual 205, 3) := by decide +kernel
theorem dX12_conditionDirection_5 : decode cX12_conditionDirection 5 = .ok (.aload_n 0, 1) := by decide +kernel
theorem dX12_conditionDirection_6 : decode cX12_conditionDirection 6 = .ok (.getfield 10, 3) := by decide +kernel
theorem dX12_conditionDirection_9 : decode cX12_conditionDirection 9 = .ok (.invokevirtual 198, 3) := by decide +kernel
theorem dX12_conditionDirection_12 : decode cX12_conditionDirection 12 = .ok (.iload_n 1, 1) := by decide +kernel
theorem dX12_conditionDirection_13 : decode cX12_conditionDirection 13 = .ok (.invokevirtual 214, 3) := by decide +kernel
theorem dX12_conditionDirection_16 : decode cX12_conditionDirection 16 = .ok (.ireturn, 1) := by decide +kernel
theorem dX12_lowerCode_0 : decode cX12_lowerCode 0 = .ok (.aload_n 0, 1) := by decide +kernel
theorem dX12_lowerCode_1 : decode cX12_lowerCode 1 = .ok (.iload_n 1, 1) := by decide +kernel
theorem dX12_lowerCode_2 : decode cX12_lowerCode 2 = .ok (.invokevirtual 205, 3) := by decide +kernel
theorem dX12_lowerCode_5 : decode cX12_lowerCode 5 = .ok (.aload_n 0, 1) := by decide +kernel
theorem dX12_lowerCode_6 : decode cX12_lowerCode 6 = .ok (.getfield 10, 3) := by decide +kernel
theorem dX12_lowerCode_9 : decode cX12_lowerCode 9 = .ok (.iload_n 1, 1) := by decide +kernel
theorem dX12_lowerCode_10 : decode cX12_lowerCode 10 = .ok (.invokevirtual 217, 3) := by decide +kernel
theorem dX12_lowerCode_13 : decode cX12_lowerCode 13 = .ok (.ireturn, 1) := by decide +kernel
theorem dX12_upperCode_0 : decode cX12_upperCode 0 = .ok (.aload_n 0, 1) := by decide +kernel
theorem dX12_upperCode_1 : decode cX12_upperCode 1 = .ok (.iload_n 1, 1) := by decide +kernel
theorem dX12_upperCode_2 : decode cX12_upperCode 2 = .ok (.invokevirtual 205, 3) := by decide +kernel
theorem dX12_upperCode_5 : decode cX12_upperCode 5 = .ok (.aload_n 0, 1) := by decide +kernel
theorem dX12_upperCode_6 : decode cX12_upperCode 6 = .ok (.getfield 10, 3) := by decide +kernel
theorem dX12_upperCode_9 : decode cX12_upperCode 9 = .ok (.iload_n 1, 1) := by decide +kernel
theorem dX12_upperCode_10 : decode cX12_upperCode 10 = .ok (.invokevirtual 220, 3) := by decide +kernel
theorem dX12_upperCode_13 : decode cX12_upperCode 13 = .ok (.ireturn, 1) := by decide +kernel
theorem dX12_matches_0 : decode cX12_matches 0 = .ok (.aload_n 0, 1) := by decide +kernel
theorem dX12_matches_1 : decode cX12_matches 1 = .ok (.iload_n 1, 1) := by decide +kernel
theorem dX12_matches_2 : decode cX12_matches 2 = .ok (.invokevirtual 205, 3) := by decide +kernel
theorem dX12_matches_5 : decode cX12_matches 5 = .ok (.aload_n 0, 1) := by decide +kernel
theorem dX12_matches_6 : decode cX12_matches 6 = .ok (.getfield 10, 3) := by decide +kernel
theorem dX12_matches_9 : decode cX12_matches 9 = .ok (.iload_n 1, 1) := by decide +kernel
theorem dX12_matches_10 : decode cX12_matches 10 = .ok (.invokevirtual 223, 3) := by decide +kernel
theorem dX12_matches_13 : decode cX12_matches 13 = .ok (.ireturn, 1) := by decide +kernel
theorem dX12_strictestCondition_0 : decode cX12_strictestCondition 0 = .ok (.iconst (-1), 1) := by decide +kernel
theorem dX12_strictestCondition_1 : decode cX12_strictestCondition 1 = .ok (.istore_n 1, 1) := by decide +kernel
theorem dX12_strictestCondition_2 : decode cX12_strictestCondition 2 = .ok (.bipush 61, 2) := by decide +kernel
theorem dX12_strictestCondition_4 : decode cX12_strictestCondition 4 = .ok (.istore_n 2, 1) := by decide +kernel
theorem dX12_strictestCondition_5 : decode cX12_strictestCondition 5 = .ok (.iconst 0, 1) := by decide +kernel
theorem dX12_strictestCondition_6 : decode cX12_strictestCondition 6 = .ok (.istore_n 3, 1) := by decide +kernel
theorem dX12_strictestCondition_7 : decode cX12_strictestCondition 7 = .ok (.iload_n 3, 1) := by decide +kernel
theorem dX12_strictestCondition_8 : decode cX12_strictestCondition 8 = .ok (.aload_n 0, 1) := by decide +kernel
theorem dX12_strictestCondition_9 : decode cX12_strictestCondition 9 = .ok (.getfield 10, 3) := by decide +kernel
theorem dX12_strictestCondition_12 : decode cX12_strictestCondition 12 = .ok (.invokevirtual 198, 3) := by decide +kernel
theorem dX12_strictestCondition_15 : decode cX12_strictestCondition 15 = .ok (.invokevirtual 202, 3) := by decide +kernel
theorem dX12_strictestCondition_18 : decode cX12_strictestCondition 18 = .ok (.if_icmp .ge 30, 3) := by decide +kernel
theorem dX12_strictestCondition_21 : decode cX12_strictestCondition 21 = .ok (.aload_n 0, 1) := by decide +kernel
theorem dX12_strictestCondition_22 : decode cX12_strictestCondition 22 = .ok (.getfield 10, 3) := by decide +kernel
theorem dX12_strictestCondition_25 : decode cX12_strictestCondition 25 = .ok (.iload_n 3, 1) := by decide +kernel
theorem dX12_strictestCondition_26 : decode cX12_strictestCondition 26 = .ok (.invokevirtual 223, 3) := by decide +kernel
theorem dX12_strictestCondition_29 : decode cX12_strictestCondition 29 = .ok (.istore 4, 2) := by decide +kernel
theorem dX12_strictestCondition_31 : decode cX12_strictestCondition 31 = .ok (.iload 4, 2) := by decide +kernel
theorem dX12_strictestCondition_33 : decode cX12_strictestCondition 33 = .ok (.iload_n 2, 1) := by decide +kernel
theorem dX12_strictestCondition_34 : decode cX12_strictestCondition 34 = .ok (.if_icmp .ge 8, 3) := by decide +kernel
theorem dX12_strictestCondition_37 : decode cX12_strictestCondition 37 = .ok (.iload_n 3, 1) := by decide +kernel
theorem dX12_strictestCondition_38 : decode cX12_strictestCondition 38 = .ok (.istore_n 1, 1) := by decide +kernel
theorem dX12_strictestCondition_39 : decode cX12_strictestCondition 39 = .ok (.iload 4, 2) := by decide +kernel
theorem dX12_strictestCondition_41 : decode cX12_strictestCondition 41 = .ok (.istore_n 2, 1) := by decide +kernel
theorem dX12_strictestCondition_42 : decode cX12_strictestCondition 42 = .ok (.iinc 3 1, 3) := by decide +kernel
theorem dX12_strictestCondition_45 : decode cX12_strictestCondition 45 = .ok (.goto (-38), 3) := by decide +kernel
theorem dX12_strictestCondition_48 : decode cX12_strictestCondition 48 = .ok (.iload_n 1, 1) := by decide +kernel
theorem dX12_strictestCondition_49 : decode cX12_strictestCondition 49 = .ok (.ireturn, 1) := by decide +kernel
theorem dX12_isSelected_0 : decode cX12_isSelected 0 = .ok (.aload_n 0, 1) := by decide +kernel
theorem dX12_isSelected_1 : decode cX12_isSelected 1 = .ok (.iload_n 1, 1) := by decide +kernel
theorem dX12_isSelected_2 : decode cX12_isSelected 2 = .ok (.invokevirtual 119, 3) := by decide +kernel
theorem dX12_isSelected_5 : decode cX12_isSelected 5 = .ok (.aload_n 0, 1) := by decide +kernel
theorem dX12_isSelected_6 : decode cX12_isSelected 6 = .ok (.getfield 10, 3) := by decide +kernel
theorem dX12_isSelected_9 : decode cX12_isSelected 9 = .ok (.iload_n 1, 1) := by decide +kernel
theorem dX12_isSelected_10 : decode cX12_isSelected 10 = .ok (.invokevirtual 226, 3) := by decide +kernel
theorem dX12_isSelected_13 : decode cX12_isSelected 13 = .ok (.ireturn, 1) := by decide +kernel
theorem dX12_selectedCount_0 : decode cX12_selectedCount 0 = .ok (.aload_n 0, 1) := by decide +kernel
theorem dX12_selectedCount_1 : decode cX12_selectedCount 1 = .ok (.getfield 10, 3) := by decide +kernel
theorem dX12_selectedCount_4 : decode cX12_selectedCount 4 = .ok (.invokevirtual 229, 3) := by decide +kernel
theorem dX12_selectedCount_7 : decode cX12_selectedCount 7 = .ok (.ireturn, 1) := by decide +kernel
theorem dX12_selectedRow_0 : decode cX12_selectedRow 0 = .ok (.iconst 0, 1) := by decide +kernel
theorem dX12_selectedRow_1 : decode cX12_selectedRow 1 = .ok (.istore_n 2, 1) := by decide +kernel
theorem dX12_selectedRow_2 : decode cX12_selectedRow 2 = .ok (.iconst 0, 1) := by decide +kernel
theorem dX12_selectedRow_3 : decode cX12_selectedRow 3 = .ok (.istore_n 3, 1) := by decide +kernel
theorem dX12_selectedRow_4 : decode cX12_selectedRow 4 = .ok (.iload_n 3, 1) := by decide +kernel
theorem dX12_selectedRow_5 : decode cX12_selectedRow 5 = .ok (.aload_n 0, 1) := by decide +kernel
theorem dX12_selectedRow_6 : decode cX12_selectedRow 6 = .ok (.getfield 10, 3) := by decide +kernel
theorem dX12_selectedRow_9 : decode cX12_selectedRow 9 = .ok (.invokevirtual 108, 3) := by decide +kernel
theorem dX12_selectedRow_12 : decode cX12_selectedRow 12 = .ok (.if_icmp .ge 30, 3) := by decide +kernel
theorem dX12_selectedRow_15 : decode cX12_selectedRow 15 = .ok (.aload_n 0, 1) := by decide +kernel
theorem dX12_selectedRow_16 : decode cX12_selectedRow 16 = .ok (.getfield 10, 3) := by decide +kernel
theorem dX12_selectedRow_19 : decode cX12_selectedRow 19 = .ok (.iload_n 3, 1) := by decide +kernel
theorem dX12_selectedRow_20 : decode cX12_selectedRow 20 = .ok (.invokevirtual 226, 3) := by decide +kernel
theorem dX12_selectedRow_23 : decode cX12_selectedRow 23 = .ok (.ifCond .eq 13, 3) := by decide +kernel
theorem dX12_selectedRow_26 : decode cX12_selectedRow 26 = .ok (.iload_n 2, 1) := by decide +kernel
theorem dX12_selectedRow_27 : decode cX12_selectedRow 27 = .ok (.iload_n 1, 1) := by decide +kernel
theorem dX12_selectedRow_28 : decode cX12_selectedRow 28 = .ok (.if_icmp .ne 5, 3) := by decide +kernel
theorem dX12_selectedRow_31 : decode cX12_selectedRow 31 = .ok (.iload_n 3, 1) := by decide +kernel
theorem dX12_selectedRow_32 : decode cX12_selectedRow 32 = .ok (.ireturn, 1) := by decide +kernel
theorem dX12_selectedRow_33 : decode cX12_selectedRow 33 = .ok (.iinc 2 1, 3) := by decide +kernel
theorem dX12_selectedRow_36 : decode cX12_selectedRow 36 = .ok (.iinc 3 1, 3) := by decide +kernel
theorem dX12_selectedRow_39 : decode cX12_selectedRow 39 = .ok (.goto (-35), 3) := by decide +kernel
theorem dX12_selectedRow_42 : decode cX12_selectedRow 42 = .ok (.iconst (-1), 1) := by decide +kernel
theorem dX12_selectedRow_43 : decode cX12_selectedRow 43 = .ok (.ireturn, 1) := by decide +kernel
theorem dX12_rejectedBy_0 : decode cX12_rejectedBy 0 = .ok (.aload_n 0, 1) := by decide +kernel
theorem dX12_rejectedBy_1 : decode cX12_rejectedBy 1 = .ok (.iload_n 1, 1) := by decide +kernel
theorem dX12_rejectedBy_2 : decode cX12_rejectedBy 2 = .ok (.invokevirtual 119, 3) := by decide +kernel
theorem dX12_rejectedBy_5 : decode cX12_rejectedBy 5 = .ok (.aload_n 0, 1) := by decide +kernel
theorem dX12_rejectedBy_6 : decode cX12_rejectedBy 6 = .ok (.getfield 10, 3) := by decide +kernel
theorem dX12_rejectedBy_9 : decode cX12_rejectedBy 9 = .ok (.iload_n 1, 1) := by decide +kernel
theorem dX12_rejectedBy_10 : decode cX12_rejectedBy 10 = .ok (.invokevirtual 232, 3) := by decide +kernel
theorem dX12_rejectedBy_13 : decode cX12_rejectedBy 13 = .ok (.ireturn, 1) := by decide +kernel
theorem dX12_sumSelected_0 : decode cX12_sumSelected 0 = .ok (.aload_n 0, 1) := by decide +kernel
theorem dX12_sumSelected_1 : decode cX12_sumSelected 1 = .ok (.iload_n 1, 1) := by decide +kernel
theorem dX12_sumSelected_2 : decode cX12_sumSelected 2 = .ok (.invokevirtual 116, 3) := by decide +kernel
theorem dX12_sumSelected_5 : decode cX12_sumSelected 5 = .ok (.aload_n 0, 1) := by decide +kernel
theorem dX12_sumSelected_6 : decode cX12_sumSelected 6 = .ok (.iload_n 1, 1) := by decide +kernel
theorem dX12_sumSelected_7 : decode cX12_sumSelected 7 = .ok (.invokevirtual 235, 3) := by decide +kernel
theorem dX12_sumSelected_10 : decode cX12_sumSelected 10 = .ok (.lreturn, 1) := by decide +kernel
theorem dX12_smallestSelected_0 : decode cX12_smallestSelected 0 = .ok (.aload_n 0, 1) := by decide +kernel
theorem dX12_smallestSelected_1 : decode cX12_smallestSelected 1 = .ok (.iload_n 1, 1) := by decide +kernel
theorem dX12_smallestSelected_2 : decode cX12_smallestSelected 2 = .ok (.invokevirtual 116, 3) := by decide +kernel
theorem dX12_smallestSelected_5 : decode cX12_smallestSelected 5 = .ok (.aload_n 0, 1) := by decide +kernel
theorem dX12_smallestSelected_6 : decode cX12_smallestSelected 6 = .ok (.iload_n 1, 1) := by decide +kernel
theorem dX12_smallestSelected_7 : decode cX12_smallestSelected 7 = .ok (.invokevirtual 238, 3) := by decide +kernel
theorem dX12_smallestSelected_10 : decode cX12_smallestSelected 10 = .ok (.aload_n 0, 1) := by decide +kernel
theorem dX12_smallestSelected_11 : decode cX12_smallestSelected 11 = .ok (.invokevirtual 241, 3) := by decide +kernel
theorem dX12_smallestSelected_14 : decode cX12_smallestSelected 14 = .ok (.aload_n 0, 1) := by decide +kernel
theorem dX12_smallestSelected_15 : decode cX12_smallestSelected 15 = .ok (.getfield 56, 3) := by decide +kernel
theorem dX12_smallestSelected_18 : decode cX12_smallestSelected 18 = .ok (.iconst 0, 1) := by decide +kernel
theorem dX12_smallestSelected_19 : decode cX12_smallestSelected 19 = .ok (.invokevirtual 144, 3) := by decide +kernel
theorem dX12_smallestSelected_22 : decode cX12_smallestSelected 22 = .ok (.ireturn, 1) := by decide +kernel
theorem dX12_greatestSelected_0 : decode cX12_greatestSelected 0 = .ok (.aload_n 0, 1) := by decide +kernel
theorem dX12_greatestSelected_1 : decode cX12_greatestSelected 1 = .ok (.iload_n 1, 1) := by decide +kernel
theorem dX12_greatestSelected_2 : decode cX12_greatestSelected 2 = .ok (.invokevirtual 116, 3) := by decide +kernel
theorem dX12_greatestSelected_5 : decode cX12_greatestSelected 5 = .ok (.aload_n 0, 1) := by decide +kernel
theorem dX12_greatestSelected_6 : decode cX12_greatestSelected 6 = .ok (.iload_n 1, 1) := by decide +kernel
theorem dX12_greatestSelected_7 : decode cX12_greatestSelected 7 = .ok (.invokevirtual 238, 3) := by decide +kernel
theorem dX12_greatestSelected_10 : decode cX12_greatestSelected 10 = .ok (.aload_n 0, 1) := by decide +kernel
theorem dX12_greatestSelected_11 : decode cX12_greatestSelected 11 = .ok (.invokevirtual 241, 3) := by decide +kernel
theorem dX12_greatestSelected_14 : decode cX12_greatestSelected 14 = .ok (.aload_n 0, 1) := by decide +kernel
theorem dX12_greatestSelected_15 : decode cX12_greatestSelected 15 = .ok (.getfield 56, 3) := by decide +kernel
theorem dX12_greatestSelected_18 : decode cX12_greatestSelected 18 = .ok (.aload_n 0, 1) := by decide +kernel
theorem dX12_greatestSelected_19 : decode cX12_greatestSelected 19 = .ok (.getfield 56, 3) := by decide +kernel
theorem dX12_greatestSelected_22 : decode cX12_greatestSelected 22 = .ok (.invokevirtual 139, 3) := by decide +kernel
theorem dX12_greatestSelected_25 : decode cX12_greatestSelected 25 = .ok (.iconst 1, 1) := by decide +kernel
theorem dX12_greatestSelected_26 : decode cX12_greatestSelected 26 = .ok (.isub, 1) := by decide +kernel
theorem dX12_greatestSelected_27 : decode cX12_greatestSelected 27 = .ok (.invokevirtual 144, 3) := by decide +kernel
theorem dX12_greatestSelected_30 : decode cX12_greatestSelected 30 = .ok (.ireturn, 1) := by decide +kernel
theorem dX12_distinctSelected_0 : decode cX12_distinctSelected 0 = .ok (.aload_n 0, 1) := by decide +kernel
theorem dX12_distinctSelected_1 : decode cX12_distinctSelected 1 = .ok (.iload_n 1, 1) := by decide +kernel
theorem dX12_distinctSelected_2 : decode cX12_distinctSelected 2 = .ok (.invokevirtual 116, 3) := by decide +kernel
theorem dX12_distinctSelected_5 : decode cX12_distinctSelected 5 = .ok (.aload_n 0, 1) := by decide +kernel
theorem dX12_distinctSelected_6 : decode cX12_distinctSelected 6 = .ok (.iload_n 1, 1) := by decide +kernel
theorem dX12_distinctSelected_7 : decode cX12_distinctSelected 7 = .ok (.invokevirtual 238, 3) := by decide +kernel
theorem dX12_distinctSelected_10 : decode cX12_distinctSelected 10 = .ok (.aload_n 0, 1) := by decide +kernel
theorem dX12_distinctSelected_11 : decode cX12_distinctSelected 11 = .ok (.getfield 56, 3) := by decide +kernel
theorem dX12_distinctSelected_14 : decode cX12_distinctSelected 14 = .ok (.invokevirtual 139, 3) := by decide +kernel
theorem dX12_distinctSelected_17 : decode cX12_distinctSelected 17 = .ok (.ireturn, 1) := by decide +kernel
theorem dX12_bitWidthWith_0 : decode cX12_bitWidthWith 0 = .ok (.aload_n 0, 1) := by decide +kernel
theorem dX12_bitWidthWith_1 : decode cX12_bitWidthWith 1 = .ok (.iload_n 1, 1) := by decide +kernel
theorem dX12_bitWidthWith_2 : decode cX12_bitWidthWith 2 = .ok (.invokevirtual 116, 3) := by decide +kernel
theorem dX12_bitWidthWith_5 : decode cX12_bitWidthWith 5 = .ok (.aload_n 0, 1) := by decide +kernel
theorem dX12_bitWidthWith_6 : decode cX12_bitWidthWith 6 = .ok (.iload_n 2, 1) := by decide +kernel
theorem dX12_bitWidthWith_7 : decode cX12_bitWidthWith 7 = .ok (.invokevirtual 244, 3) := by decide +kernel
theorem dX12_bitWidthWith_10 : decode cX12_bitWidthWith 10 = .ok (.aload_n 0, 1) := by decide +kernel
theorem dX12_bitWidthWith_11 : decode cX12_bitWidthWith 11 = .ok (.getfield 10, 3) := by decide +kernel
theorem dX12_bitWidthWith_14 : decode cX12_bitWidthWith 14 = .ok (.iload_n 1, 1) := by decide +kernel
theorem dX12_bitWidthWith_15 : decode cX12_bitWidthWith 15 = .ok (.invokevirtual 135, 3) := by decide +kernel
theorem dX12_bitWidthWith_18 : decode cX12_bitWidthWith 18 = .ok (.astore_n 3, 1) := by decide +kernel
theorem dX12_bitWidthWith_19 : decode cX12_bitWidthWith 19 = .ok (.aload_n 3, 1) := by decide +kernel
theorem dX12_bitWidthWith_20 : decode cX12_bitWidthWith 20 = .ok (.iload_n 2, 1) := by decide +kernel
theorem dX12_bitWidthWith_21 : decode cX12_bitWidthWith 21 = .ok (.invokevirtual 247, 3) := by decide +kernel
theorem dX12_bitWidthWith_24 : decode cX12_bitWidthWith 24 = .ok (.ifCond .eq 10, 3) := by decide +kernel
theorem dX12_bitWidthWith_27 : decode cX12_bitWidthWith 27 = .ok (.aload_n 3, 1) := by decide +kernel
theorem dX12_bitWidthWith_28 : decode cX12_bitWidthWith 28 = .ok (.invokevirtual 139, 3) := by decide +kernel
theorem dX12_bitWidthWith_31 : decode cX12_bitWidthWith 31 = .ok (.goto 9, 3) := by decide +kernel
theorem dX12_bitWidthWith_34 : decode cX12_bitWidthWith 34 = .ok (.aload_n 3, 1) := by decide +kernel
theorem dX12_bitWidthWith_35 : decode cX12_bitWidthWith 35 = .ok (.invokevirtual 139, 3) := by decide +kernel
theorem dX12_bitWidthWith_38 : decode cX12_bitWidthWith 38 = .ok (.iconst 1, 1) := by decide +kernel
theorem dX12_bitWidthWith_39 : decode cX12_bitWidthWith 39 = .ok (.iadd, 1) := by decide +kernel
theorem dX12_bitWidthWith_40 : decode cX12_bitWidthWith 40 = .ok (.invokestatic 250, 3) := by decide +kernel
theorem dX12_bitWidthWith_43 : decode cX12_bitWidthWith 43 = .ok (.ireturn, 1) := by decide +kernel
theorem dX12_bitWidthCompacted_0 : decode cX12_bitWidthCompacted 0 = .ok (.aload_n 0, 1) := by decide +kernel
theorem dX12_bitWidthCompacted_1 : decode cX12_bitWidthCompacted 1 = .ok (.iload_n 1, 1) := by decide +kernel
theorem dX12_bitWidthCompacted_2 : decode cX12_bitWidthCompacted 2 = .ok (.invokevirtual 116, 3) := by decide +kernel
theorem dX12_bitWidthCompacted_5 : decode cX12_bitWidthCompacted 5 = .ok (.aload_n 0, 1) := by decide +kernel
theorem dX12_bitWidthCompacted_6 : decode cX12_bitWidthCompacted 6 = .ok (.getfield 10, 3) := by decide +kernel
theorem dX12_bitWidthCompacted_9 : decode cX12_bitWidthCompacted 9 = .ok (.iload_n 1, 1) := by decide +kernel
theorem dX12_bitWidthCompacted_10 : decode cX12_bitWidthCompacted 10 = .ok (.invokevirtual 122, 3) := by decide +kernel
theorem dX12_bitWidthCompacted_13 : decode cX12_bitWidthCompacted 13 = .ok (.aload_n 0, 1) := by decide +kernel
theorem dX12_bitWidthCompacted_14 : decode cX12_bitWidthCompacted 14 = .ok (.getfield 56, 3) := by decide +kernel
theorem dX12_bitWidthCompacted_17 : decode cX12_bitWidthCompacted 17 = .ok (.invokevirtual 150, 3) := by decide +kernel
theorem dX12_bitWidthCompacted_20 : decode cX12_bitWidthCompacted 20 = .ok (.aload_n 0, 1) := by decide +kernel
theorem dX12_bitWidthCompacted_21 : decode cX12_bitWidthCompacted 21 = .ok (.getfield 56, 3) := by decide +kernel
theorem dX12_bitWidthCompacted_24 : decode cX12_bitWidthCompacted 24 = .ok (.invokevirtual 160, 3) := by decide +kernel
theorem dX12_bitWidthCompacted_27 : decode cX12_bitWidthCompacted 27 = .ok (.ireturn, 1) := by decide +kernel
theorem dX12_runsIfSorted_0 : decode cX12_runsIfSorted 0 = .ok (.aload_n 0, 1) := by decide +kernel
theorem dX12_runsIfSorted_1 : decode cX12_runsIfSorted 1 = .ok (.iload_n 1, 1) := by decide +kernel
theorem dX12_runsIfSorted_2 : decode cX12_runsIfSorted 2 = .ok (.invokevirtual 116, 3) := by decide +kernel
theorem dX12_runsIfSorted_5 : decode cX12_runsIfSorted 5 = .ok (.aload_n 0, 1) := by decide +kernel
theorem dX12_runsIfSorted_6 : decode cX12_runsIfSorted 6 = .ok (.iload_n 1, 1) := by decide +kernel
theorem dX12_runsIfSorted_7 : decode cX12_runsIfSorted 7 = .ok (.invokevirtual 253, 3) := by decide +kernel
theorem dX12_runsIfSorted_10 : decode cX12_runsIfSorted 10 = .ok (.ireturn, 1) := by decide +kernel
theorem dX12_bestSortColumn_0 : decode cX12_bestSortColumn 0 = .ok (.iconst 0, 1) := by decide +kernel
theorem dX12_bestSortColumn_1 : decode cX12_bestSortColumn 1 = .ok (.istore_n 1, 1) := by decide +kernel
theorem dX12_bestSortColumn_2 : decode cX12_bestSortColumn 2 = .ok (.aload_n 0, 1) := by decide +kernel
theorem dX12_bestSortColumn_3 : decode cX12_bestSortColumn 3 = .ok (.iconst 0, 1) := by decide +kernel
theorem dX12_bestSortColumn_4 : decode cX12_bestSortColumn 4 = .ok (.invokevirtual 253, 3) := by decide +kernel
theorem dX12_bestSortColumn_7 : decode cX12_bestSortColumn 7 = .ok (.istore_n 2, 1) := by decide +kernel
theorem dX12_bestSortColumn_8 : decode cX12_bestSortColumn 8 = .ok (.iconst 1, 1) := by decide +kernel
theorem dX12_bestSortColumn_9 : decode cX12_bestSortColumn 9 = .ok (.istore_n 3, 1) := by decide +kernel
theorem dX12_bestSortColumn_10 : decode cX12_bestSortColumn 10 = .ok (.iload_n 3, 1) := by decide +kernel
theorem dX12_bestSortColumn_11 : decode cX12_bestSortColumn 11 = .ok (.aload_n 0, 1) := by decide +kernel
theorem dX12_bestSortColumn_12 : decode cX12_bestSortColumn 12 = .ok (.getfield 10, 3) := by decide +kernel
theorem dX12_bestSortColumn_15 : decode cX12_bestSortColumn 15 = .ok (.invokevirtual 115, 3) := by decide +kernel
theorem dX12_bestSortColumn_18 : decode cX12_bestSortColumn 18 = .ok (.if_icmp .ge 27, 3) := by decide +kernel
theorem dX12_bestSortColumn_21 : decode cX12_bestSortColumn 21 = .ok (.aload_n 0, 1) := by decide +kernel
theorem dX12_bestSortColumn_22 : decode cX12_bestSortColumn 22 = .ok (.iload_n 3, 1) := by decide +kernel
theorem dX12_bestSortColumn_23 : decode cX12_bestSortColumn 23 = .ok (.invokevirtual 253, 3) := by decide +kernel
theorem dX12_bestSortColumn_26 : decode cX12_bestSortColumn 26 = .ok (.istore 4, 2) := by decide +kernel
theorem dX12_bestSortColumn_28 : decode cX12_bestSortColumn 28 = .ok (.iload 4, 2) := by decide +kernel
theorem dX12_bestSortColumn_30 : decode cX12_bestSortColumn 30 = .ok (.iload_n 2, 1) := by decide +kernel
theorem dX12_bestSortColumn_31 : decode cX12_bestSortColumn 31 = .ok (.if_icmp .ge 8, 3) := by decide +kernel
theorem dX12_bestSortColumn_34 : decode cX12_bestSortColumn 34 = .ok (.iload_n 3, 1) := by decide +kernel
theorem dX12_bestSortColumn_35 : decode cX12_bestSortColumn 35 = .ok (.istore_n 1, 1) := by decide +kernel
theorem dX12_bestSortColumn_36 : decode cX12_bestSortColumn 36 = .ok (.iload 4, 2) := by decide +kernel
theorem dX12_bestSortColumn_38 : decode cX12_bestSortColumn 38 = .ok (.istore_n 2, 1) := by decide +kernel
theorem dX12_bestSortColumn_39 : decode cX12_bestSortColumn 39 = .ok (.iinc 3 1, 3) := by decide +kernel
theorem dX12_bestSortColumn_42 : decode cX12_bestSortColumn 42 = .ok (.goto (-32), 3) := by decide +kernel
theorem dX12_bestSortColumn_45 : decode cX12_bestSortColumn 45 = .ok (.iload_n 1, 1) := by decide +kernel
theorem dX12_bestSortColumn_46 : decode cX12_bestSortColumn 46 = .ok (.ireturn, 1) := by decide +kernel
theorem dX12_gap_0 : decode cX12_gap 0 = .ok (.iconst 0, 1) := by decide +kernel
theorem dX12_gap_1 : decode cX12_gap 1 = .ok (.istore_n 1, 1) := by decide +kernel
theorem dX12_gap_2 : decode cX12_gap 2 = .ok (.iconst 0, 1) := by decide +kernel
theorem dX12_gap_3 : decode cX12_gap 3 = .ok (.istore_n 2, 1) := by decide +kernel
theorem dX12_gap_4 : decode cX12_gap 4 = .ok (.iload_n 2, 1) := by decide +kernel
theorem dX12_gap_5 : decode cX12_gap 5 = .ok (.aload_n 0, 1) := by decide +kernel
theorem dX12_gap_6 : decode cX12_gap 6 = .ok (.getfield 10, 3) := by decide +kernel
theorem dX12_gap_9 : decode cX12_gap 9 = .ok (.invokevirtual 108, 3) := by decide +kernel
theorem dX12_gap_12 : decode cX12_gap 12 = .ok (.if_icmp .ge 31, 3) := by decide +kernel
theorem dX12_gap_15 : decode cX12_gap 15 = .ok (.aload_n 0, 1) := by decide +kernel
theorem dX12_gap_16 : decode cX12_gap 16 = .ok (.getfield 10, 3) := by decide +kernel
theorem dX12_gap_19 : decode cX12_gap 19 = .ok (.iload_n 2, 1) := by decide +kernel
theorem dX12_gap_20 : decode cX12_gap 20 = .ok (.invokevirtual 226, 3) := by decide +kernel
theorem dX12_gap_23 : decode cX12_gap 23 = .ok (.aload_n 0, 1) := by decide +kernel
theorem dX12_gap_24 : decode cX12_gap 24 = .ok (.getfield 10, 3) := by decide +kernel
theorem dX12_gap_27 : decode cX12_gap 27 = .ok (.iload_n 2, 1) := by decide +kernel
theorem dX12_gap_28 : decode cX12_gap 28 = .ok (.invokevirtual 256, 3) := by decide +kernel
theorem dX12_gap_31 : decode cX12_gap 31 = .ok (.if_icmp .eq 6, 3) := by decide +kernel
theorem dX12_gap_34 : decode cX12_gap 34 = .ok (.iinc 1 1, 3) := by decide +kernel
theorem dX12_gap_37 : decode cX12_gap 37 = .ok (.iinc 2 1, 3) := by decide +kernel
theorem dX12_gap_40 : decode cX12_gap 40 = .ok (.goto (-36), 3) := by decide +kernel
theorem dX12_gap_43 : decode cX12_gap 43 = .ok (.iconst 0, 1) := by decide +kernel
theorem dX12_gap_44 : decode cX12_gap 44 = .ok (.istore_n 2, 1) := by decide +kernel
theorem dX12_gap_45 : decode cX12_gap 45 = .ok (.iload_n 2, 1) := by decide +kernel
theorem dX12_gap_46 : decode cX12_gap 46 = .ok (.aload_n 0, 1) := by decide +kernel
theorem dX12_gap_47 : decode cX12_gap 47 = .ok (.getfield 10, 3) := by decide +kernel
theorem dX12_gap_50 : decode cX12_gap 50 = .ok (.invokevirtual 115, 3) := by decide +kernel
theorem dX12_gap_53 : decode cX12_gap 53 = .ok (.if_icmp .ge 24, 3) := by decide +kernel
theorem dX12_gap_56 : decode cX12_gap 56 = .ok (.iload_n 1, 1) := by decide +kernel
theorem dX12_gap_57 : decode cX12_gap 57 = .ok (.aload_n 0, 1) := by decide +kernel
theorem dX12_gap_58 : decode cX12_gap 58 = .ok (.aload_n 0, 1) := by decide +kernel
theorem dX12_gap_59 : decode cX12_gap 59 = .ok (.getfield 10, 3) := by decide +kernel
theorem dX12_gap_62 : decode cX12_gap 62 = .ok (.iload_n 2, 1) := by decide +kernel
theorem dX12_gap_63 : decode cX12_gap 63 = .ok (.invokevirtual 122, 3) := by decide +kernel
theorem dX12_gap_66 : decode cX12_gap 66 = .ok (.invokevirtual 259, 3) := by decide +kernel
theorem dX12_gap_69 : decode cX12_gap 69 = .ok (.iadd, 1) := by decide +kernel
theorem dX12_gap_70 : decode cX12_gap 70 = .ok (.istore_n 1, 1) := by decide +kernel
theorem dX12_gap_71 : decode cX12_gap 71 = .ok (.iinc 2 1, 3) := by decide +kernel
theorem dX12_gap_74 : decode cX12_gap 74 = .ok (.goto (-29), 3) := by decide +kernel
theorem dX12_gap_77 : decode cX12_gap 77 = .ok (.iload_n 1, 1) := by decide +kernel
theorem dX12_gap_78 : decode cX12_gap 78 = .ok (.ireturn, 1) := by decide +kernel
theorem dX12_addRow_0 : decode cX12_addRow 0 = .ok (.aload_n 0, 1) := by decide +kernel
theorem dX12_addRow_1 : decode cX12_addRow 1 = .ok (.iload_n 1, 1) := by decide +kernel
theorem dX12_addRow_2 : decode cX12_addRow 2 = .ok (.invokevirtual 83, 3) := by decide +kernel
theorem dX12_addRow_5 : decode cX12_addRow 5 = .ok (.aload_n 0, 1) := by decide +kernel
theorem dX12_addRow_6 : decode cX12_addRow 6 = .ok (.getfield 10, 3) := by decide +kernel
theorem dX12_addRow_9 : decode cX12_addRow 9 = .ok (.invokevirtual 263, 3) := by decide +kernel
theorem dX12_addRow_12 : decode cX12_addRow 12 = .ok (.ifCond .eq 14, 3) := by decide +kernel
theorem dX12_addRow_15 : decode cX12_addRow 15 = .ok (.new 266, 3) := by decide +kernel
theorem dX12_addRow_18 : decode cX12_addRow 18 = .ok (.dup, 1) := by decide +kernel
theorem dX12_addRow_19 : decode cX12_addRow 19 = .ok (.ldc_w 268, 3) := by decide +kernel
theorem dX12_addRow_22 : decode cX12_addRow 22 = .ok (.invokespecial 270, 3) := by decide +kernel
theorem dX12_addRow_25 : decode cX12_addRow 25 = .ok (.athrow, 1) := by decide +kernel
theorem dX12_addRow_26 : decode cX12_addRow 26 = .ok (.aload_n 0, 1) := by decide +kernel
theorem dX12_addRow_27 : decode cX12_addRow 27 = .ok (.getfield 38, 3) := by decide +kernel
theorem dX12_addRow_30 : decode cX12_addRow 30 = .ok (.iload_n 1, 1) := by decide +kernel
theorem dX12_addRow_31 : decode cX12_addRow 31 = .ok (.aload_n 0, 1) := by decide +kernel
theorem dX12_addRow_32 : decode cX12_addRow 32 = .ok (.getfield 10, 3) := by decide +kernel
theorem dX12_addRow_35 : decode cX12_addRow 35 = .ok (.invokevirtual 115, 3) := by decide +kernel
theorem dX12_addRow_38 : decode cX12_addRow 38 = .ok (.invokevirtual 271, 3) := by decide +kernel
theorem dX12_addRow_41 : decode cX12_addRow 41 = .ok (.istore_n 2, 1) := by decide +kernel
theorem dX12_addRow_42 : decode cX12_addRow 42 = .ok (.aload_n 0, 1) := by decide +kernel
theorem dX12_addRow_43 : decode cX12_addRow 43 = .ok (.getfield 29, 3) := by decide +kernel
theorem dX12_addRow_46 : decode cX12_addRow 46 = .ok (.invokevirtual 90, 3) := by decide +kernel
theorem dX12_addRow_49 : decode cX12_addRow 49 = .ok (.iload_n 2, 1) := by decide +kernel
theorem dX12_addRow_50 : decode cX12_addRow 50 = .ok (.ifCond .ne 5, 3) := by decide +kernel
theorem dX12_addRow_53 : decode cX12_addRow 53 = .ok (.iconst (-1), 1) := by decide +kernel
theorem dX12_addRow_54 : decode cX12_addRow 54 = .ok (.ireturn, 1) := by decide +kernel
theorem dX12_addRow_55 : decode cX12_addRow 55 = .ok (.aload_n 0, 1) := by decide +kernel
theorem dX12_addRow_56 : decode cX12_addRow 56 = .ok (.getfield 22, 3) := by decide +kernel
theorem dX12_addRow_59 : decode cX12_addRow 59 = .ok (.aload_n 0, 1) := by decide +kernel
theorem dX12_addRow_60 : decode cX12_addRow 60 = .ok (.getfield 10, 3) := by decide +kernel
theorem dX12_addRow_63 : decode cX12_addRow 63 = .ok (.invokevirtual 275, 3) := by decide +kernel
theorem dX12_addRow_66 : decode cX12_addRow 66 = .ok (.aload_n 0, 1) := by decide +kernel
theorem dX12_addRow_67 : decode cX12_addRow 67 = .ok (.getfield 10, 3) := by decide +kernel
theorem dX12_addRow_70 : decode cX12_addRow 70 = .ok (.aload_n 0, 1) := by decide +kernel
theorem dX12_addRow_71 : decode cX12_addRow 71 = .ok (.getfield 38, 3) := by decide +kernel
theorem dX12_addRow_74 : decode cX12_addRow 74 = .ok (.invokevirtual 99, 3) := by decide +kernel
theorem dX12_addRow_77 : decode cX12_addRow 77 = .ok (.iconst 0, 1) := by decide +kernel
theorem dX12_addRow_78 : decode cX12_addRow 78 = .ok (.invokevirtual 279, 3) := by decide +kernel
theorem dX12_addRow_81 : decode cX12_addRow 81 = .ok (.aload_n 0, 1) := by decide +kernel
theorem dX12_addRow_82 : decode cX12_addRow 82 = .ok (.getfield 10, 3) := by decide +kernel
theorem dX12_addRow_85 : decode cX12_addRow 85 = .ok (.invokevirtual 108, 3) := by decide +kernel
theorem dX12_addRow_88 : decode cX12_addRow 88 = .ok (.iconst 1, 1) := by decide +kernel
theorem dX12_addRow_89 : decode cX12_addRow 89 = .ok (.isub, 1) := by decide +kernel
theorem dX12_addRow_90 : decode cX12_addRow 90 = .ok (.ireturn, 1) := by decide +kernel
theorem dX12_removeRow_0 : decode cX12_removeRow 0 = .ok (.aload_n 0, 1) := by decide +kernel
theorem dX12_removeRow_1 : decode cX12_removeRow 1 = .ok (.iload_n 1, 1) := by decide +kernel
theorem dX12_removeRow_2 : decode cX12_removeRow 2 = .ok (.invokevirtual 119, 3) := by decide +kernel
theorem dX12_removeRow_5 : decode cX12_removeRow 5 = .ok (.aload_n 0, 1) := by decide +kernel
theorem dX12_removeRow_6 : decode cX12_removeRow 6 = .ok (.getfield 22, 3) := by decide +kernel
theorem dX12_removeRow_9 : decode cX12_removeRow 9 = .ok (.aload_n 0, 1) := by decide +kernel
theorem dX12_removeRow_10 : decode cX12_removeRow 10 = .ok (.getfield 10, 3) := by decide +kernel
theorem dX12_removeRow_13 : decode cX12_removeRow 13 = .ok (.invokevirtual 275, 3) := by decide +kernel
theorem dX12_removeRow_16 : decode cX12_removeRow 16 = .ok (.aload_n 0, 1) := by decide +kernel
theorem dX12_removeRow_17 : decode cX12_removeRow 17 = .ok (.getfield 10, 3) := by decide +kernel
theorem dX12_removeRow_20 : decode cX12_removeRow 20 = .ok (.iload_n 1, 1) := by decide +kernel
theorem dX12_removeRow_21 : decode cX12_removeRow 21 = .ok (.invokevirtual 283, 3) := by decide +kernel
theorem dX12_removeRow_24 : decode cX12_removeRow 24 = .ok (.aload_n 0, 1) := by decide +kernel
theorem dX12_removeRow_25 : decode cX12_removeRow 25 = .ok (.getfield 10, 3) := by decide +kernel
theorem dX12_removeRow_28 : decode cX12_removeRow 28 = .ok (.invokevirtual 108, 3) := by decide +kernel
theorem dX12_removeRow_31 : decode cX12_removeRow 31 = .ok (.ireturn, 1) := by decide +kernel
theorem dX12_setValue_0 : decode cX12_setValue 0 = .ok (.aload_n 0, 1) := by decide +kernel
theorem dX12_setValue_1 : decode cX12_setValue 1 = .ok (.iload_n 1, 1) := by decide +kernel
theorem dX12_setValue_2 : decode cX12_setValue 2 = .ok (.invokevirtual 116, 3) := by decide +kernel
theorem dX12_setValue_5 : decode cX12_setValue 5 = .ok (.aload_n 0, 1) := by decide +kernel
theorem dX12_setValue_6 : decode cX12_setValue 6 = .ok (.iload_n 2, 1) := by decide +kernel
theorem dX12_setValue_7 : decode cX12_setValue 7 = .ok (.invokevirtual 119, 3) := by decide +kernel
theorem dX12_setValue_10 : decode cX12_setValue 10 = .ok (.aload_n 0, 1) := by decide +kernel
theorem dX12_setValue_11 : decode cX12_setValue 11 = .ok (.iload_n 3, 1) := by decide +kernel
theorem dX12_setValue_12 : decode cX12_setValue 12 = .ok (.invokevirtual 244, 3) := by decide +kernel
theorem dX12_setValue_15 : decode cX12_setValue 15 = .ok (.aload_n 0, 1) := by decide +kernel
theorem dX12_setValue_16 : decode cX12_setValue 16 = .ok (.getfield 10, 3) := by decide +kernel
theorem dX12_setValue_19 : decode cX12_setValue 19 = .ok (.iload_n 1, 1) := by decide +kernel
theorem dX12_setValue_20 : decode cX12_setValue 20 = .ok (.invokevirtual 122, 3) := by decide +kernel
theorem dX12_setValue_23 : decode cX12_setValue 23 = .ok (.iload_n 2, 1) := by decide +kernel
theorem dX12_setValue_24 : decode cX12_setValue 24 = .ok (.invokevirtual 126, 3) := by decide +kernel
theorem dX12_setValue_27 : decode cX12_setValue 27 = .ok (.istore 4, 2) := by decide +kernel
theorem dX12_setValue_29 : decode cX12_setValue 29 = .ok (.aload_n 0, 1) := by decide +kernel
theorem dX12_setValue_30 : decode cX12_setValue 30 = .ok (.getfield 22, 3) := by decide +kernel
theorem dX12_setValue_33 : decode cX12_setValue 33 = .ok (.aload_n 0, 1) := by decide +kernel
theorem dX12_setValue_34 : decode cX12_setValue 34 = .ok (.getfield 10, 3) := by decide +kernel
theorem dX12_setValue_37 : decode cX12_setValue 37 = .ok (.invokevirtual 275, 3) := by decide +kernel
theorem dX12_setValue_40 : decode cX12_setValue 40 = .ok (.aload_n 0, 1) := by decide +kernel
theorem dX12_setValue_41 : decode cX12_setValue 41 = .ok (.getfield 10, 3) := by decide +kernel
theorem dX12_setValue_44 : decode cX12_setValue 44 = .ok (.iload_n 1, 1) := by decide +kernel
theorem dX12_setValue_45 : decode cX12_setValue 45 = .ok (.invokevirtual 122, 3) := by decide +kernel
theorem dX12_setValue_48 : decode cX12_setValue 48 = .ok (.iload_n 2, 1) := by decide +kernel
theorem dX12_setValue_49 : decode cX12_setValue 49 = .ok (.iload_n 3, 1) := by decide +kernel
theorem dX12_setValue_50 : decode cX12_setValue 50 = .ok (.invokevirtual 286, 3) := by decide +kernel
theorem dX12_setValue_53 : decode cX12_setValue 53 = .ok (.iload 4, 2) := by decide +kernel
theorem dX12_setValue_55 : decode cX12_setValue 55 = .ok (.ireturn, 1) := by decide +kernel
theorem dX12_sort_0 : decode cX12_sort 0 = .ok (.aload_n 0, 1) := by decide +kernel
theorem dX12_sort_1 : decode cX12_sort 1 = .ok (.iload_n 1, 1) := by decide +kernel
theorem dX12_sort_2 : decode cX12_sort 2 = .ok (.invokevirtual 116, 3) := by decide +kernel
theorem dX12_sort_5 : decode cX12_sort 5 = .ok (.aload_n 0, 1) := by decide +kernel
theorem dX12_sort_6 : decode cX12_sort 6 = .ok (.getfield 22, 3) := by decide +kernel
theorem dX12_sort_9 : decode cX12_sort 9 = .ok (.aload_n 0, 1) := by decide +kernel
theorem dX12_sort_10 : decode cX12_sort 10 = .ok (.getfield 10, 3) := by decide +kernel
theorem dX12_sort_13 : decode cX12_sort 13 = .ok (.invokevirtual 275, 3) := by decide +kernel
theorem dX12_sort_16 : decode cX12_sort 16 = .ok (.aload_n 0, 1) := by decide +kernel
theorem dX12_sort_17 : decode cX12_sort 17 = .ok (.iload_n 1, 1) := by decide +kernel
theorem dX12_sort_18 : decode cX12_sort 18 = .ok (.iload_n 2, 1) := by decide +kernel
theorem dX12_sort_19 : decode cX12_sort 19 = .ok (.invokevirtual 289, 3) := by decide +kernel
theorem dX12_sort_22 : decode cX12_sort 22 = .ok (.aload_n 0, 1) := by decide +kernel
theorem dX12_sort_23 : decode cX12_sort 23 = .ok (.getfield 49, 3) := by decide +kernel
theorem dX12_sort_26 : decode cX12_sort 26 = .ok (.aload_n 0, 1) := by decide +kernel
theorem dX12_sort_27 : decode cX12_sort 27 = .ok (.getfield 10, 3) := by decide +kernel
theorem dX12_sort_30 : decode cX12_sort 30 = .ok (.invokevirtual 108, 3) := by decide +kernel
theorem dX12_sort_33 : decode cX12_sort 33 = .ok (.invokevirtual 184, 3) := by decide +kernel
theorem dX12_sort_36 : decode cX12_sort 36 = .ok (.aload_n 0, 1) := by decide +kernel
theorem dX12_sort_37 : decode cX12_sort 37 = .ok (.getfield 10, 3) := by decide +kernel
theorem dX12_sort_40 : decode cX12_sort 40 = .ok (.iload_n 1, 1) := by decide +kernel
theorem dX12_sort_41 : decode cX12_sort 41 = .ok (.invokevirtual 122, 3) := by decide +kernel
theorem dX12_sort_44 : decode cX12_sort 44 = .ok (.aload_n 0, 1) := by decide +kernel
theorem dX12_sort_45 : decode cX12_sort 45 = .ok (.getfield 49, 3) := by decide +kernel
theorem dX12_sort_48 : decode cX12_sort 48 = .ok (.invokevirtual 187, 3) := by decide +kernel
theorem dX12_sort_51 : decode cX12_sort 51 = .ok (.ireturn, 1) := by decide +kernel
theorem dX12_addLess_0 : decode cX12_addLess 0 = .ok (.aload_n 0, 1) := by decide +kernel
theorem dX12_addLess_1 : decode cX12_addLess 1 = .ok (.iload_n 1, 1) := by decide +kernel
theorem dX12_addLess_2 : decode cX12_addLess 2 = .ok (.iload_n 2, 1) := by decide +kernel
theorem dX12_addLess_3 : decode cX12_addLess 3 = .ok (.iconst (-1), 1) := by decide +kernel
theorem dX12_addLess_4 : decode cX12_addLess 4 = .ok (.invokevirtual 293, 3) := by decide +kernel
theorem dX12_addLess_7 : decode cX12_addLess 7 = .ok (.ireturn, 1) := by decide +kernel
theorem dX12_addEqual_0 : decode cX12_addEqual 0 = .ok (.aload_n 0, 1) := by decide +kernel
theorem dX12_addEqual_1 : decode cX12_addEqual 1 = .ok (.iload_n 1, 1) := by decide +kernel
theorem dX12_addEqual_2 : decode cX12_addEqual 2 = .ok (.iload_n 2, 1) := by decide +kernel
theorem dX12_addEqual_3 : decode cX12_addEqual 3 = .ok (.iconst 0, 1) := by decide +kernel
theorem dX12_addEqual_4 : decode cX12_addEqual 4 = .ok (.invokevirtual 293, 3) := by decide +kernel
theorem dX12_addEqual_7 : decode cX12_addEqual 7 = .ok (.ireturn, 1) := by decide +kernel
theorem dX12_addGreater_0 : decode cX12_addGreater 0 = .ok (.aload_n 0, 1) := by decide +kernel
theorem dX12_addGreater_1 : decode cX12_addGreater 1 = .ok (.iload_n 1, 1) := by decide +kernel
theorem dX12_addGreater_2 : decode cX12_addGreater 2 = .ok (.iload_n 2, 1) := by decide +kernel
theorem dX12_addGreater_3 : decode cX12_addGreater 3 = .ok (.iconst 1, 1) := by decide +kernel
theorem dX12_addGreater_4 : decode cX12_addGreater 4 = .ok (.invokevirtual 293, 3) := by decide +kernel
theorem dX12_addGreater_7 : decode cX12_addGreater 7 = .ok (.ireturn, 1) := by decide +kernel
theorem dX12_removeCondition_0 : decode cX12_removeCondition 0 = .ok (.aload_n 0, 1) := by decide +kernel
theorem dX12_removeCondition_1 : decode cX12_removeCondition 1 = .ok (.iload_n 1, 1) := by decide +kernel
theorem dX12_removeCondition_2 : decode cX12_removeCondition 2 = .ok (.invokevirtual 205, 3) := by decide +kernel
theorem dX12_removeCondition_5 : decode cX12_removeCondition 5 = .ok (.aload_n 0, 1) := by decide +kernel
theorem dX12_removeCondition_6 : decode cX12_removeCondition 6 = .ok (.getfield 22, 3) := by decide +kernel
theorem dX12_removeCondition_9 : decode cX12_removeCondition 9 = .ok (.aload_n 0, 1) := by decide +kernel
theorem dX12_removeCondition_10 : decode cX12_removeCondition 10 = .ok (.getfield 10, 3) := by decide +kernel
theorem dX12_removeCondition_13 : decode cX12_removeCondition 13 = .ok (.invokevirtual 275, 3) := by decide +kernel
theorem dX12_removeCondition_16 : decode cX12_removeCondition 16 = .ok (.aload_n 0, 1) := by decide +kernel
theorem dX12_removeCondition_17 : decode cX12_removeCondition 17 = .ok (.getfield 10, 3) := by decide +kernel
theorem dX12_removeCondition_20 : decode cX12_removeCondition 20 = .ok (.invokevirtual 198, 3) := by decide +kernel
theorem dX12_removeCondition_23 : decode cX12_removeCondition 23 = .ok (.iload_n 1, 1) := by decide +kernel
theorem dX12_removeCondition_24 : decode cX12_removeCondition 24 = .ok (.invokevirtual 297, 3) := by decide +kernel
theorem dX12_removeCondition_27 : decode cX12_removeCondition 27 = .ok (.aload_n 0, 1) := by decide +kernel
theorem dX12_removeCondition_28 : decode cX12_removeCondition 28 = .ok (.getfield 10, 3) := by decide +kernel
theorem dX12_removeCondition_31 : decode cX12_removeCondition 31 = .ok (.invokevirtual 229, 3) := by decide +kernel
theorem dX12_removeCondition_34 : decode cX12_removeCondition 34 = .ok (.ireturn, 1) := by decide +kernel
theorem dX12_deleteSelected_0 : decode cX12_deleteSelected 0 = .ok (.aload_n 0, 1) := by decide +kernel
theorem dX12_deleteSelected_1 : decode cX12_deleteSelected 1 = .ok (.getfield 22, 3) := by decide +kernel
theorem dX12_deleteSelected_4 : decode cX12_deleteSelected 4 = .ok (.aload_n 0, 1) := by decide +kernel
theorem dX12_deleteSelected_5 : decode cX12_deleteSelected 5 = .ok (.getfield 10, 3) := by decide +kernel
theorem dX12_deleteSelected_8 : decode cX12_deleteSelected 8 = .ok (.invokevirtual 275, 3) := by decide +kernel
theorem dX12_deleteSelected_11 : decode cX12_deleteSelected 11 = .ok (.aload_n 0, 1) := by decide +kernel
theorem dX12_deleteSelected_12 : decode cX12_deleteSelected 12 = .ok (.getfield 10, 3) := by decide +kernel
theorem dX12_deleteSelected_15 : decode cX12_deleteSelected 15 = .ok (.invokevirtual 300, 3) := by decide +kernel
theorem dX12_deleteSelected_18 : decode cX12_deleteSelected 18 = .ok (.ireturn, 1) := by decide +kernel
theorem dX12_compact_0 : decode cX12_compact 0 = .ok (.aload_n 0, 1) := by decide +kernel
theorem dX12_compact_1 : decode cX12_compact 1 = .ok (.iload_n 1, 1) := by decide +kernel
theorem dX12_compact_2 : decode cX12_compact 2 = .ok (.invokevirtual 116, 3) := by decide +kernel
theorem dX12_compact_5 : decode cX12_compact 5 = .ok (.aload_n 0, 1) := by decide +kernel
theorem dX12_compact_6 : decode cX12_compact 6 = .ok (.getfield 22, 3) := by decide +kernel
theorem dX12_compact_9 : decode cX12_compact 9 = .ok (.aload_n 0, 1) := by decide +kernel
theorem dX12_compact_10 : decode cX12_compact 10 = .ok (.getfield 10, 3) := by decide +kernel
theorem dX12_compact_13 : decode cX12_compact 13 = .ok (.invokevirtual 275, 3) := by decide +kernel
theorem dX12_compact_16 : decode cX12_compact 16 = .ok (.aload_n 0, 1) := by decide +kernel
theorem dX12_compact_17 : decode cX12_compact 17 = .ok (.getfield 10, 3) := by decide +kernel
theorem dX12_compact_20 : decode cX12_compact 20 = .ok (.iload_n 1, 1) := by decide +kernel
theorem dX12_compact_21 : decode cX12_compact 21 = .ok (.invokevirtual 135, 3) := by decide +kernel
theorem dX12_compact_24 : decode cX12_compact 24 = .ok (.invokevirtual 139, 3) := by decide +kernel
theorem dX12_compact_27 : decode cX12_compact 27 = .ok (.istore_n 2, 1) := by decide +kernel
theorem dX12_compact_28 : decode cX12_compact 28 = .ok (.aload_n 0, 1) := by decide +kernel
theorem dX12_compact_29 : decode cX12_compact 29 = .ok (.getfield 10, 3) := by decide +kernel
theorem dX12_compact_32 : decode cX12_compact 32 = .ok (.iload_n 1, 1) := by decide +kernel
theorem dX12_compact_33 : decode cX12_compact 33 = .ok (.invokevirtual 122, 3) := by decide +kernel
theorem dX12_compact_36 : decode cX12_compact 36 = .ok (.invokevirtual 303, 3) := by decide +kernel
theorem dX12_compact_39 : decode cX12_compact 39 = .ok (.iload_n 2, 1) := by decide +kernel
theorem dX12_compact_40 : decode cX12_compact 40 = .ok (.aload_n 0, 1) := by decide +kernel
theorem dX12_compact_41 : decode cX12_compact 41 = .ok (.getfield 10, 3) := by decide +kernel
theorem dX12_compact_44 : decode cX12_compact 44 = .ok (.iload_n 1, 1) := by decide +kernel
theorem dX12_compact_45 : decode cX12_compact 45 = .ok (.invokevirtual 135, 3) := by decide +kernel
theorem dX12_compact_48 : decode cX12_compact 48 = .ok (.invokevirtual 139, 3) := by decide +kernel
theorem dX12_compact_51 : decode cX12_compact 51 = .ok (.isub, 1) := by decide +kernel
theorem dX12_compact_52 : decode cX12_compact 52 = .ok (.ireturn, 1) := by decide +kernel
theorem dX12_undoableCount_0 : decode cX12_undoableCount 0 = .ok (.aload_n 0, 1) := by decide +kernel
theorem dX12_undoableCount_1 : decode cX12_undoableCount 1 = .ok (.getfield 22, 3) := by decide +kernel
theorem dX12_undoableCount_4 : decode cX12_undoableCount 4 = .ok (.invokevirtual 336, 3) := by decide +kernel
theorem dX12_undoableCount_7 : decode cX12_undoableCount 7 = .ok (.ireturn, 1) := by decide +kernel
theorem dX12_undo_0 : decode cX12_undo 0 = .ok (.aload_n 0, 1) := by decide +kernel
theorem dX12_undo_1 : decode cX12_undo 1 = .ok (.getfield 22, 3) := by decide +kernel
theorem dX12_undo_4 : decode cX12_undo 4 = .ok (.invokevirtual 336, 3) := by decide +kernel
theorem dX12_undo_7 : decode cX12_undo 7 = .ok (.ifCond .ne 14, 3) := by decide +kernel
theorem dX12_undo_10 : decode cX12_undo 10 = .ok (.new 266, 3) := by decide +kernel
theorem dX12_undo_13 : decode cX12_undo 13 = .ok (.dup, 1) := by decide +kernel
theorem dX12_undo_14 : decode cX12_undo 14 = .ok (.ldc_w 337, 3) := by decide +kernel
theorem dX12_undo_17 : decode cX12_undo 17 = .ok (.invokespecial 270, 3) := by decide +kernel
theorem dX12_undo_20 : decode cX12_undo 20 = .ok (.athrow, 1) := by decide +kernel
theorem dX12_undo_21 : decode cX12_undo 21 = .ok (.aload_n 0, 1) := by decide +kernel
theorem dX12_undo_22 : decode cX12_undo 22 = .ok (.getfield 22, 3) := by decide +kernel
theorem dX12_undo_25 : decode cX12_undo 25 = .ok (.aload_n 0, 1) := by decide +kernel
theorem dX12_undo_26 : decode cX12_undo 26 = .ok (.getfield 10, 3) := by decide +kernel
theorem dX12_undo_29 : decode cX12_undo 29 = .ok (.invokevirtual 339, 3) := by decide +kernel
theorem dX12_undo_32 : decode cX12_undo 32 = .ok (.aload_n 0, 1) := by decide +kernel
theorem dX12_undo_33 : decode cX12_undo 33 = .ok (.getfield 22, 3) := by decide +kernel
theorem dX12_undo_36 : decode cX12_undo 36 = .ok (.invokevirtual 336, 3) := by decide +kernel
theorem dX12_undo_39 : decode cX12_undo 39 = .ok (.ireturn, 1) := by decide +kernel
theorem dX12_saveSnapshot_0 : decode cX12_saveSnapshot 0 = .ok (.aload_n 0, 1) := by decide +kernel
theorem dX12_saveSnapshot_1 : decode cX12_saveSnapshot 1 = .ok (.getfield 16, 3) := by decide +kernel
theorem dX12_saveSnapshot_4 : decode cX12_saveSnapshot 4 = .ok (.aload_n 0, 1) := by decide +kernel
theorem dX12_saveSnapshot_5 : decode cX12_saveSnapshot 5 = .ok (.getfield 10, 3) := by decide +kernel
theorem dX12_saveSnapshot_8 : decode cX12_saveSnapshot 8 = .ok (.invokevirtual 342, 3) := by decide +kernel
theorem dX12_saveSnapshot_11 : decode cX12_saveSnapshot 11 = .ok (.aload_n 0, 1) := by decide +kernel
theorem dX12_saveSnapshot_12 : decode cX12_saveSnapshot 12 = .ok (.iconst 1, 1) := by decide +kernel
theorem dX12_saveSnapshot_13 : decode cX12_saveSnapshot 13 = .ok (.putfield 104, 3) := by decide +kernel
theorem dX12_saveSnapshot_16 : decode cX12_saveSnapshot 16 = .ok (.return_, 1) := by decide +kernel
theorem dX12_restoreSnapshot_0 : decode cX12_restoreSnapshot 0 = .ok (.aload_n 0, 1) := by decide +kernel
theorem dX12_restoreSnapshot_1 : decode cX12_restoreSnapshot 1 = .ok (.getfield 104, 3) := by decide +kernel
theorem dX12_restoreSnapshot_4 : decode cX12_restoreSnapshot 4 = .ok (.ifCond .ne 14, 3) := by decide +kernel
theorem dX12_restoreSnapshot_7 : decode cX12_restoreSnapshot 7 = .ok (.new 266, 3) := by decide +kernel
theorem dX12_restoreSnapshot_10 : decode cX12_restoreSnapshot 10 = .ok (.dup, 1) := by decide +kernel
theorem dX12_restoreSnapshot_11 : decode cX12_restoreSnapshot 11 = .ok (.ldc_w 345, 3) := by decide +kernel
theorem dX12_restoreSnapshot_14 : decode cX12_restoreSnapshot 14 = .ok (.invokespecial 270, 3) := by decide +kernel
theorem dX12_restoreSnapshot_17 : decode cX12_restoreSnapshot 17 = .ok (.athrow, 1) := by decide +kernel
theorem dX12_restoreSnapshot_18 : decode cX12_restoreSnapshot 18 = .ok (.aload_n 0, 1) := by decide +kernel
theorem dX12_restoreSnapshot_19 : decode cX12_restoreSnapshot 19 = .ok (.getfield 10, 3) := by decide +kernel
theorem dX12_restoreSnapshot_22 : decode cX12_restoreSnapshot 22 = .ok (.aload_n 0, 1) := by decide +kernel
theorem dX12_restoreSnapshot_23 : decode cX12_restoreSnapshot 23 = .ok (.getfield 16, 3) := by decide +kernel
theorem dX12_restoreSnapshot_26 : decode cX12_restoreSnapshot 26 = .ok (.invokevirtual 342, 3) := by decide +kernel
theorem dX12_restoreSnapshot_29 : decode cX12_restoreSnapshot 29 = .ok (.aload_n 0, 1) := by decide +kernel
theorem dX12_restoreSnapshot_30 : decode cX12_restoreSnapshot 30 = .ok (.getfield 22, 3) := by decide +kernel
theorem dX12_restoreSnapshot_33 : decode cX12_restoreSnapshot 33 = .ok (.invokevirtual 103, 3) := by decide +kernel
theorem dX12_restoreSnapshot_36 : decode cX12_restoreSnapshot 36 = .ok (.aload_n 0, 1) := by decide +kernel
theorem dX12_restoreSnapshot_37 : decode cX12_restoreSnapshot 37 = .ok (.getfield 10, 3) := by decide +kernel
theorem dX12_restoreSnapshot_40 : decode cX12_restoreSnapshot 40 = .ok (.invokevirtual 108, 3) := by decide +kernel
theorem dX12_restoreSnapshot_43 : decode cX12_restoreSnapshot 43 = .ok (.ireturn, 1) := by decide +kernel
theorem dX12_checkLength_0 : decode cX12_checkLength 0 = .ok (.iload_n 1, 1) := by decide +kernel
theorem dX12_checkLength_1 : decode cX12_checkLength 1 = .ok (.ifCond .lt 14, 3) := by decide +kernel
theorem dX12_checkLength_4 : decode cX12_checkLength 4 = .ok (.iload_n 1, 1) := by decide +kernel
theorem dX12_checkLength_5 : decode cX12_checkLength 5 = .ok (.aload_n 0, 1) := by decide +kernel
theorem dX12_checkLength_6 : decode cX12_checkLength 6 = .ok (.getfield 29, 3) := by decide +kernel
theorem dX12_checkLength_9 : decode cX12_checkLength 9 = .ok (.invokevirtual 75, 3) := by decide +kernel
theorem dX12_checkLength_12 : decode cX12_checkLength 12 = .ok (.if_icmp .le 14, 3) := by decide +kernel
theorem dX12_checkLength_15 : decode cX12_checkLength 15 = .ok (.new 347, 3) := by decide +kernel
theorem dX12_checkLength_18 : decode cX12_checkLength 18 = .ok (.dup, 1) := by decide +kernel
theorem dX12_checkLength_19 : decode cX12_checkLength 19 = .ok (.ldc_w 349, 3) := by decide +kernel
theorem dX12_checkLength_22 : decode cX12_checkLength 22 = .ok (.invokespecial 351, 3) := by decide +kernel
theorem dX12_checkLength_25 : decode cX12_checkLength 25 = .ok (.athrow, 1) := by decide +kernel
theorem dX12_checkLength_26 : decode cX12_checkLength 26 = .ok (.return_, 1) := by decide +kernel
theorem dX12_checkColumn_0 : decode cX12_checkColumn 0 = .ok (.iload_n 1, 1) := by decide +kernel
theorem dX12_checkColumn_1 : decode cX12_checkColumn 1 = .ok (.ifCond .lt 14, 3) := by decide +kernel
theorem dX12_checkColumn_4 : decode cX12_checkColumn 4 = .ok (.iload_n 1, 1) := by decide +kernel
theorem dX12_checkColumn_5 : decode cX12_checkColumn 5 = .ok (.aload_n 0, 1) := by decide +kernel
theorem dX12_checkColumn_6 : decode cX12_checkColumn 6 = .ok (.getfield 10, 3) := by decide +kernel
theorem dX12_checkColumn_9 : decode cX12_checkColumn 9 = .ok (.invokevirtual 115, 3) := by decide +kernel
theorem dX12_checkColumn_12 : decode cX12_checkColumn 12 = .ok (.if_icmp .lt 14, 3) := by decide +kernel
theorem dX12_checkColumn_15 : decode cX12_checkColumn 15 = .ok (.new 166, 3) := by decide +kernel
theorem dX12_checkColumn_18 : decode cX12_checkColumn 18 = .ok (.dup, 1) := by decide +kernel
theorem dX12_checkColumn_19 : decode cX12_checkColumn 19 = .ok (.ldc_w 352, 3) := by decide +kernel
theorem dX12_checkColumn_22 : decode cX12_checkColumn 22 = .ok (.invokespecial 170, 3) := by decide +kernel
theorem dX12_checkColumn_25 : decode cX12_checkColumn 25 = .ok (.athrow, 1) := by decide +kernel
theorem dX12_checkColumn_26 : decode cX12_checkColumn 26 = .ok (.return_, 1) := by decide +kernel
theorem dX12_checkRow_0 : decode cX12_checkRow 0 = .ok (.aload_n 0, 1) := by decide +kernel
theorem dX12_checkRow_1 : decode cX12_checkRow 1 = .ok (.getfield 10, 3) := by decide +kernel
theorem dX12_checkRow_4 : decode cX12_checkRow 4 = .ok (.iload_n 1, 1) := by decide +kernel
theorem dX12_checkRow_5 : decode cX12_checkRow 5 = .ok (.invokevirtual 354, 3) := by decide +kernel
theorem dX12_checkRow_8 : decode cX12_checkRow 8 = .ok (.ifCond .ne 14, 3) := by decide +kernel
theorem dX12_checkRow_11 : decode cX12_checkRow 11 = .ok (.new 166, 3) := by decide +kernel
theorem dX12_checkRow_14 : decode cX12_checkRow 14 = .ok (.dup, 1) := by decide +kernel
theorem dX12_checkRow_15 : decode cX12_checkRow 15 = .ok (.ldc_w 357, 3) := by decide +kernel
theorem dX12_checkRow_18 : decode cX12_checkRow 18 = .ok (.invokespecial 170, 3) := by decide +kernel
theorem dX12_checkRow_21 : decode cX12_checkRow 21 = .ok (.athrow, 1) := by decide +kernel
theorem dX12_checkRow_22 : decode cX12_checkRow 22 = .ok (.return_, 1) := by decide +kernel
theorem dX12_checkCode_0 : decode cX12_checkCode 0 = .ok (.iload_n 2, 1) := by decide +kernel
theorem dX12_checkCode_1 : decode cX12_checkCode 1 = .ok (.ifCond .lt 18, 3) := by decide +kernel
theorem dX12_checkCode_4 : decode cX12_checkCode 4 = .ok (.iload_n 2, 1) := by decide +kernel
theorem dX12_checkCode_5 : decode cX12_checkCode 5 = .ok (.aload_n 0, 1) := by decide +kernel
theorem dX12_checkCode_6 : decode cX12_checkCode 6 = .ok (.getfield 10, 3) := by decide +kernel
theorem dX12_checkCode_9 : decode cX12_checkCode 9 = .ok (.iload_n 1, 1) := by decide +kernel
theorem dX12_checkCode_10 : decode cX12_checkCode 10 = .ok (.invokevirtual 135, 3) := by decide +kernel
theorem dX12_checkCode_13 : decode cX12_checkCode 13 = .ok (.invokevirtual 139, 3) := by decide +kernel
theorem dX12_checkCode_16 : decode cX12_checkCode 16 = .ok (.if_icmp .lt 14, 3) := by decide +kernel
theorem dX12_checkCode_19 : decode cX12_checkCode 19 = .ok (.new 166, 3) := by decide +kernel
theorem dX12_checkCode_22 : decode cX12_checkCode 22 = .ok (.dup, 1) := by decide +kernel
theorem dX12_checkCode_23 : decode cX12_checkCode 23 = .ok (.ldc_w 359, 3) := by decide +kernel
theorem dX12_checkCode_26 : decode cX12_checkCode 26 = .ok (.invokespecial 170, 3) := by decide +kernel
theorem dX12_checkCode_29 : decode cX12_checkCode 29 = .ok (.athrow, 1) := by decide +kernel
theorem dX12_checkCode_30 : decode cX12_checkCode 30 = .ok (.return_, 1) := by decide +kernel
theorem dX12_checkCondition_0 : decode cX12_checkCondition 0 = .ok (.aload_n 0, 1) := by decide +kernel
theorem dX12_checkCondition_1 : decode cX12_checkCondition 1 = .ok (.getfield 10, 3) := by decide +kernel
theorem dX12_checkCondition_4 : decode cX12_checkCondition 4 = .ok (.invokevirtual 198, 3) := by decide +kernel
theorem dX12_checkCondition_7 : decode cX12_checkCondition 7 = .ok (.iload_n 1, 1) := by decide +kernel
theorem dX12_checkCondition_8 : decode cX12_checkCondition 8 = .ok (.invokevirtual 361, 3) := by decide +kernel
theorem dX12_checkCondition_11 : decode cX12_checkCondition 11 = .ok (.ifCond .ne 14, 3) := by decide +kernel
theorem dX12_checkCondition_14 : decode cX12_checkCondition 14 = .ok (.new 166, 3) := by decide +kernel
theorem dX12_checkCondition_17 : decode cX12_checkCondition 17 = .ok (.dup, 1) := by decide +kernel
theorem dX12_checkCondition_18 : decode cX12_checkCondition 18 = .ok (.ldc_w 364, 3) := by decide +kernel
theorem dX12_checkCondition_21 : decode cX12_checkCondition 21 = .ok (.invokespecial 170, 3) := by decide +kernel
theorem dX12_checkCondition_24 : decode cX12_checkCondition 24 = .ok (.athrow, 1) := by decide +kernel
theorem dX12_checkCondition_25 : decode cX12_checkCondition 25 = .ok (.return_, 1) := by decide +kernel
theorem dX12_checkValue_0 : decode cX12_checkValue 0 = .ok (.iload_n 1, 1) := by decide +kernel
theorem dX12_checkValue_1 : decode cX12_checkValue 1 = .ok (.sipush (-9999), 3) := by decide +kernel
theorem dX12_checkValue_4 : decode cX12_checkValue 4 = .ok (.if_icmp .lt 10, 3) := by decide +kernel
theorem dX12_checkValue_7 : decode cX12_checkValue 7 = .ok (.iload_n 1, 1) := by decide +kernel
theorem dX12_checkValue_8 : decode cX12_checkValue 8 = .ok (.sipush 9999, 3) := by decide +kernel
theorem dX12_checkValue_11 : decode cX12_checkValue 11 = .ok (.if_icmp .le 14, 3) := by decide +kernel
theorem dX12_checkValue_14 : decode cX12_checkValue 14 = .ok (.new 347, 3) := by decide +kernel
theorem dX12_checkValue_17 : decode cX12_checkValue 17 = .ok (.dup, 1) := by decide +kernel
theorem dX12_checkValue_18 : decode cX12_checkValue 18 = .ok (.ldc_w 366, 3) := by decide +kernel
theorem dX12_checkValue_21 : decode cX12_checkValue 21 = .ok (.invokespecial 351, 3) := by decide +kernel
theorem dX12_checkValue_24 : decode cX12_checkValue 24 = .ok (.athrow, 1) := by decide +kernel
theorem dX12_checkValue_25 : decode cX12_checkValue 25 = .ok (.return_, 1) := by decide +kernel
theorem dX12_checkAnySeen_0 : decode cX12_checkAnySeen 0 = .ok (.aload_n 0, 1) := by decide +kernel
theorem dX12_checkAnySeen_1 : decode cX12_checkAnySeen 1 = .ok (.getfield 56, 3) := by decide +kernel
theorem dX12_checkAnySeen_4 : decode cX12_checkAnySeen 4 = .ok (.invokevirtual 139, 3) := by decide +kernel
theorem dX12_checkAnySeen_7 : decode cX12_checkAnySeen 7 = .ok (.ifCond .ne 14, 3) := by decide +kernel
theorem dX12_checkAnySeen_10 : decode cX12_checkAnySeen 10 = .ok (.new 266, 3) := by decide +kernel
theorem dX12_checkAnySeen_13 : decode cX12_checkAnySeen 13 = .ok (.dup, 1) := by decide +kernel
theorem dX12_checkAnySeen_14 : decode cX12_checkAnySeen 14 = .ok (.ldc_w 368, 3) := by decide +kernel
theorem dX12_checkAnySeen_17 : decode cX12_checkAnySeen 17 = .ok (.invokespecial 270, 3) := by decide +kernel
theorem dX12_checkAnySeen_20 : decode cX12_checkAnySeen 20 = .ok (.athrow, 1) := by decide +kernel
theorem dX12_checkAnySeen_21 : decode cX12_checkAnySeen 21 = .ok (.return_, 1) := by decide +kernel
theorem dX12_wordsOf_0 : decode cX12_wordsOf 0 = .ok (.aload_n 0, 1) := by decide +kernel
theorem dX12_wordsOf_1 : decode cX12_wordsOf 1 = .ok (.getfield 10, 3) := by decide +kernel
theorem dX12_wordsOf_4 : decode cX12_wordsOf 4 = .ok (.invokevirtual 108, 3) := by decide +kernel
theorem dX12_wordsOf_7 : decode cX12_wordsOf 7 = .ok (.aload_n 0, 1) := by decide +kernel
theorem dX12_wordsOf_8 : decode cX12_wordsOf 8 = .ok (.getfield 10, 3) := by decide +kernel
theorem dX12_wordsOf_11 : decode cX12_wordsOf 11 = .ok (.iload_n 1, 1) := by decide +kernel
theorem dX12_wordsOf_12 : decode cX12_wordsOf 12 = .ok (.invokevirtual 135, 3) := by decide +kernel
theorem dX12_wordsOf_15 : decode cX12_wordsOf 15 = .ok (.invokevirtual 160, 3) := by decide +kernel
theorem dX12_wordsOf_18 : decode cX12_wordsOf 18 = .ok (.imul, 1) := by decide +kernel
theorem dX12_wordsOf_19 : decode cX12_wordsOf 19 = .ok (.bipush 64, 2) := by decide +kernel
theorem dX12_wordsOf_21 : decode cX12_wordsOf 21 = .ok (.iadd, 1) := by decide +kernel
theorem dX12_wordsOf_22 : decode cX12_wordsOf 22 = .ok (.iconst 1, 1) := by decide +kernel
theorem dX12_wordsOf_23 : decode cX12_wordsOf 23 = .ok (.isub, 1) := by decide +kernel
theorem dX12_wordsOf_24 : decode cX12_wordsOf 24 = .ok (.bipush 64, 2) := by decide +kernel
theorem dX12_wordsOf_26 : decode cX12_wordsOf 26 = .ok (.idiv, 1) := by decide +kernel
theorem dX12_wordsOf_27 : decode cX12_wordsOf 27 = .ok (.ireturn, 1) := by decide +kernel
theorem dX12_sumOfSelected_0 : decode cX12_sumOfSelected 0 = .ok (.lconst 0, 1) := by decide +kernel
theorem dX12_sumOfSelected_1 : decode cX12_sumOfSelected 1 = .ok (.lstore_n 2, 1) := by decide +kernel
theorem dX12_sumOfSelected_2 : decode cX12_sumOfSelected 2 = .ok (.iconst 0, 1) := by decide +kernel
theorem dX12_sumOfSelected_3 : decode cX12_sumOfSelected 3 = .ok (.istore 4, 2) := by decide +kernel
theorem dX12_sumOfSelected_5 : decode cX12_sumOfSelected 5 = .ok (.iload 4, 2) := by decide +kernel
theorem dX12_sumOfSelected_7 : decode cX12_sumOfSelected 7 = .ok (.aload_n 0, 1) := by decide +kernel
theorem dX12_sumOfSelected_8 : decode cX12_sumOfSelected 8 = .ok (.getfield 10, 3) := by decide +kernel
theorem dX12_sumOfSelected_11 : decode cX12_sumOfSelected 11 = .ok (.invokevirtual 108, 3) := by decide +kernel
theorem dX12_sumOfSelected_14 : decode cX12_sumOfSelected 14 = .ok (.if_icmp .ge 38, 3) := by decide +kernel
theorem dX12_sumOfSelected_17 : decode cX12_sumOfSelected 17 = .ok (.aload_n 0, 1) := by decide +kernel
theorem dX12_sumOfSelected_18 : decode cX12_sumOfSelected 18 = .ok (.getfield 10, 3) := by decide +kernel
theorem dX12_sumOfSelected_21 : decode cX12_sumOfSelected 21 = .ok (.iload 4, 2) := by decide +kernel
theorem dX12_sumOfSelected_23 : decode cX12_sumOfSelected 23 = .ok (.invokevirtual 226, 3) := by decide +kernel
theorem dX12_sumOfSelected_26 : decode cX12_sumOfSelected 26 = .ok (.ifCond .eq 20, 3) := by decide +kernel
theorem dX12_sumOfSelected_29 : decode cX12_sumOfSelected 29 = .ok (.lload_n 2, 1) := by decide +kernel
theorem dX12_sumOfSelected_30 : decode cX12_sumOfSelected 30 = .ok (.aload_n 0, 1) := by decide +kernel
theorem dX12_sumOfSelected_31 : decode cX12_sumOfSelected 31 = .ok (.getfield 10, 3) := by decide +kernel
theorem dX12_sumOfSelected_34 : decode cX12_sumOfSelected 34 = .ok (.iload_n 1, 1) := by decide +kernel
theorem dX12_sumOfSelected_35 : decode cX12_sumOfSelected 35 = .ok (.invokevirtual 122, 3) := by decide +kernel
theorem dX12_sumOfSelected_38 : decode cX12_sumOfSelected 38 = .ok (.iload 4, 2) := by decide +kernel
theorem dX12_sumOfSelected_40 : decode cX12_sumOfSelected 40 = .ok (.invokevirtual 126, 3) := by decide +kernel
theorem dX12_sumOfSelected_43 : decode cX12_sumOfSelected 43 = .ok (.i2l, 1) := by decide +kernel
theorem dX12_sumOfSelected_44 : decode cX12_sumOfSelected 44 = .ok (.ladd, 1) := by decide +kernel
theorem dX12_sumOfSelected_45 : decode cX12_sumOfSelected 45 = .ok (.lstore_n 2, 1) := by decide +kernel
theorem dX12_sumOfSelected_46 : decode cX12_sumOfSelected 46 = .ok (.iinc 4 1, 3) := by decide +kernel
theorem dX12_sumOfSelected_49 : decode cX12_sumOfSelected 49 = .ok (.goto (-44), 3) := by decide +kernel
theorem dX12_sumOfSelected_52 : decode cX12_sumOfSelected 52 = .ok (.lload_n 2, 1) := by decide +kernel
theorem dX12_sumOfSelected_53 : decode cX12_sumOfSelected 53 = .ok (.lreturn, 1) := by decide +kernel
theorem dX12_collectSelected_0 : decode cX12_collectSelected 0 = .ok (.aload_n 0, 1) := by decide +kernel
theorem dX12_collectSelected_1 : decode cX12_collectSelected 1 = .ok (.getfield 56, 3) := by decide +kernel
theorem dX12_collectSelected_4 : decode cX12_collectSelected 4 = .ok (.invokevirtual 370, 3) := by decide +kernel
theorem dX12_collectSelected_7 : decode cX12_collectSelected 7 = .ok (.iconst 0, 1) := by decide +kernel
theorem dX12_collectSelected_8 : decode cX12_collectSelected 8 = .ok (.istore_n 2, 1) := by decide +kernel
theorem dX12_collectSelected_9 : decode cX12_collectSelected 9 = .ok (.iload_n 2, 1) := by decide +kernel
theorem dX12_collectSelected_10 : decode cX12_collectSelected 10 = .ok (.aload_n 0, 1) := by decide +kernel
theorem dX12_collectSelected_11 : decode cX12_collectSelected 11 = .ok (.getfield 10, 3) := by decide +kernel
theorem dX12_collectSelected_14 : decode cX12_collectSelected 14 = .ok (.invokevirtual 108, 3) := by decide +kernel
theorem dX12_collectSelected_17 : decode cX12_collectSelected 17 = .ok (.if_icmp .ge 39, 3) := by decide +kernel
theorem dX12_collectSelected_20 : decode cX12_collectSelected 20 = .ok (.aload_n 0, 1) := by decide +kernel
theorem dX12_collectSelected_21 : decode cX12_collectSelected 21 = .ok (.getfield 10, 3) := by decide +kernel
theorem dX12_collectSelected_24 : decode cX12_collectSelected 24 = .ok (.iload_n 2, 1) := by decide +kernel
theorem dX12_collectSelected_25 : decode cX12_collectSelected 25 = .ok (.invokevirtual 226, 3) := by decide +kernel
theorem dX12_collectSelected_28 : decode cX12_collectSelected 28 = .ok (.ifCond .eq 22, 3) := by decide +kernel
theorem dX12_collectSelected_31 : decode cX12_collectSelected 31 = .ok (.aload_n 0, 1) := by decide +kernel
theorem dX12_collectSelected_32 : decode cX12_collectSelected 32 = .ok (.getfield 56, 3) := by decide +kernel
theorem dX12_collectSelected_35 : decode cX12_collectSelected 35 = .ok (.aload_n 0, 1) := by decide +kernel
theorem dX12_collectSelected_36 : decode cX12_collectSelected 36 = .ok (.getfield 10, 3) := by decide +kernel
theorem dX12_collectSelected_39 : decode cX12_collectSelected 39 = .ok (.iload_n 1, 1) := by decide +kernel
theorem dX12_collectSelected_40 : decode cX12_collectSelected 40 = .ok (.invokevirtual 122, 3) := by decide +kernel
theorem dX12_collectSelected_43 : decode cX12_collectSelected 43 = .ok (.iload_n 2, 1) := by decide +kernel
end
section
/-! decode rows -/
theorem dX12_collectSelected_44 : decode cX12_collectSelected 44 = .ok (.invokevirtual 126, 3) := by decide +kernel
theorem dX12_collectSelected_47 : decode cX12_collectSelected 47 = .ok (.invokevirtual 371, 3) := by decide +kernel
theorem dX12_collectSelected_50 : decode cX12_collectSelected 50 = .ok (.iinc 2 1, 3) := by decide +kernel
theorem dX12_collectSelected_53 : decode cX12_collectSelected 53 = .ok (.goto (-44), 3) := by decide +kernel
theorem dX12_collectSelected_56 : decode cX12_collectSelected 56 = .ok (.return_, 1) := by decide +kernel
theorem dX12_runsAfterSorting_0 : decode cX12_runsAfterSorting 0 = .ok (.aload_n 0, 1) := by decide +kernel
theorem dX12_runsAfterSorting_1 : decode cX12_runsAfterSorting 1 = .ok (.getfield 49, 3) := by decide +kernel
theorem dX12_runsAfterSorting_4 : decode cX12_runsAfterSorting 4 = .ok (.aload_n 0, 1) := by decide +kernel
theorem dX12_runsAfterSorting_5 : decode cX12_runsAfterSorting 5 = .ok (.getfield 10, 3) := by decide +kernel
theorem dX12_runsAfterSorting_8 : decode cX12_runsAfterSorting 8 = .ok (.iload_n 1, 1) := by decide +kernel
theorem dX12_runsAfterSorting_9 : decode cX12_runsAfterSorting 9 = .ok (.invokevirtual 122, 3) := by decide +kernel
theorem dX12_runsAfterSorting_12 : decode cX12_runsAfterSorting 12 = .ok (.iconst 1, 1) := by decide +kernel
theorem dX12_runsAfterSorting_13 : decode cX12_runsAfterSorting 13 = .ok (.invokevirtual 374, 3) := by decide +kernel
theorem dX12_runsAfterSorting_16 : decode cX12_runsAfterSorting 16 = .ok (.iconst 0, 1) := by decide +kernel
theorem dX12_runsAfterSorting_17 : decode cX12_runsAfterSorting 17 = .ok (.istore_n 2, 1) := by decide +kernel
theorem dX12_runsAfterSorting_18 : decode cX12_runsAfterSorting 18 = .ok (.iconst 0, 1) := by decide +kernel
theorem dX12_runsAfterSorting_19 : decode cX12_runsAfterSorting 19 = .ok (.istore_n 3, 1) := by decide +kernel
theorem dX12_runsAfterSorting_20 : decode cX12_runsAfterSorting 20 = .ok (.iload_n 3, 1) := by decide +kernel
theorem dX12_runsAfterSorting_21 : decode cX12_runsAfterSorting 21 = .ok (.aload_n 0, 1) := by decide +kernel
theorem dX12_runsAfterSorting_22 : decode cX12_runsAfterSorting 22 = .ok (.getfield 10, 3) := by decide +kernel
theorem dX12_runsAfterSorting_25 : decode cX12_runsAfterSorting 25 = .ok (.invokevirtual 115, 3) := by decide +kernel
theorem dX12_runsAfterSorting_28 : decode cX12_runsAfterSorting 28 = .ok (.if_icmp .ge 27, 3) := by decide +kernel
theorem dX12_runsAfterSorting_31 : decode cX12_runsAfterSorting 31 = .ok (.iload_n 2, 1) := by decide +kernel
theorem dX12_runsAfterSorting_32 : decode cX12_runsAfterSorting 32 = .ok (.aload_n 0, 1) := by decide +kernel
theorem dX12_runsAfterSorting_33 : decode cX12_runsAfterSorting 33 = .ok (.getfield 10, 3) := by decide +kernel
theorem dX12_runsAfterSorting_36 : decode cX12_runsAfterSorting 36 = .ok (.iload_n 3, 1) := by decide +kernel
theorem dX12_runsAfterSorting_37 : decode cX12_runsAfterSorting 37 = .ok (.invokevirtual 122, 3) := by decide +kernel
theorem dX12_runsAfterSorting_40 : decode cX12_runsAfterSorting 40 = .ok (.aload_n 0, 1) := by decide +kernel
theorem dX12_runsAfterSorting_41 : decode cX12_runsAfterSorting 41 = .ok (.getfield 49, 3) := by decide +kernel
theorem dX12_runsAfterSorting_44 : decode cX12_runsAfterSorting 44 = .ok (.invokevirtual 187, 3) := by decide +kernel
theorem dX12_runsAfterSorting_47 : decode cX12_runsAfterSorting 47 = .ok (.iadd, 1) := by decide +kernel
theorem dX12_runsAfterSorting_48 : decode cX12_runsAfterSorting 48 = .ok (.istore_n 2, 1) := by decide +kernel
theorem dX12_runsAfterSorting_49 : decode cX12_runsAfterSorting 49 = .ok (.iinc 3 1, 3) := by decide +kernel
theorem dX12_runsAfterSorting_52 : decode cX12_runsAfterSorting 52 = .ok (.goto (-32), 3) := by decide +kernel
theorem dX12_runsAfterSorting_55 : decode cX12_runsAfterSorting 55 = .ok (.iload_n 2, 1) := by decide +kernel
theorem dX12_runsAfterSorting_56 : decode cX12_runsAfterSorting 56 = .ok (.ireturn, 1) := by decide +kernel
theorem dX12_packingDifferences_0 : decode cX12_packingDifferences 0 = .ok (.aload_n 0, 1) := by decide +kernel
theorem dX12_packingDifferences_1 : decode cX12_packingDifferences 1 = .ok (.getfield 63, 3) := by decide +kernel
theorem dX12_packingDifferences_4 : decode cX12_packingDifferences 4 = .ok (.aload_n 1, 1) := by decide +kernel
theorem dX12_packingDifferences_5 : decode cX12_packingDifferences 5 = .ok (.invokevirtual 173, 3) := by decide +kernel
theorem dX12_packingDifferences_8 : decode cX12_packingDifferences 8 = .ok (.iconst 0, 1) := by decide +kernel
theorem dX12_packingDifferences_9 : decode cX12_packingDifferences 9 = .ok (.istore_n 2, 1) := by decide +kernel
theorem dX12_packingDifferences_10 : decode cX12_packingDifferences 10 = .ok (.iconst 0, 1) := by decide +kernel
theorem dX12_packingDifferences_11 : decode cX12_packingDifferences 11 = .ok (.istore_n 3, 1) := by decide +kernel
theorem dX12_packingDifferences_12 : decode cX12_packingDifferences 12 = .ok (.iload_n 3, 1) := by decide +kernel
theorem dX12_packingDifferences_13 : decode cX12_packingDifferences 13 = .ok (.aload_n 1, 1) := by decide +kernel
theorem dX12_packingDifferences_14 : decode cX12_packingDifferences 14 = .ok (.invokevirtual 378, 3) := by decide +kernel
theorem dX12_packingDifferences_17 : decode cX12_packingDifferences 17 = .ok (.if_icmp .ge 51, 3) := by decide +kernel
theorem dX12_packingDifferences_20 : decode cX12_packingDifferences 20 = .ok (.aload_n 0, 1) := by decide +kernel
theorem dX12_packingDifferences_21 : decode cX12_packingDifferences 21 = .ok (.getfield 63, 3) := by decide +kernel
theorem dX12_packingDifferences_24 : decode cX12_packingDifferences 24 = .ok (.iload_n 3, 1) := by decide +kernel
theorem dX12_packingDifferences_25 : decode cX12_packingDifferences 25 = .ok (.invokevirtual 381, 3) := by decide +kernel
theorem dX12_packingDifferences_28 : decode cX12_packingDifferences 28 = .ok (.istore 4, 2) := by decide +kernel
theorem dX12_packingDifferences_30 : decode cX12_packingDifferences 30 = .ok (.iload 4, 2) := by decide +kernel
theorem dX12_packingDifferences_32 : decode cX12_packingDifferences 32 = .ok (.aload_n 1, 1) := by decide +kernel
theorem dX12_packingDifferences_33 : decode cX12_packingDifferences 33 = .ok (.invokevirtual 384, 3) := by decide +kernel
theorem dX12_packingDifferences_36 : decode cX12_packingDifferences 36 = .ok (.invokevirtual 139, 3) := by decide +kernel
theorem dX12_packingDifferences_39 : decode cX12_packingDifferences 39 = .ok (.if_icmp .ge 20, 3) := by decide +kernel
theorem dX12_packingDifferences_42 : decode cX12_packingDifferences 42 = .ok (.aload_n 1, 1) := by decide +kernel
theorem dX12_packingDifferences_43 : decode cX12_packingDifferences 43 = .ok (.invokevirtual 384, 3) := by decide +kernel
theorem dX12_packingDifferences_46 : decode cX12_packingDifferences 46 = .ok (.iload 4, 2) := by decide +kernel
theorem dX12_packingDifferences_48 : decode cX12_packingDifferences 48 = .ok (.invokevirtual 144, 3) := by decide +kernel
theorem dX12_packingDifferences_51 : decode cX12_packingDifferences 51 = .ok (.aload_n 1, 1) := by decide +kernel
theorem dX12_packingDifferences_52 : decode cX12_packingDifferences 52 = .ok (.iload_n 3, 1) := by decide +kernel
theorem dX12_packingDifferences_53 : decode cX12_packingDifferences 53 = .ok (.invokevirtual 126, 3) := by decide +kernel
theorem dX12_packingDifferences_56 : decode cX12_packingDifferences 56 = .ok (.if_icmp .eq 6, 3) := by decide +kernel
theorem dX12_packingDifferences_59 : decode cX12_packingDifferences 59 = .ok (.iinc 2 1, 3) := by decide +kernel
theorem dX12_packingDifferences_62 : decode cX12_packingDifferences 62 = .ok (.iinc 3 1, 3) := by decide +kernel
theorem dX12_packingDifferences_65 : decode cX12_packingDifferences 65 = .ok (.goto (-53), 3) := by decide +kernel
theorem dX12_packingDifferences_68 : decode cX12_packingDifferences 68 = .ok (.iload_n 2, 1) := by decide +kernel
theorem dX12_packingDifferences_69 : decode cX12_packingDifferences 69 = .ok (.ireturn, 1) := by decide +kernel
theorem dX12_addCondition_0 : decode cX12_addCondition 0 = .ok (.aload_n 0, 1) := by decide +kernel
theorem dX12_addCondition_1 : decode cX12_addCondition 1 = .ok (.iload_n 1, 1) := by decide +kernel
theorem dX12_addCondition_2 : decode cX12_addCondition 2 = .ok (.invokevirtual 116, 3) := by decide +kernel
theorem dX12_addCondition_5 : decode cX12_addCondition 5 = .ok (.aload_n 0, 1) := by decide +kernel
theorem dX12_addCondition_6 : decode cX12_addCondition 6 = .ok (.iload_n 2, 1) := by decide +kernel
theorem dX12_addCondition_7 : decode cX12_addCondition 7 = .ok (.invokevirtual 244, 3) := by decide +kernel
theorem dX12_addCondition_10 : decode cX12_addCondition 10 = .ok (.aload_n 0, 1) := by decide +kernel
theorem dX12_addCondition_11 : decode cX12_addCondition 11 = .ok (.getfield 10, 3) := by decide +kernel
theorem dX12_addCondition_14 : decode cX12_addCondition 14 = .ok (.invokevirtual 198, 3) := by decide +kernel
theorem dX12_addCondition_17 : decode cX12_addCondition 17 = .ok (.invokevirtual 387, 3) := by decide +kernel
theorem dX12_addCondition_20 : decode cX12_addCondition 20 = .ok (.ifCond .eq 14, 3) := by decide +kernel
theorem dX12_addCondition_23 : decode cX12_addCondition 23 = .ok (.new 266, 3) := by decide +kernel
theorem dX12_addCondition_26 : decode cX12_addCondition 26 = .ok (.dup, 1) := by decide +kernel
theorem dX12_addCondition_27 : decode cX12_addCondition 27 = .ok (.ldc_w 388, 3) := by decide +kernel
theorem dX12_addCondition_30 : decode cX12_addCondition 30 = .ok (.invokespecial 270, 3) := by decide +kernel
theorem dX12_addCondition_33 : decode cX12_addCondition 33 = .ok (.athrow, 1) := by decide +kernel
theorem dX12_addCondition_34 : decode cX12_addCondition 34 = .ok (.aload_n 0, 1) := by decide +kernel
theorem dX12_addCondition_35 : decode cX12_addCondition 35 = .ok (.getfield 22, 3) := by decide +kernel
theorem dX12_addCondition_38 : decode cX12_addCondition 38 = .ok (.aload_n 0, 1) := by decide +kernel
theorem dX12_addCondition_39 : decode cX12_addCondition 39 = .ok (.getfield 10, 3) := by decide +kernel
theorem dX12_addCondition_42 : decode cX12_addCondition 42 = .ok (.invokevirtual 275, 3) := by decide +kernel
theorem dX12_addCondition_45 : decode cX12_addCondition 45 = .ok (.aload_n 0, 1) := by decide +kernel
theorem dX12_addCondition_46 : decode cX12_addCondition 46 = .ok (.getfield 10, 3) := by decide +kernel
theorem dX12_addCondition_49 : decode cX12_addCondition 49 = .ok (.invokevirtual 198, 3) := by decide +kernel
theorem dX12_addCondition_52 : decode cX12_addCondition 52 = .ok (.iload_n 1, 1) := by decide +kernel
theorem dX12_addCondition_53 : decode cX12_addCondition 53 = .ok (.iload_n 2, 1) := by decide +kernel
theorem dX12_addCondition_54 : decode cX12_addCondition 54 = .ok (.iload_n 3, 1) := by decide +kernel
theorem dX12_addCondition_55 : decode cX12_addCondition 55 = .ok (.invokevirtual 390, 3) := by decide +kernel
theorem dX12_addCondition_58 : decode cX12_addCondition 58 = .ok (.aload_n 0, 1) := by decide +kernel
theorem dX12_addCondition_59 : decode cX12_addCondition 59 = .ok (.getfield 10, 3) := by decide +kernel
theorem dX12_addCondition_62 : decode cX12_addCondition 62 = .ok (.invokevirtual 229, 3) := by decide +kernel
theorem dX12_addCondition_65 : decode cX12_addCondition 65 = .ok (.ireturn, 1) := by decide +kernel
theorem dX12_sortRows_0 : decode cX12_sortRows 0 = .ok (.aload_n 0, 1) := by decide +kernel
theorem dX12_sortRows_1 : decode cX12_sortRows 1 = .ok (.getfield 49, 3) := by decide +kernel
theorem dX12_sortRows_4 : decode cX12_sortRows 4 = .ok (.aload_n 0, 1) := by decide +kernel
theorem dX12_sortRows_5 : decode cX12_sortRows 5 = .ok (.getfield 10, 3) := by decide +kernel
theorem dX12_sortRows_8 : decode cX12_sortRows 8 = .ok (.iload_n 1, 1) := by decide +kernel
theorem dX12_sortRows_9 : decode cX12_sortRows 9 = .ok (.invokevirtual 122, 3) := by decide +kernel
theorem dX12_sortRows_12 : decode cX12_sortRows 12 = .ok (.iload_n 2, 1) := by decide +kernel
theorem dX12_sortRows_13 : decode cX12_sortRows 13 = .ok (.invokevirtual 374, 3) := by decide +kernel
theorem dX12_sortRows_16 : decode cX12_sortRows 16 = .ok (.aload_n 0, 1) := by decide +kernel
theorem dX12_sortRows_17 : decode cX12_sortRows 17 = .ok (.getfield 10, 3) := by decide +kernel
theorem dX12_sortRows_20 : decode cX12_sortRows 20 = .ok (.aload_n 0, 1) := by decide +kernel
theorem dX12_sortRows_21 : decode cX12_sortRows 21 = .ok (.getfield 49, 3) := by decide +kernel
theorem dX12_sortRows_24 : decode cX12_sortRows 24 = .ok (.invokevirtual 394, 3) := by decide +kernel
theorem dX12_sortRows_27 : decode cX12_sortRows 27 = .ok (.return_, 1) := by decide +kernel
theorem dJ5_init_d00df_0 : decode cJ5_init_d00df 0 = .ok (.aload_n 0, 1) := by decide +kernel
theorem dJ5_init_d00df_1 : decode cJ5_init_d00df 1 = .ok (.invokespecial 3, 3) := by decide +kernel
theorem dJ5_init_d00df_4 : decode cJ5_init_d00df 4 = .ok (.getstatic 18, 3) := by decide +kernel
theorem dJ5_init_d00df_7 : decode cJ5_init_d00df 7 = .ok (.ifCond .eq 18, 3) := by decide +kernel
theorem dJ5_init_d00df_10 : decode cJ5_init_d00df 10 = .ok (.aload_n 0, 1) := by decide +kernel
theorem dJ5_init_d00df_11 : decode cJ5_init_d00df 11 = .ok (.iload_n 1, 1) := by decide +kernel
theorem dJ5_init_d00df_12 : decode cJ5_init_d00df 12 = .ok (.newarray .byte, 2) := by decide +kernel
theorem dJ5_init_d00df_14 : decode cJ5_init_d00df 14 = .ok (.putfield 15, 3) := by decide +kernel
theorem dJ5_init_d00df_17 : decode cJ5_init_d00df 17 = .ok (.aload_n 0, 1) := by decide +kernel
theorem dJ5_init_d00df_18 : decode cJ5_init_d00df 18 = .ok (.iconst 0, 1) := by decide +kernel
theorem dJ5_init_d00df_19 : decode cJ5_init_d00df 19 = .ok (.putfield 22, 3) := by decide +kernel
theorem dJ5_init_d00df_22 : decode cJ5_init_d00df 22 = .ok (.goto 16, 3) := by decide +kernel
theorem dJ5_init_d00df_25 : decode cJ5_init_d00df 25 = .ok (.aload_n 0, 1) := by decide +kernel
theorem dJ5_init_d00df_26 : decode cJ5_init_d00df 26 = .ok (.iload_n 1, 1) := by decide +kernel
theorem dJ5_init_d00df_27 : decode cJ5_init_d00df 27 = .ok (.invokestatic 26, 3) := by decide +kernel
theorem dJ5_init_d00df_30 : decode cJ5_init_d00df 30 = .ok (.putfield 15, 3) := by decide +kernel
theorem dJ5_init_d00df_33 : decode cJ5_init_d00df 33 = .ok (.aload_n 0, 1) := by decide +kernel
theorem dJ5_init_d00df_34 : decode cJ5_init_d00df 34 = .ok (.iconst 1, 1) := by decide +kernel
theorem dJ5_init_d00df_35 : decode cJ5_init_d00df 35 = .ok (.putfield 22, 3) := by decide +kernel
theorem dJ5_init_d00df_38 : decode cJ5_init_d00df 38 = .ok (.return_, 1) := by decide +kernel
theorem dJ5_init_a7421_0 : decode cJ5_init_a7421 0 = .ok (.aload_n 0, 1) := by decide +kernel
theorem dJ5_init_a7421_1 : decode cJ5_init_a7421 1 = .ok (.invokespecial 3, 3) := by decide +kernel
theorem dJ5_init_a7421_4 : decode cJ5_init_a7421 4 = .ok (.aload_n 1, 1) := by decide +kernel
theorem dJ5_init_a7421_5 : decode cJ5_init_a7421 5 = .ok (.invokevirtual 32, 3) := by decide +kernel
theorem dJ5_init_a7421_8 : decode cJ5_init_a7421 8 = .ok (.istore_n 2, 1) := by decide +kernel
theorem dJ5_init_a7421_9 : decode cJ5_init_a7421 9 = .ok (.iload_n 2, 1) := by decide +kernel
theorem dJ5_init_a7421_10 : decode cJ5_init_a7421 10 = .ok (.ldc 38, 2) := by decide +kernel
theorem dJ5_init_a7421_12 : decode cJ5_init_a7421 12 = .ok (.if_icmp .ge 10, 3) := by decide +kernel
theorem dJ5_init_a7421_15 : decode cJ5_init_a7421 15 = .ok (.iload_n 2, 1) := by decide +kernel
theorem dJ5_init_a7421_16 : decode cJ5_init_a7421 16 = .ok (.bipush 16, 2) := by decide +kernel
theorem dJ5_init_a7421_18 : decode cJ5_init_a7421 18 = .ok (.iadd, 1) := by decide +kernel
theorem dJ5_init_a7421_19 : decode cJ5_init_a7421 19 = .ok (.goto 5, 3) := by decide +kernel
theorem dJ5_init_a7421_22 : decode cJ5_init_a7421 22 = .ok (.ldc 39, 2) := by decide +kernel
theorem dJ5_init_a7421_24 : decode cJ5_init_a7421 24 = .ok (.istore_n 3, 1) := by decide +kernel
theorem dJ5_init_a7421_25 : decode cJ5_init_a7421 25 = .ok (.aload_n 1, 1) := by decide +kernel
theorem dJ5_init_a7421_26 : decode cJ5_init_a7421 26 = .ok (.invokevirtual 40, 3) := by decide +kernel
theorem dJ5_init_a7421_29 : decode cJ5_init_a7421 29 = .ok (.istore 4, 2) := by decide +kernel
theorem dJ5_init_a7421_31 : decode cJ5_init_a7421 31 = .ok (.aload_n 0, 1) := by decide +kernel
theorem dJ5_init_a7421_32 : decode cJ5_init_a7421 32 = .ok (.iload 4, 2) := by decide +kernel
theorem dJ5_init_a7421_34 : decode cJ5_init_a7421 34 = .ok (.putfield 22, 3) := by decide +kernel
theorem dJ5_init_a7421_37 : decode cJ5_init_a7421 37 = .ok (.aload_n 0, 1) := by decide +kernel
theorem dJ5_init_a7421_38 : decode cJ5_init_a7421 38 = .ok (.iload 4, 2) := by decide +kernel
theorem dJ5_init_a7421_40 : decode cJ5_init_a7421 40 = .ok (.ifCond .ne 9, 3) := by decide +kernel
theorem dJ5_init_a7421_43 : decode cJ5_init_a7421 43 = .ok (.iload_n 3, 1) := by decide +kernel
theorem dJ5_init_a7421_44 : decode cJ5_init_a7421 44 = .ok (.newarray .byte, 2) := by decide +kernel
theorem dJ5_init_a7421_46 : decode cJ5_init_a7421 46 = .ok (.goto 7, 3) := by decide +kernel
theorem dJ5_init_a7421_49 : decode cJ5_init_a7421 49 = .ok (.iload_n 3, 1) := by decide +kernel
theorem dJ5_init_a7421_50 : decode cJ5_init_a7421 50 = .ok (.invokestatic 26, 3) := by decide +kernel
theorem dJ5_init_a7421_53 : decode cJ5_init_a7421 53 = .ok (.putfield 15, 3) := by decide +kernel
theorem dJ5_init_a7421_56 : decode cJ5_init_a7421 56 = .ok (.aload_n 0, 1) := by decide +kernel
theorem dJ5_init_a7421_57 : decode cJ5_init_a7421 57 = .ok (.aload_n 1, 1) := by decide +kernel
theorem dJ5_init_a7421_58 : decode cJ5_init_a7421 58 = .ok (.invokevirtual 43, 3) := by decide +kernel
theorem dJ5_init_a7421_61 : decode cJ5_init_a7421 61 = .ok (.pop, 1) := by decide +kernel
theorem dJ5_init_a7421_62 : decode cJ5_init_a7421 62 = .ok (.return_, 1) := by decide +kernel
theorem dJ5_length_8abf5_0 : decode cJ5_length_8abf5 0 = .ok (.aload_n 0, 1) := by decide +kernel
theorem dJ5_length_8abf5_1 : decode cJ5_length_8abf5 1 = .ok (.getfield 79, 3) := by decide +kernel
theorem dJ5_length_8abf5_4 : decode cJ5_length_8abf5 4 = .ok (.ireturn, 1) := by decide +kernel
theorem dJ5_ensureCapacityInternal_d00df_0 : decode cJ5_ensureCapacityInternal_d00df 0 = .ok (.aload_n 0, 1) := by decide +kernel
theorem dJ5_ensureCapacityInternal_d00df_1 : decode cJ5_ensureCapacityInternal_d00df 1 = .ok (.getfield 15, 3) := by decide +kernel
theorem dJ5_ensureCapacityInternal_d00df_4 : decode cJ5_ensureCapacityInternal_d00df 4 = .ok (.arraylength, 1) := by decide +kernel
theorem dJ5_ensureCapacityInternal_d00df_5 : decode cJ5_ensureCapacityInternal_d00df 5 = .ok (.aload_n 0, 1) := by decide +kernel
theorem dJ5_ensureCapacityInternal_d00df_6 : decode cJ5_ensureCapacityInternal_d00df 6 = .ok (.getfield 22, 3) := by decide +kernel
theorem dJ5_ensureCapacityInternal_d00df_9 : decode cJ5_ensureCapacityInternal_d00df 9 = .ok (.ishr, 1) := by decide +kernel
theorem dJ5_ensureCapacityInternal_d00df_10 : decode cJ5_ensureCapacityInternal_d00df 10 = .ok (.istore_n 2, 1) := by decide +kernel
theorem dJ5_ensureCapacityInternal_d00df_11 : decode cJ5_ensureCapacityInternal_d00df 11 = .ok (.iload_n 1, 1) := by decide +kernel
theorem dJ5_ensureCapacityInternal_d00df_12 : decode cJ5_ensureCapacityInternal_d00df 12 = .ok (.iload_n 2, 1) := by decide +kernel
theorem dJ5_ensureCapacityInternal_d00df_13 : decode cJ5_ensureCapacityInternal_d00df 13 = .ok (.isub, 1) := by decide +kernel
theorem dJ5_ensureCapacityInternal_d00df_14 : decode cJ5_ensureCapacityInternal_d00df 14 = .ok (.ifCond .le 24, 3) := by decide +kernel
theorem dJ5_ensureCapacityInternal_d00df_17 : decode cJ5_ensureCapacityInternal_d00df 17 = .ok (.aload_n 0, 1) := by decide +kernel
theorem dJ5_ensureCapacityInternal_d00df_18 : decode cJ5_ensureCapacityInternal_d00df 18 = .ok (.aload_n 0, 1) := by decide +kernel
theorem dJ5_ensureCapacityInternal_d00df_19 : decode cJ5_ensureCapacityInternal_d00df 19 = .ok (.getfield 15, 3) := by decide +kernel
theorem dJ5_ensureCapacityInternal_d00df_22 : decode cJ5_ensureCapacityInternal_d00df 22 = .ok (.aload_n 0, 1) := by decide +kernel
theorem dJ5_ensureCapacityInternal_d00df_23 : decode cJ5_ensureCapacityInternal_d00df 23 = .ok (.iload_n 1, 1) := by decide +kernel
theorem dJ5_ensureCapacityInternal_d00df_24 : decode cJ5_ensureCapacityInternal_d00df 24 = .ok (.invokevirtual 104, 3) := by decide +kernel
theorem dJ5_ensureCapacityInternal_d00df_27 : decode cJ5_ensureCapacityInternal_d00df 27 = .ok (.aload_n 0, 1) := by decide +kernel
theorem dJ5_ensureCapacityInternal_d00df_28 : decode cJ5_ensureCapacityInternal_d00df 28 = .ok (.getfield 22, 3) := by decide +kernel
theorem dJ5_ensureCapacityInternal_d00df_31 : decode cJ5_ensureCapacityInternal_d00df 31 = .ok (.ishl, 1) := by decide +kernel
theorem dJ5_ensureCapacityInternal_d00df_32 : decode cJ5_ensureCapacityInternal_d00df 32 = .ok (.invokestatic 108, 3) := by decide +kernel
theorem dJ5_ensureCapacityInternal_d00df_35 : decode cJ5_ensureCapacityInternal_d00df 35 = .ok (.putfield 15, 3) := by decide +kernel
theorem dJ5_ensureCapacityInternal_d00df_38 : decode cJ5_ensureCapacityInternal_d00df 38 = .ok (.return_, 1) := by decide +kernel
theorem dJ5_newCapacity_0f7a4_0 : decode cJ5_newCapacity_0f7a4 0 = .ok (.aload_n 0, 1) := by decide +kernel
theorem dJ5_newCapacity_0f7a4_1 : decode cJ5_newCapacity_0f7a4 1 = .ok (.getfield 15, 3) := by decide +kernel
theorem dJ5_newCapacity_0f7a4_4 : decode cJ5_newCapacity_0f7a4 4 = .ok (.arraylength, 1) := by decide +kernel
theorem dJ5_newCapacity_0f7a4_5 : decode cJ5_newCapacity_0f7a4 5 = .ok (.istore_n 2, 1) := by decide +kernel
theorem dJ5_newCapacity_0f7a4_6 : decode cJ5_newCapacity_0f7a4 6 = .ok (.iload_n 1, 1) := by decide +kernel
theorem dJ5_newCapacity_0f7a4_7 : decode cJ5_newCapacity_0f7a4 7 = .ok (.aload_n 0, 1) := by decide +kernel
theorem dJ5_newCapacity_0f7a4_8 : decode cJ5_newCapacity_0f7a4 8 = .ok (.getfield 22, 3) := by decide +kernel
theorem dJ5_newCapacity_0f7a4_11 : decode cJ5_newCapacity_0f7a4 11 = .ok (.ishl, 1) := by decide +kernel
theorem dJ5_newCapacity_0f7a4_12 : decode cJ5_newCapacity_0f7a4 12 = .ok (.istore_n 3, 1) := by decide +kernel
theorem dJ5_newCapacity_0f7a4_13 : decode cJ5_newCapacity_0f7a4 13 = .ok (.iload_n 3, 1) := by decide +kernel
theorem dJ5_newCapacity_0f7a4_14 : decode cJ5_newCapacity_0f7a4 14 = .ok (.iload_n 2, 1) := by decide +kernel
theorem dJ5_newCapacity_0f7a4_15 : decode cJ5_newCapacity_0f7a4 15 = .ok (.isub, 1) := by decide +kernel
theorem dJ5_newCapacity_0f7a4_16 : decode cJ5_newCapacity_0f7a4 16 = .ok (.istore 4, 2) := by decide +kernel
theorem dJ5_newCapacity_0f7a4_18 : decode cJ5_newCapacity_0f7a4 18 = .ok (.iload_n 2, 1) := by decide +kernel
theorem dJ5_newCapacity_0f7a4_19 : decode cJ5_newCapacity_0f7a4 19 = .ok (.iload 4, 2) := by decide +kernel
theorem dJ5_newCapacity_0f7a4_21 : decode cJ5_newCapacity_0f7a4 21 = .ok (.iload_n 2, 1) := by decide +kernel
theorem dJ5_newCapacity_0f7a4_22 : decode cJ5_newCapacity_0f7a4 22 = .ok (.iconst 2, 1) := by decide +kernel
theorem dJ5_newCapacity_0f7a4_23 : decode cJ5_newCapacity_0f7a4 23 = .ok (.aload_n 0, 1) := by decide +kernel
theorem dJ5_newCapacity_0f7a4_24 : decode cJ5_newCapacity_0f7a4 24 = .ok (.getfield 22, 3) := by decide +kernel
theorem dJ5_newCapacity_0f7a4_27 : decode cJ5_newCapacity_0f7a4 27 = .ok (.ishl, 1) := by decide +kernel
theorem dJ5_newCapacity_0f7a4_28 : decode cJ5_newCapacity_0f7a4 28 = .ok (.iadd, 1) := by decide +kernel
theorem dJ5_newCapacity_0f7a4_29 : decode cJ5_newCapacity_0f7a4 29 = .ok (.invokestatic 114, 3) := by decide +kernel
theorem dJ5_newCapacity_0f7a4_32 : decode cJ5_newCapacity_0f7a4 32 = .ok (.istore 5, 2) := by decide +kernel
theorem dJ5_newCapacity_0f7a4_34 : decode cJ5_newCapacity_0f7a4 34 = .ok (.iload 5, 2) := by decide +kernel
theorem dJ5_newCapacity_0f7a4_36 : decode cJ5_newCapacity_0f7a4 36 = .ok (.ldc 39, 2) := by decide +kernel
theorem dJ5_newCapacity_0f7a4_38 : decode cJ5_newCapacity_0f7a4 38 = .ok (.if_icmp .ne 13, 3) := by decide +kernel
theorem dJ5_newCapacity_0f7a4_41 : decode cJ5_newCapacity_0f7a4 41 = .ok (.new 120, 3) := by decide +kernel
theorem dJ5_newCapacity_0f7a4_44 : decode cJ5_newCapacity_0f7a4 44 = .ok (.dup, 1) := by decide +kernel
theorem dJ5_newCapacity_0f7a4_45 : decode cJ5_newCapacity_0f7a4 45 = .ok (.ldc 122, 2) := by decide +kernel
theorem dJ5_newCapacity_0f7a4_47 : decode cJ5_newCapacity_0f7a4 47 = .ok (.invokespecial 124, 3) := by decide +kernel
theorem dJ5_newCapacity_0f7a4_50 : decode cJ5_newCapacity_0f7a4 50 = .ok (.athrow, 1) := by decide +kernel
theorem dJ5_newCapacity_0f7a4_51 : decode cJ5_newCapacity_0f7a4 51 = .ok (.iload 5, 2) := by decide +kernel
theorem dJ5_newCapacity_0f7a4_53 : decode cJ5_newCapacity_0f7a4 53 = .ok (.aload_n 0, 1) := by decide +kernel
theorem dJ5_newCapacity_0f7a4_54 : decode cJ5_newCapacity_0f7a4 54 = .ok (.getfield 22, 3) := by decide +kernel
theorem dJ5_newCapacity_0f7a4_57 : decode cJ5_newCapacity_0f7a4 57 = .ok (.ishr, 1) := by decide +kernel
theorem dJ5_newCapacity_0f7a4_58 : decode cJ5_newCapacity_0f7a4 58 = .ok (.ireturn, 1) := by decide +kernel
theorem dJ5_inflate_da8c8_0 : decode cJ5_inflate_da8c8 0 = .ok (.aload_n 0, 1) := by decide +kernel
theorem dJ5_inflate_da8c8_1 : decode cJ5_inflate_da8c8 1 = .ok (.invokevirtual 83, 3) := by decide +kernel
theorem dJ5_inflate_da8c8_4 : decode cJ5_inflate_da8c8 4 = .ok (.ifCond .ne 4, 3) := by decide +kernel
theorem dJ5_inflate_da8c8_7 : decode cJ5_inflate_da8c8 7 = .ok (.return_, 1) := by decide +kernel
theorem dJ5_inflate_da8c8_8 : decode cJ5_inflate_da8c8 8 = .ok (.aload_n 0, 1) := by decide +kernel
theorem dJ5_inflate_da8c8_9 : decode cJ5_inflate_da8c8 9 = .ok (.getfield 15, 3) := by decide +kernel
theorem dJ5_inflate_da8c8_12 : decode cJ5_inflate_da8c8 12 = .ok (.arraylength, 1) := by decide +kernel
theorem dJ5_inflate_da8c8_13 : decode cJ5_inflate_da8c8 13 = .ok (.invokestatic 26, 3) := by decide +kernel
theorem dJ5_inflate_da8c8_16 : decode cJ5_inflate_da8c8 16 = .ok (.astore_n 1, 1) := by decide +kernel
theorem dJ5_inflate_da8c8_17 : decode cJ5_inflate_da8c8 17 = .ok (.aload_n 0, 1) := by decide +kernel
theorem dJ5_inflate_da8c8_18 : decode cJ5_inflate_da8c8 18 = .ok (.getfield 15, 3) := by decide +kernel
theorem dJ5_inflate_da8c8_21 : decode cJ5_inflate_da8c8 21 = .ok (.iconst 0, 1) := by decide +kernel
theorem dJ5_inflate_da8c8_22 : decode cJ5_inflate_da8c8 22 = .ok (.aload_n 1, 1) := by decide +kernel
theorem dJ5_inflate_da8c8_23 : decode cJ5_inflate_da8c8 23 = .ok (.iconst 0, 1) := by decide +kernel
theorem dJ5_inflate_da8c8_24 : decode cJ5_inflate_da8c8 24 = .ok (.aload_n 0, 1) := by decide +kernel
theorem dJ5_inflate_da8c8_25 : decode cJ5_inflate_da8c8 25 = .ok (.getfield 79, 3) := by decide +kernel
theorem dJ5_inflate_da8c8_28 : decode cJ5_inflate_da8c8 28 = .ok (.invokestatic 125, 3) := by decide +kernel
theorem dJ5_inflate_da8c8_31 : decode cJ5_inflate_da8c8 31 = .ok (.aload_n 0, 1) := by decide +kernel
theorem dJ5_inflate_da8c8_32 : decode cJ5_inflate_da8c8 32 = .ok (.aload_n 1, 1) := by decide +kernel
theorem dJ5_inflate_da8c8_33 : decode cJ5_inflate_da8c8 33 = .ok (.putfield 15, 3) := by decide +kernel
theorem dJ5_inflate_da8c8_36 : decode cJ5_inflate_da8c8 36 = .ok (.aload_n 0, 1) := by decide +kernel
theorem dJ5_inflate_da8c8_37 : decode cJ5_inflate_da8c8 37 = .ok (.iconst 1, 1) := by decide +kernel
theorem dJ5_inflate_da8c8_38 : decode cJ5_inflate_da8c8 38 = .ok (.putfield 22, 3) := by decide +kernel
theorem dJ5_inflate_da8c8_41 : decode cJ5_inflate_da8c8 41 = .ok (.return_, 1) := by decide +kernel
theorem dJ5_append_cf1ce_0 : decode cJ5_append_cf1ce 0 = .ok (.aload_n 1, 1) := by decide +kernel
theorem dJ5_append_cf1ce_1 : decode cJ5_append_cf1ce 1 = .ok (.ifnonnull 8, 3) := by decide +kernel
theorem dJ5_append_cf1ce_4 : decode cJ5_append_cf1ce 4 = .ok (.aload_n 0, 1) := by decide +kernel
theorem dJ5_append_cf1ce_5 : decode cJ5_append_cf1ce 5 = .ok (.invokevirtual 204, 3) := by decide +kernel
theorem dJ5_append_cf1ce_8 : decode cJ5_append_cf1ce 8 = .ok (.areturn, 1) := by decide +kernel
theorem dJ5_append_cf1ce_9 : decode cJ5_append_cf1ce 9 = .ok (.aload_n 1, 1) := by decide +kernel
theorem dJ5_append_cf1ce_10 : decode cJ5_append_cf1ce 10 = .ok (.invokevirtual 32, 3) := by decide +kernel
theorem dJ5_append_cf1ce_13 : decode cJ5_append_cf1ce 13 = .ok (.istore_n 2, 1) := by decide +kernel
theorem dJ5_append_cf1ce_14 : decode cJ5_append_cf1ce 14 = .ok (.aload_n 0, 1) := by decide +kernel
theorem dJ5_append_cf1ce_15 : decode cJ5_append_cf1ce 15 = .ok (.aload_n 0, 1) := by decide +kernel
theorem dJ5_append_cf1ce_16 : decode cJ5_append_cf1ce 16 = .ok (.getfield 79, 3) := by decide +kernel
theorem dJ5_append_cf1ce_19 : decode cJ5_append_cf1ce 19 = .ok (.iload_n 2, 1) := by decide +kernel
theorem dJ5_append_cf1ce_20 : decode cJ5_append_cf1ce 20 = .ok (.iadd, 1) := by decide +kernel
theorem dJ5_append_cf1ce_21 : decode cJ5_append_cf1ce 21 = .ok (.invokevirtual 100, 3) := by decide +kernel
theorem dJ5_append_cf1ce_24 : decode cJ5_append_cf1ce 24 = .ok (.aload_n 0, 1) := by decide +kernel
theorem dJ5_append_cf1ce_25 : decode cJ5_append_cf1ce 25 = .ok (.aload_n 0, 1) := by decide +kernel
theorem dJ5_append_cf1ce_26 : decode cJ5_append_cf1ce 26 = .ok (.getfield 79, 3) := by decide +kernel
theorem dJ5_append_cf1ce_29 : decode cJ5_append_cf1ce 29 = .ok (.aload_n 1, 1) := by decide +kernel
theorem dJ5_append_cf1ce_30 : decode cJ5_append_cf1ce 30 = .ok (.invokevirtual 208, 3) := by decide +kernel
theorem dJ5_append_cf1ce_33 : decode cJ5_append_cf1ce 33 = .ok (.aload_n 0, 1) := by decide +kernel
theorem dJ5_append_cf1ce_34 : decode cJ5_append_cf1ce 34 = .ok (.dup, 1) := by decide +kernel
theorem dJ5_append_cf1ce_35 : decode cJ5_append_cf1ce 35 = .ok (.getfield 79, 3) := by decide +kernel
theorem dJ5_append_cf1ce_38 : decode cJ5_append_cf1ce 38 = .ok (.iload_n 2, 1) := by decide +kernel
theorem dJ5_append_cf1ce_39 : decode cJ5_append_cf1ce 39 = .ok (.iadd, 1) := by decide +kernel
theorem dJ5_append_cf1ce_40 : decode cJ5_append_cf1ce 40 = .ok (.putfield 79, 3) := by decide +kernel
theorem dJ5_append_cf1ce_43 : decode cJ5_append_cf1ce 43 = .ok (.aload_n 0, 1) := by decide +kernel
theorem dJ5_append_cf1ce_44 : decode cJ5_append_cf1ce 44 = .ok (.areturn, 1) := by decide +kernel
theorem dJ5_appendNull_278bc_0 : decode cJ5_appendNull_278bc 0 = .ok (.aload_n 0, 1) := by decide +kernel
theorem dJ5_appendNull_278bc_1 : decode cJ5_appendNull_278bc 1 = .ok (.aload_n 0, 1) := by decide +kernel
theorem dJ5_appendNull_278bc_2 : decode cJ5_appendNull_278bc 2 = .ok (.getfield 79, 3) := by decide +kernel
theorem dJ5_appendNull_278bc_5 : decode cJ5_appendNull_278bc 5 = .ok (.iconst 4, 1) := by decide +kernel
theorem dJ5_appendNull_278bc_6 : decode cJ5_appendNull_278bc 6 = .ok (.iadd, 1) := by decide +kernel
theorem dJ5_appendNull_278bc_7 : decode cJ5_appendNull_278bc 7 = .ok (.invokevirtual 100, 3) := by decide +kernel
theorem dJ5_appendNull_278bc_10 : decode cJ5_appendNull_278bc 10 = .ok (.aload_n 0, 1) := by decide +kernel
theorem dJ5_appendNull_278bc_11 : decode cJ5_appendNull_278bc 11 = .ok (.getfield 79, 3) := by decide +kernel
theorem dJ5_appendNull_278bc_14 : decode cJ5_appendNull_278bc 14 = .ok (.istore_n 1, 1) := by decide +kernel
theorem dJ5_appendNull_278bc_15 : decode cJ5_appendNull_278bc 15 = .ok (.aload_n 0, 1) := by decide +kernel
theorem dJ5_appendNull_278bc_16 : decode cJ5_appendNull_278bc 16 = .ok (.getfield 15, 3) := by decide +kernel
theorem dJ5_appendNull_278bc_19 : decode cJ5_appendNull_278bc 19 = .ok (.astore_n 2, 1) := by decide +kernel
theorem dJ5_appendNull_278bc_20 : decode cJ5_appendNull_278bc 20 = .ok (.aload_n 0, 1) := by decide +kernel
theorem dJ5_appendNull_278bc_21 : decode cJ5_appendNull_278bc 21 = .ok (.invokevirtual 83, 3) := by decide +kernel
theorem dJ5_appendNull_278bc_24 : decode cJ5_appendNull_278bc 24 = .ok (.ifCond .eq 38, 3) := by decide +kernel
theorem dJ5_appendNull_278bc_27 : decode cJ5_appendNull_278bc 27 = .ok (.aload_n 2, 1) := by decide +kernel
theorem dJ5_appendNull_278bc_28 : decode cJ5_appendNull_278bc 28 = .ok (.iload_n 1, 1) := by decide +kernel
theorem dJ5_appendNull_278bc_29 : decode cJ5_appendNull_278bc 29 = .ok (.iinc 1 1, 3) := by decide +kernel
theorem dJ5_appendNull_278bc_32 : decode cJ5_appendNull_278bc 32 = .ok (.bipush 110, 2) := by decide +kernel
theorem dJ5_appendNull_278bc_34 : decode cJ5_appendNull_278bc 34 = .ok (.bastore, 1) := by decide +kernel
theorem dJ5_appendNull_278bc_35 : decode cJ5_appendNull_278bc 35 = .ok (.aload_n 2, 1) := by decide +kernel
theorem dJ5_appendNull_278bc_36 : decode cJ5_appendNull_278bc 36 = .ok (.iload_n 1, 1) := by decide +kernel
theorem dJ5_appendNull_278bc_37 : decode cJ5_appendNull_278bc 37 = .ok (.iinc 1 1, 3) := by decide +kernel
theorem dJ5_appendNull_278bc_40 : decode cJ5_appendNull_278bc 40 = .ok (.bipush 117, 2) := by decide +kernel
theorem dJ5_appendNull_278bc_42 : decode cJ5_appendNull_278bc 42 = .ok (.bastore, 1) := by decide +kernel
theorem dJ5_appendNull_278bc_43 : decode cJ5_appendNull_278bc 43 = .ok (.aload_n 2, 1) := by decide +kernel
theorem dJ5_appendNull_278bc_44 : decode cJ5_appendNull_278bc 44 = .ok (.iload_n 1, 1) := by decide +kernel
theorem dJ5_appendNull_278bc_45 : decode cJ5_appendNull_278bc 45 = .ok (.iinc 1 1, 3) := by decide +kernel
theorem dJ5_appendNull_278bc_48 : decode cJ5_appendNull_278bc 48 = .ok (.bipush 108, 2) := by decide +kernel
theorem dJ5_appendNull_278bc_50 : decode cJ5_appendNull_278bc 50 = .ok (.bastore, 1) := by decide +kernel
theorem dJ5_appendNull_278bc_51 : decode cJ5_appendNull_278bc 51 = .ok (.aload_n 2, 1) := by decide +kernel
theorem dJ5_appendNull_278bc_52 : decode cJ5_appendNull_278bc 52 = .ok (.iload_n 1, 1) := by decide +kernel
theorem dJ5_appendNull_278bc_53 : decode cJ5_appendNull_278bc 53 = .ok (.iinc 1 1, 3) := by decide +kernel
theorem dJ5_appendNull_278bc_56 : decode cJ5_appendNull_278bc 56 = .ok (.bipush 108, 2) := by decide +kernel
theorem dJ5_appendNull_278bc_58 : decode cJ5_appendNull_278bc 58 = .ok (.bastore, 1) := by decide +kernel
theorem dJ5_appendNull_278bc_59 : decode cJ5_appendNull_278bc 59 = .ok (.goto 17, 3) := by decide +kernel
theorem dJ5_appendNull_278bc_62 : decode cJ5_appendNull_278bc 62 = .ok (.aload_n 2, 1) := by decide +kernel
theorem dJ5_appendNull_278bc_63 : decode cJ5_appendNull_278bc 63 = .ok (.iload_n 1, 1) := by decide +kernel
theorem dJ5_appendNull_278bc_64 : decode cJ5_appendNull_278bc 64 = .ok (.bipush 110, 2) := by decide +kernel
theorem dJ5_appendNull_278bc_66 : decode cJ5_appendNull_278bc 66 = .ok (.bipush 117, 2) := by decide +kernel
theorem dJ5_appendNull_278bc_68 : decode cJ5_appendNull_278bc 68 = .ok (.bipush 108, 2) := by decide +kernel
theorem dJ5_appendNull_278bc_70 : decode cJ5_appendNull_278bc 70 = .ok (.bipush 108, 2) := by decide +kernel
theorem dJ5_appendNull_278bc_72 : decode cJ5_appendNull_278bc 72 = .ok (.invokestatic 226, 3) := by decide +kernel
theorem dJ5_appendNull_278bc_75 : decode cJ5_appendNull_278bc 75 = .ok (.istore_n 1, 1) := by decide +kernel
theorem dJ5_appendNull_278bc_76 : decode cJ5_appendNull_278bc 76 = .ok (.aload_n 0, 1) := by decide +kernel
theorem dJ5_appendNull_278bc_77 : decode cJ5_appendNull_278bc 77 = .ok (.iload_n 1, 1) := by decide +kernel
theorem dJ5_appendNull_278bc_78 : decode cJ5_appendNull_278bc 78 = .ok (.putfield 79, 3) := by decide +kernel
theorem dJ5_appendNull_278bc_81 : decode cJ5_appendNull_278bc 81 = .ok (.aload_n 0, 1) := by decide +kernel
theorem dJ5_appendNull_278bc_82 : decode cJ5_appendNull_278bc 82 = .ok (.areturn, 1) := by decide +kernel
theorem dJ5_append_3fe6f_0 : decode cJ5_append_3fe6f 0 = .ok (.aload_n 0, 1) := by decide +kernel
theorem dJ5_append_3fe6f_1 : decode cJ5_append_3fe6f 1 = .ok (.aload_n 0, 1) := by decide +kernel
theorem dJ5_append_3fe6f_2 : decode cJ5_append_3fe6f 2 = .ok (.getfield 79, 3) := by decide +kernel
theorem dJ5_append_3fe6f_5 : decode cJ5_append_3fe6f 5 = .ok (.iconst 1, 1) := by decide +kernel
theorem dJ5_append_3fe6f_6 : decode cJ5_append_3fe6f 6 = .ok (.iadd, 1) := by decide +kernel
theorem dJ5_append_3fe6f_7 : decode cJ5_append_3fe6f 7 = .ok (.invokevirtual 100, 3) := by decide +kernel
theorem dJ5_append_3fe6f_10 : decode cJ5_append_3fe6f 10 = .ok (.aload_n 0, 1) := by decide +kernel
theorem dJ5_append_3fe6f_11 : decode cJ5_append_3fe6f 11 = .ok (.invokevirtual 83, 3) := by decide +kernel
theorem dJ5_append_3fe6f_14 : decode cJ5_append_3fe6f 14 = .ok (.ifCond .eq 31, 3) := by decide +kernel
theorem dJ5_append_3fe6f_17 : decode cJ5_append_3fe6f 17 = .ok (.iload_n 1, 1) := by decide +kernel
theorem dJ5_append_3fe6f_18 : decode cJ5_append_3fe6f 18 = .ok (.invokestatic 191, 3) := by decide +kernel
theorem dJ5_append_3fe6f_21 : decode cJ5_append_3fe6f 21 = .ok (.ifCond .eq 24, 3) := by decide +kernel
theorem dJ5_append_3fe6f_24 : decode cJ5_append_3fe6f 24 = .ok (.aload_n 0, 1) := by decide +kernel
theorem dJ5_append_3fe6f_25 : decode cJ5_append_3fe6f 25 = .ok (.getfield 15, 3) := by decide +kernel
theorem dJ5_append_3fe6f_28 : decode cJ5_append_3fe6f 28 = .ok (.aload_n 0, 1) := by decide +kernel
theorem dJ5_append_3fe6f_29 : decode cJ5_append_3fe6f 29 = .ok (.dup, 1) := by decide +kernel
theorem dJ5_append_3fe6f_30 : decode cJ5_append_3fe6f 30 = .ok (.getfield 79, 3) := by decide +kernel
theorem dJ5_append_3fe6f_33 : decode cJ5_append_3fe6f 33 = .ok (.dup_x1, 1) := by decide +kernel
theorem dJ5_append_3fe6f_34 : decode cJ5_append_3fe6f 34 = .ok (.iconst 1, 1) := by decide +kernel
theorem dJ5_append_3fe6f_35 : decode cJ5_append_3fe6f 35 = .ok (.iadd, 1) := by decide +kernel
theorem dJ5_append_3fe6f_36 : decode cJ5_append_3fe6f 36 = .ok (.putfield 79, 3) := by decide +kernel
theorem dJ5_append_3fe6f_39 : decode cJ5_append_3fe6f 39 = .ok (.iload_n 1, 1) := by decide +kernel
theorem dJ5_append_3fe6f_40 : decode cJ5_append_3fe6f 40 = .ok (.i2b, 1) := by decide +kernel
theorem dJ5_append_3fe6f_41 : decode cJ5_append_3fe6f 41 = .ok (.bastore, 1) := by decide +kernel
theorem dJ5_append_3fe6f_42 : decode cJ5_append_3fe6f 42 = .ok (.goto 33, 3) := by decide +kernel
theorem dJ5_append_3fe6f_45 : decode cJ5_append_3fe6f 45 = .ok (.aload_n 0, 1) := by decide +kernel
theorem dJ5_append_3fe6f_46 : decode cJ5_append_3fe6f 46 = .ok (.invokevirtual 83, 3) := by decide +kernel
theorem dJ5_append_3fe6f_49 : decode cJ5_append_3fe6f 49 = .ok (.ifCond .eq 7, 3) := by decide +kernel
theorem dJ5_append_3fe6f_52 : decode cJ5_append_3fe6f 52 = .ok (.aload_n 0, 1) := by decide +kernel
theorem dJ5_append_3fe6f_53 : decode cJ5_append_3fe6f 53 = .ok (.invokevirtual 195, 3) := by decide +kernel
theorem dJ5_append_3fe6f_56 : decode cJ5_append_3fe6f 56 = .ok (.aload_n 0, 1) := by decide +kernel
theorem dJ5_append_3fe6f_57 : decode cJ5_append_3fe6f 57 = .ok (.getfield 15, 3) := by decide +kernel
theorem dJ5_append_3fe6f_60 : decode cJ5_append_3fe6f 60 = .ok (.aload_n 0, 1) := by decide +kernel
theorem dJ5_append_3fe6f_61 : decode cJ5_append_3fe6f 61 = .ok (.dup, 1) := by decide +kernel
theorem dJ5_append_3fe6f_62 : decode cJ5_append_3fe6f 62 = .ok (.getfield 79, 3) := by decide +kernel
theorem dJ5_append_3fe6f_65 : decode cJ5_append_3fe6f 65 = .ok (.dup_x1, 1) := by decide +kernel
theorem dJ5_append_3fe6f_66 : decode cJ5_append_3fe6f 66 = .ok (.iconst 1, 1) := by decide +kernel
theorem dJ5_append_3fe6f_67 : decode cJ5_append_3fe6f 67 = .ok (.iadd, 1) := by decide +kernel
theorem dJ5_append_3fe6f_68 : decode cJ5_append_3fe6f 68 = .ok (.putfield 79, 3) := by decide +kernel
theorem dJ5_append_3fe6f_71 : decode cJ5_append_3fe6f 71 = .ok (.iload_n 1, 1) := by decide +kernel
theorem dJ5_append_3fe6f_72 : decode cJ5_append_3fe6f 72 = .ok (.invokestatic 197, 3) := by decide +kernel
theorem dJ5_append_3fe6f_75 : decode cJ5_append_3fe6f 75 = .ok (.aload_n 0, 1) := by decide +kernel
theorem dJ5_append_3fe6f_76 : decode cJ5_append_3fe6f 76 = .ok (.areturn, 1) := by decide +kernel
theorem dJ5_append_c97b9_0 : decode cJ5_append_c97b9 0 = .ok (.aload_n 0, 1) := by decide +kernel
theorem dJ5_append_c97b9_1 : decode cJ5_append_c97b9 1 = .ok (.getfield 79, 3) := by decide +kernel
theorem dJ5_append_c97b9_4 : decode cJ5_append_c97b9 4 = .ok (.istore_n 2, 1) := by decide +kernel
theorem dJ5_append_c97b9_5 : decode cJ5_append_c97b9 5 = .ok (.iload_n 2, 1) := by decide +kernel
theorem dJ5_append_c97b9_6 : decode cJ5_append_c97b9 6 = .ok (.iload_n 1, 1) := by decide +kernel
theorem dJ5_append_c97b9_7 : decode cJ5_append_c97b9 7 = .ok (.invokestatic 245, 3) := by decide +kernel
theorem dJ5_append_c97b9_10 : decode cJ5_append_c97b9 10 = .ok (.iadd, 1) := by decide +kernel
theorem dJ5_append_c97b9_11 : decode cJ5_append_c97b9 11 = .ok (.istore_n 3, 1) := by decide +kernel
theorem dJ5_append_c97b9_12 : decode cJ5_append_c97b9 12 = .ok (.aload_n 0, 1) := by decide +kernel
theorem dJ5_append_c97b9_13 : decode cJ5_append_c97b9 13 = .ok (.iload_n 3, 1) := by decide +kernel
theorem dJ5_append_c97b9_14 : decode cJ5_append_c97b9 14 = .ok (.invokevirtual 100, 3) := by decide +kernel
theorem dJ5_append_c97b9_17 : decode cJ5_append_c97b9 17 = .ok (.aload_n 0, 1) := by decide +kernel
theorem dJ5_append_c97b9_18 : decode cJ5_append_c97b9 18 = .ok (.invokevirtual 83, 3) := by decide +kernel
theorem dJ5_append_c97b9_21 : decode cJ5_append_c97b9 21 = .ok (.ifCond .eq 16, 3) := by decide +kernel
theorem dJ5_append_c97b9_24 : decode cJ5_append_c97b9 24 = .ok (.iload_n 1, 1) := by decide +kernel
theorem dJ5_append_c97b9_25 : decode cJ5_append_c97b9 25 = .ok (.iload_n 3, 1) := by decide +kernel
theorem dJ5_append_c97b9_26 : decode cJ5_append_c97b9 26 = .ok (.aload_n 0, 1) := by decide +kernel
theorem dJ5_append_c97b9_27 : decode cJ5_append_c97b9 27 = .ok (.getfield 15, 3) := by decide +kernel
theorem dJ5_append_c97b9_30 : decode cJ5_append_c97b9 30 = .ok (.invokestatic 248, 3) := by decide +kernel
theorem dJ5_append_c97b9_33 : decode cJ5_append_c97b9 33 = .ok (.pop, 1) := by decide +kernel
theorem dJ5_append_c97b9_34 : decode cJ5_append_c97b9 34 = .ok (.goto 14, 3) := by decide +kernel
theorem dJ5_append_c97b9_37 : decode cJ5_append_c97b9 37 = .ok (.iload_n 1, 1) := by decide +kernel
theorem dJ5_append_c97b9_38 : decode cJ5_append_c97b9 38 = .ok (.iload_n 2, 1) := by decide +kernel
theorem dJ5_append_c97b9_39 : decode cJ5_append_c97b9 39 = .ok (.iload_n 3, 1) := by decide +kernel
theorem dJ5_append_c97b9_40 : decode cJ5_append_c97b9 40 = .ok (.aload_n 0, 1) := by decide +kernel
theorem dJ5_append_c97b9_41 : decode cJ5_append_c97b9 41 = .ok (.getfield 15, 3) := by decide +kernel
theorem dJ5_append_c97b9_44 : decode cJ5_append_c97b9 44 = .ok (.invokestatic 251, 3) := by decide +kernel
theorem dJ5_append_c97b9_47 : decode cJ5_append_c97b9 47 = .ok (.pop, 1) := by decide +kernel
theorem dJ5_append_c97b9_48 : decode cJ5_append_c97b9 48 = .ok (.aload_n 0, 1) := by decide +kernel
theorem dJ5_append_c97b9_49 : decode cJ5_append_c97b9 49 = .ok (.iload_n 3, 1) := by decide +kernel
theorem dJ5_append_c97b9_50 : decode cJ5_append_c97b9 50 = .ok (.putfield 79, 3) := by decide +kernel
theorem dJ5_append_c97b9_53 : decode cJ5_append_c97b9 53 = .ok (.aload_n 0, 1) := by decide +kernel
theorem dJ5_append_c97b9_54 : decode cJ5_append_c97b9 54 = .ok (.areturn, 1) := by decide +kernel
theorem dJ5_getValue_6d5f1_0 : decode cJ5_getValue_6d5f1 0 = .ok (.aload_n 0, 1) := by decide +kernel
theorem dJ5_getValue_6d5f1_1 : decode cJ5_getValue_6d5f1 1 = .ok (.getfield 15, 3) := by decide +kernel
theorem dJ5_getValue_6d5f1_4 : decode cJ5_getValue_6d5f1 4 = .ok (.areturn, 1) := by decide +kernel
theorem dJ5_isLatin1_aae02_0 : decode cJ5_isLatin1_aae02 0 = .ok (.getstatic 18, 3) := by decide +kernel
theorem dJ5_isLatin1_aae02_3 : decode cJ5_isLatin1_aae02 3 = .ok (.ifCond .eq 14, 3) := by decide +kernel
theorem dJ5_isLatin1_aae02_6 : decode cJ5_isLatin1_aae02 6 = .ok (.aload_n 0, 1) := by decide +kernel
theorem dJ5_isLatin1_aae02_7 : decode cJ5_isLatin1_aae02 7 = .ok (.getfield 22, 3) := by decide +kernel
theorem dJ5_isLatin1_aae02_10 : decode cJ5_isLatin1_aae02 10 = .ok (.ifCond .ne 7, 3) := by decide +kernel
theorem dJ5_isLatin1_aae02_13 : decode cJ5_isLatin1_aae02 13 = .ok (.iconst 1, 1) := by decide +kernel
theorem dJ5_isLatin1_aae02_14 : decode cJ5_isLatin1_aae02 14 = .ok (.goto 4, 3) := by decide +kernel
theorem dJ5_isLatin1_aae02_17 : decode cJ5_isLatin1_aae02 17 = .ok (.iconst 0, 1) := by decide +kernel
theorem dJ5_isLatin1_aae02_18 : decode cJ5_isLatin1_aae02 18 = .ok (.ireturn, 1) := by decide +kernel
theorem dJ5_inflateIfNeededFor_a7421_0 : decode cJ5_inflateIfNeededFor_a7421 0 = .ok (.getstatic 18, 3) := by decide +kernel
theorem dJ5_inflateIfNeededFor_a7421_3 : decode cJ5_inflateIfNeededFor_a7421 3 = .ok (.ifCond .eq 18, 3) := by decide +kernel
theorem dJ5_inflateIfNeededFor_a7421_6 : decode cJ5_inflateIfNeededFor_a7421 6 = .ok (.aload_n 0, 1) := by decide +kernel
theorem dJ5_inflateIfNeededFor_a7421_7 : decode cJ5_inflateIfNeededFor_a7421 7 = .ok (.getfield 22, 3) := by decide +kernel
theorem dJ5_inflateIfNeededFor_a7421_10 : decode cJ5_inflateIfNeededFor_a7421 10 = .ok (.aload_n 1, 1) := by decide +kernel
theorem dJ5_inflateIfNeededFor_a7421_11 : decode cJ5_inflateIfNeededFor_a7421 11 = .ok (.invokevirtual 40, 3) := by decide +kernel
theorem dJ5_inflateIfNeededFor_a7421_14 : decode cJ5_inflateIfNeededFor_a7421 14 = .ok (.if_icmp .eq 7, 3) := by decide +kernel
theorem dJ5_inflateIfNeededFor_a7421_17 : decode cJ5_inflateIfNeededFor_a7421 17 = .ok (.aload_n 0, 1) := by decide +kernel
theorem dJ5_inflateIfNeededFor_a7421_18 : decode cJ5_inflateIfNeededFor_a7421 18 = .ok (.invokevirtual 195, 3) := by decide +kernel
theorem dJ5_inflateIfNeededFor_a7421_21 : decode cJ5_inflateIfNeededFor_a7421 21 = .ok (.return_, 1) := by decide +kernel
theorem dJ5_putStringAt_47b60_0 : decode cJ5_putStringAt_47b60 0 = .ok (.aload_n 0, 1) := by decide +kernel
theorem dJ5_putStringAt_47b60_1 : decode cJ5_putStringAt_47b60 1 = .ok (.aload_n 2, 1) := by decide +kernel
theorem dJ5_putStringAt_47b60_2 : decode cJ5_putStringAt_47b60 2 = .ok (.invokevirtual 397, 3) := by decide +kernel
theorem dJ5_putStringAt_47b60_5 : decode cJ5_putStringAt_47b60 5 = .ok (.aload_n 2, 1) := by decide +kernel
theorem dJ5_putStringAt_47b60_6 : decode cJ5_putStringAt_47b60 6 = .ok (.aload_n 0, 1) := by decide +kernel
theorem dJ5_putStringAt_47b60_7 : decode cJ5_putStringAt_47b60 7 = .ok (.getfield 15, 3) := by decide +kernel
theorem dJ5_putStringAt_47b60_10 : decode cJ5_putStringAt_47b60 10 = .ok (.iload_n 1, 1) := by decide +kernel
theorem dJ5_putStringAt_47b60_11 : decode cJ5_putStringAt_47b60 11 = .ok (.aload_n 0, 1) := by decide +kernel
theorem dJ5_putStringAt_47b60_12 : decode cJ5_putStringAt_47b60 12 = .ok (.getfield 22, 3) := by decide +kernel
theorem dJ5_putStringAt_47b60_15 : decode cJ5_putStringAt_47b60 15 = .ok (.invokevirtual 399, 3) := by decide +kernel
theorem dJ5_putStringAt_47b60_18 : decode cJ5_putStringAt_47b60 18 = .ok (.return_, 1) := by decide +kernel
theorem dJ6_getChars_ba4f3_0 : decode cJ6_getChars_ba4f3 0 = .ok (.iload_n 1, 1) := by decide +kernel
theorem dJ6_getChars_ba4f3_1 : decode cJ6_getChars_ba4f3 1 = .ok (.istore 5, 2) := by decide +kernel
theorem dJ6_getChars_ba4f3_3 : decode cJ6_getChars_ba4f3 3 = .ok (.iload_n 0, 1) := by decide +kernel
theorem dJ6_getChars_ba4f3_4 : decode cJ6_getChars_ba4f3 4 = .ok (.ifCond .ge 7, 3) := by decide +kernel
theorem dJ6_getChars_ba4f3_7 : decode cJ6_getChars_ba4f3 7 = .ok (.iconst 1, 1) := by decide +kernel
theorem dJ6_getChars_ba4f3_8 : decode cJ6_getChars_ba4f3 8 = .ok (.goto 4, 3) := by decide +kernel
theorem dJ6_getChars_ba4f3_11 : decode cJ6_getChars_ba4f3 11 = .ok (.iconst 0, 1) := by decide +kernel
theorem dJ6_getChars_ba4f3_12 : decode cJ6_getChars_ba4f3 12 = .ok (.istore 6, 2) := by decide +kernel
theorem dJ6_getChars_ba4f3_14 : decode cJ6_getChars_ba4f3 14 = .ok (.iload 6, 2) := by decide +kernel
theorem dJ6_getChars_ba4f3_16 : decode cJ6_getChars_ba4f3 16 = .ok (.ifCond .ne 6, 3) := by decide +kernel
theorem dJ6_getChars_ba4f3_19 : decode cJ6_getChars_ba4f3 19 = .ok (.iload_n 0, 1) := by decide +kernel
theorem dJ6_getChars_ba4f3_20 : decode cJ6_getChars_ba4f3 20 = .ok (.ineg, 1) := by decide +kernel
theorem dJ6_getChars_ba4f3_21 : decode cJ6_getChars_ba4f3 21 = .ok (.istore_n 0, 1) := by decide +kernel
theorem dJ6_getChars_ba4f3_22 : decode cJ6_getChars_ba4f3 22 = .ok (.iload_n 0, 1) := by decide +kernel
theorem dJ6_getChars_ba4f3_23 : decode cJ6_getChars_ba4f3 23 = .ok (.bipush (-100), 2) := by decide +kernel
theorem dJ6_getChars_ba4f3_25 : decode cJ6_getChars_ba4f3 25 = .ok (.if_icmp .gt 47, 3) := by decide +kernel
theorem dJ6_getChars_ba4f3_28 : decode cJ6_getChars_ba4f3 28 = .ok (.iload_n 0, 1) := by decide +kernel
theorem dJ6_getChars_ba4f3_29 : decode cJ6_getChars_ba4f3 29 = .ok (.bipush 100, 2) := by decide +kernel
theorem dJ6_getChars_ba4f3_31 : decode cJ6_getChars_ba4f3 31 = .ok (.idiv, 1) := by decide +kernel
theorem dJ6_getChars_ba4f3_32 : decode cJ6_getChars_ba4f3 32 = .ok (.istore_n 3, 1) := by decide +kernel
theorem dJ6_getChars_ba4f3_33 : decode cJ6_getChars_ba4f3 33 = .ok (.iload_n 3, 1) := by decide +kernel
theorem dJ6_getChars_ba4f3_34 : decode cJ6_getChars_ba4f3 34 = .ok (.bipush 100, 2) := by decide +kernel
theorem dJ6_getChars_ba4f3_36 : decode cJ6_getChars_ba4f3 36 = .ok (.imul, 1) := by decide +kernel
theorem dJ6_getChars_ba4f3_37 : decode cJ6_getChars_ba4f3 37 = .ok (.iload_n 0, 1) := by decide +kernel
theorem dJ6_getChars_ba4f3_38 : decode cJ6_getChars_ba4f3 38 = .ok (.isub, 1) := by decide +kernel
theorem dJ6_getChars_ba4f3_39 : decode cJ6_getChars_ba4f3 39 = .ok (.istore 4, 2) := by decide +kernel
theorem dJ6_getChars_ba4f3_41 : decode cJ6_getChars_ba4f3 41 = .ok (.iload_n 3, 1) := by decide +kernel
theorem dJ6_getChars_ba4f3_42 : decode cJ6_getChars_ba4f3 42 = .ok (.istore_n 0, 1) := by decide +kernel
theorem dJ6_getChars_ba4f3_43 : decode cJ6_getChars_ba4f3 43 = .ok (.aload_n 2, 1) := by decide +kernel
theorem dJ6_getChars_ba4f3_44 : decode cJ6_getChars_ba4f3 44 = .ok (.iinc 5 (-1), 3) := by decide +kernel
theorem dJ6_getChars_ba4f3_47 : decode cJ6_getChars_ba4f3 47 = .ok (.iload 5, 2) := by decide +kernel
theorem dJ6_getChars_ba4f3_49 : decode cJ6_getChars_ba4f3 49 = .ok (.getstatic 83, 3) := by decide +kernel
theorem dJ6_getChars_ba4f3_52 : decode cJ6_getChars_ba4f3 52 = .ok (.iload 4, 2) := by decide +kernel
theorem dJ6_getChars_ba4f3_54 : decode cJ6_getChars_ba4f3 54 = .ok (.baload, 1) := by decide +kernel
theorem dJ6_getChars_ba4f3_55 : decode cJ6_getChars_ba4f3 55 = .ok (.bastore, 1) := by decide +kernel
theorem dJ6_getChars_ba4f3_56 : decode cJ6_getChars_ba4f3 56 = .ok (.aload_n 2, 1) := by decide +kernel
theorem dJ6_getChars_ba4f3_57 : decode cJ6_getChars_ba4f3 57 = .ok (.iinc 5 (-1), 3) := by decide +kernel
theorem dJ6_getChars_ba4f3_60 : decode cJ6_getChars_ba4f3 60 = .ok (.iload 5, 2) := by decide +kernel
theorem dJ6_getChars_ba4f3_62 : decode cJ6_getChars_ba4f3 62 = .ok (.getstatic 87, 3) := by decide +kernel
theorem dJ6_getChars_ba4f3_65 : decode cJ6_getChars_ba4f3 65 = .ok (.iload 4, 2) := by decide +kernel
theorem dJ6_getChars_ba4f3_67 : decode cJ6_getChars_ba4f3 67 = .ok (.baload, 1) := by decide +kernel
theorem dJ6_getChars_ba4f3_68 : decode cJ6_getChars_ba4f3 68 = .ok (.bastore, 1) := by decide +kernel
theorem dJ6_getChars_ba4f3_69 : decode cJ6_getChars_ba4f3 69 = .ok (.goto (-47), 3) := by decide +kernel
theorem dJ6_getChars_ba4f3_72 : decode cJ6_getChars_ba4f3 72 = .ok (.aload_n 2, 1) := by decide +kernel
theorem dJ6_getChars_ba4f3_73 : decode cJ6_getChars_ba4f3 73 = .ok (.iinc 5 (-1), 3) := by decide +kernel
theorem dJ6_getChars_ba4f3_76 : decode cJ6_getChars_ba4f3 76 = .ok (.iload 5, 2) := by decide +kernel
theorem dJ6_getChars_ba4f3_78 : decode cJ6_getChars_ba4f3 78 = .ok (.getstatic 83, 3) := by decide +kernel
theorem dJ6_getChars_ba4f3_81 : decode cJ6_getChars_ba4f3 81 = .ok (.iload_n 0, 1) := by decide +kernel
theorem dJ6_getChars_ba4f3_82 : decode cJ6_getChars_ba4f3 82 = .ok (.ineg, 1) := by decide +kernel
theorem dJ6_getChars_ba4f3_83 : decode cJ6_getChars_ba4f3 83 = .ok (.baload, 1) := by decide +kernel
theorem dJ6_getChars_ba4f3_84 : decode cJ6_getChars_ba4f3 84 = .ok (.bastore, 1) := by decide +kernel
theorem dJ6_getChars_ba4f3_85 : decode cJ6_getChars_ba4f3 85 = .ok (.iload_n 0, 1) := by decide +kernel
theorem dJ6_getChars_ba4f3_86 : decode cJ6_getChars_ba4f3 86 = .ok (.bipush (-9), 2) := by decide +kernel
theorem dJ6_getChars_ba4f3_88 : decode cJ6_getChars_ba4f3 88 = .ok (.if_icmp .ge 16, 3) := by decide +kernel
theorem dJ6_getChars_ba4f3_91 : decode cJ6_getChars_ba4f3 91 = .ok (.aload_n 2, 1) := by decide +kernel
theorem dJ6_getChars_ba4f3_92 : decode cJ6_getChars_ba4f3 92 = .ok (.iinc 5 (-1), 3) := by decide +kernel
theorem dJ6_getChars_ba4f3_95 : decode cJ6_getChars_ba4f3 95 = .ok (.iload 5, 2) := by decide +kernel
theorem dJ6_getChars_ba4f3_97 : decode cJ6_getChars_ba4f3 97 = .ok (.getstatic 87, 3) := by decide +kernel
theorem dJ6_getChars_ba4f3_100 : decode cJ6_getChars_ba4f3 100 = .ok (.iload_n 0, 1) := by decide +kernel
theorem dJ6_getChars_ba4f3_101 : decode cJ6_getChars_ba4f3 101 = .ok (.ineg, 1) := by decide +kernel
theorem dJ6_getChars_ba4f3_102 : decode cJ6_getChars_ba4f3 102 = .ok (.baload, 1) := by decide +kernel
theorem dJ6_getChars_ba4f3_103 : decode cJ6_getChars_ba4f3 103 = .ok (.bastore, 1) := by decide +kernel
theorem dJ6_getChars_ba4f3_104 : decode cJ6_getChars_ba4f3 104 = .ok (.iload 6, 2) := by decide +kernel
theorem dJ6_getChars_ba4f3_106 : decode cJ6_getChars_ba4f3 106 = .ok (.ifCond .eq 12, 3) := by decide +kernel
theorem dJ6_getChars_ba4f3_109 : decode cJ6_getChars_ba4f3 109 = .ok (.aload_n 2, 1) := by decide +kernel
theorem dJ6_getChars_ba4f3_110 : decode cJ6_getChars_ba4f3 110 = .ok (.iinc 5 (-1), 3) := by decide +kernel
theorem dJ6_getChars_ba4f3_113 : decode cJ6_getChars_ba4f3 113 = .ok (.iload 5, 2) := by decide +kernel
theorem dJ6_getChars_ba4f3_115 : decode cJ6_getChars_ba4f3 115 = .ok (.bipush 45, 2) := by decide +kernel
theorem dJ6_getChars_ba4f3_117 : decode cJ6_getChars_ba4f3 117 = .ok (.bastore, 1) := by decide +kernel
theorem dJ6_getChars_ba4f3_118 : decode cJ6_getChars_ba4f3 118 = .ok (.iload 5, 2) := by decide +kernel
theorem dJ6_getChars_ba4f3_120 : decode cJ6_getChars_ba4f3 120 = .ok (.ireturn, 1) := by decide +kernel
theorem dJ6_stringSize_0f7a4_0 : decode cJ6_stringSize_0f7a4 0 = .ok (.iconst 1, 1) := by decide +kernel
theorem dJ6_stringSize_0f7a4_1 : decode cJ6_stringSize_0f7a4 1 = .ok (.istore_n 1, 1) := by decide +kernel
theorem dJ6_stringSize_0f7a4_2 : decode cJ6_stringSize_0f7a4 2 = .ok (.iload_n 0, 1) := by decide +kernel
theorem dJ6_stringSize_0f7a4_3 : decode cJ6_stringSize_0f7a4 3 = .ok (.ifCond .lt 8, 3) := by decide +kernel
theorem dJ6_stringSize_0f7a4_6 : decode cJ6_stringSize_0f7a4 6 = .ok (.iconst 0, 1) := by decide +kernel
theorem dJ6_stringSize_0f7a4_7 : decode cJ6_stringSize_0f7a4 7 = .ok (.istore_n 1, 1) := by decide +kernel
theorem dJ6_stringSize_0f7a4_8 : decode cJ6_stringSize_0f7a4 8 = .ok (.iload_n 0, 1) := by decide +kernel
theorem dJ6_stringSize_0f7a4_9 : decode cJ6_stringSize_0f7a4 9 = .ok (.ineg, 1) := by decide +kernel
theorem dJ6_stringSize_0f7a4_10 : decode cJ6_stringSize_0f7a4 10 = .ok (.istore_n 0, 1) := by decide +kernel
theorem dJ6_stringSize_0f7a4_11 : decode cJ6_stringSize_0f7a4 11 = .ok (.bipush (-10), 2) := by decide +kernel
theorem dJ6_stringSize_0f7a4_13 : decode cJ6_stringSize_0f7a4 13 = .ok (.istore_n 2, 1) := by decide +kernel
theorem dJ6_stringSize_0f7a4_14 : decode cJ6_stringSize_0f7a4 14 = .ok (.iconst 1, 1) := by decide +kernel
theorem dJ6_stringSize_0f7a4_15 : decode cJ6_stringSize_0f7a4 15 = .ok (.istore_n 3, 1) := by decide +kernel
theorem dJ6_stringSize_0f7a4_16 : decode cJ6_stringSize_0f7a4 16 = .ok (.iload_n 3, 1) := by decide +kernel
theorem dJ6_stringSize_0f7a4_17 : decode cJ6_stringSize_0f7a4 17 = .ok (.bipush 10, 2) := by decide +kernel
theorem dJ6_stringSize_0f7a4_19 : decode cJ6_stringSize_0f7a4 19 = .ok (.if_icmp .ge 23, 3) := by decide +kernel
theorem dJ6_stringSize_0f7a4_22 : decode cJ6_stringSize_0f7a4 22 = .ok (.iload_n 0, 1) := by decide +kernel
theorem dJ6_stringSize_0f7a4_23 : decode cJ6_stringSize_0f7a4 23 = .ok (.iload_n 2, 1) := by decide +kernel
theorem dJ6_stringSize_0f7a4_24 : decode cJ6_stringSize_0f7a4 24 = .ok (.if_icmp .le 7, 3) := by decide +kernel
theorem dJ6_stringSize_0f7a4_27 : decode cJ6_stringSize_0f7a4 27 = .ok (.iload_n 3, 1) := by decide +kernel
theorem dJ6_stringSize_0f7a4_28 : decode cJ6_stringSize_0f7a4 28 = .ok (.iload_n 1, 1) := by decide +kernel
theorem dJ6_stringSize_0f7a4_29 : decode cJ6_stringSize_0f7a4 29 = .ok (.iadd, 1) := by decide +kernel
theorem dJ6_stringSize_0f7a4_30 : decode cJ6_stringSize_0f7a4 30 = .ok (.ireturn, 1) := by decide +kernel
theorem dJ6_stringSize_0f7a4_31 : decode cJ6_stringSize_0f7a4 31 = .ok (.bipush 10, 2) := by decide +kernel
theorem dJ6_stringSize_0f7a4_33 : decode cJ6_stringSize_0f7a4 33 = .ok (.iload_n 2, 1) := by decide +kernel
theorem dJ6_stringSize_0f7a4_34 : decode cJ6_stringSize_0f7a4 34 = .ok (.imul, 1) := by decide +kernel
theorem dJ6_stringSize_0f7a4_35 : decode cJ6_stringSize_0f7a4 35 = .ok (.istore_n 2, 1) := by decide +kernel
theorem dJ6_stringSize_0f7a4_36 : decode cJ6_stringSize_0f7a4 36 = .ok (.iinc 3 1, 3) := by decide +kernel
theorem dJ6_stringSize_0f7a4_39 : decode cJ6_stringSize_0f7a4 39 = .ok (.goto (-23), 3) := by decide +kernel
theorem dJ6_stringSize_0f7a4_42 : decode cJ6_stringSize_0f7a4 42 = .ok (.bipush 10, 2) := by decide +kernel
theorem dJ6_stringSize_0f7a4_44 : decode cJ6_stringSize_0f7a4 44 = .ok (.iload_n 1, 1) := by decide +kernel
theorem dJ6_stringSize_0f7a4_45 : decode cJ6_stringSize_0f7a4 45 = .ok (.iadd, 1) := by decide +kernel
theorem dJ6_stringSize_0f7a4_46 : decode cJ6_stringSize_0f7a4 46 = .ok (.ireturn, 1) := by decide +kernel
theorem dJ6_signum_0f7a4_0 : decode cJ6_signum_0f7a4 0 = .ok (.iload_n 0, 1) := by decide +kernel
theorem dJ6_signum_0f7a4_1 : decode cJ6_signum_0f7a4 1 = .ok (.bipush 31, 2) := by decide +kernel
theorem dJ6_signum_0f7a4_3 : decode cJ6_signum_0f7a4 3 = .ok (.ishr, 1) := by decide +kernel
theorem dJ6_signum_0f7a4_4 : decode cJ6_signum_0f7a4 4 = .ok (.iload_n 0, 1) := by decide +kernel
theorem dJ6_signum_0f7a4_5 : decode cJ6_signum_0f7a4 5 = .ok (.ineg, 1) := by decide +kernel
theorem dJ6_signum_0f7a4_6 : decode cJ6_signum_0f7a4 6 = .ok (.bipush 31, 2) := by decide +kernel
theorem dJ6_signum_0f7a4_8 : decode cJ6_signum_0f7a4 8 = .ok (.iushr, 1) := by decide +kernel
theorem dJ6_signum_0f7a4_9 : decode cJ6_signum_0f7a4 9 = .ok (.ior, 1) := by decide +kernel
theorem dJ6_signum_0f7a4_10 : decode cJ6_signum_0f7a4 10 = .ok (.ireturn, 1) := by decide +kernel
theorem dJ9_max_7cf53_0 : decode cJ9_max_7cf53 0 = .ok (.iload_n 0, 1) := by decide +kernel
theorem dJ9_max_7cf53_1 : decode cJ9_max_7cf53 1 = .ok (.iload_n 1, 1) := by decide +kernel
theorem dJ9_max_7cf53_2 : decode cJ9_max_7cf53 2 = .ok (.if_icmp .lt 7, 3) := by decide +kernel
theorem dJ9_max_7cf53_5 : decode cJ9_max_7cf53 5 = .ok (.iload_n 0, 1) := by decide +kernel
theorem dJ9_max_7cf53_6 : decode cJ9_max_7cf53 6 = .ok (.goto 4, 3) := by decide +kernel
theorem dJ9_max_7cf53_9 : decode cJ9_max_7cf53 9 = .ok (.iload_n 1, 1) := by decide +kernel
theorem dJ9_max_7cf53_10 : decode cJ9_max_7cf53 10 = .ok (.ireturn, 1) := by decide +kernel
theorem dJ9_min_7cf53_0 : decode cJ9_min_7cf53 0 = .ok (.iload_n 0, 1) := by decide +kernel
theorem dJ9_min_7cf53_1 : decode cJ9_min_7cf53 1 = .ok (.iload_n 1, 1) := by decide +kernel
theorem dJ9_min_7cf53_2 : decode cJ9_min_7cf53 2 = .ok (.if_icmp .gt 7, 3) := by decide +kernel
theorem dJ9_min_7cf53_5 : decode cJ9_min_7cf53 5 = .ok (.iload_n 0, 1) := by decide +kernel
theorem dJ9_min_7cf53_6 : decode cJ9_min_7cf53 6 = .ok (.goto 4, 3) := by decide +kernel
theorem dJ9_min_7cf53_9 : decode cJ9_min_7cf53 9 = .ok (.iload_n 1, 1) := by decide +kernel
theorem dJ9_min_7cf53_10 : decode cJ9_min_7cf53 10 = .ok (.ireturn, 1) := by decide +kernel
theorem dJ0_init_81219_0 : decode cJ0_init_81219 0 = .ok (.aload_n 0, 1) := by decide +kernel
theorem dJ0_init_81219_1 : decode cJ0_init_81219 1 = .ok (.aload_n 1, 1) := by decide +kernel
theorem dJ0_init_81219_2 : decode cJ0_init_81219 2 = .ok (.aconst_null, 1) := by decide +kernel
theorem dJ0_init_81219_3 : decode cJ0_init_81219 3 = .ok (.invokespecial 489, 3) := by decide +kernel
theorem dJ0_init_81219_6 : decode cJ0_init_81219 6 = .ok (.return_, 1) := by decide +kernel
theorem dJ0_length_8abf5_0 : decode cJ0_length_8abf5 0 = .ok (.aload_n 0, 1) := by decide +kernel
theorem dJ0_length_8abf5_1 : decode cJ0_length_8abf5 1 = .ok (.getfield 9, 3) := by decide +kernel
theorem dJ0_length_8abf5_4 : decode cJ0_length_8abf5 4 = .ok (.arraylength, 1) := by decide +kernel
theorem dJ0_length_8abf5_5 : decode cJ0_length_8abf5 5 = .ok (.aload_n 0, 1) := by decide +kernel
theorem dJ0_length_8abf5_6 : decode cJ0_length_8abf5 6 = .ok (.invokevirtual 335, 3) := by decide +kernel
theorem dJ0_length_8abf5_9 : decode cJ0_length_8abf5 9 = .ok (.ishr, 1) := by decide +kernel
theorem dJ0_length_8abf5_10 : decode cJ0_length_8abf5 10 = .ok (.ireturn, 1) := by decide +kernel
theorem dJ0_charAt_5068e_0 : decode cJ0_charAt_5068e 0 = .ok (.aload_n 0, 1) := by decide +kernel
theorem dJ0_charAt_5068e_1 : decode cJ0_charAt_5068e 1 = .ok (.invokevirtual 492, 3) := by decide +kernel
theorem dJ0_charAt_5068e_4 : decode cJ0_charAt_5068e 4 = .ok (.ifCond .eq 12, 3) := by decide +kernel
theorem dJ0_charAt_5068e_7 : decode cJ0_charAt_5068e 7 = .ok (.aload_n 0, 1) := by decide +kernel
theorem dJ0_charAt_5068e_8 : decode cJ0_charAt_5068e 8 = .ok (.getfield 9, 3) := by decide +kernel
theorem dJ0_charAt_5068e_11 : decode cJ0_charAt_5068e 11 = .ok (.iload_n 1, 1) := by decide +kernel
theorem dJ0_charAt_5068e_12 : decode cJ0_charAt_5068e 12 = .ok (.invokestatic 495, 3) := by decide +kernel
theorem dJ0_charAt_5068e_15 : decode cJ0_charAt_5068e 15 = .ok (.ireturn, 1) := by decide +kernel
theorem dJ0_charAt_5068e_16 : decode cJ0_charAt_5068e 16 = .ok (.aload_n 0, 1) := by decide +kernel
theorem dJ0_charAt_5068e_17 : decode cJ0_charAt_5068e 17 = .ok (.getfield 9, 3) := by decide +kernel
theorem dJ0_charAt_5068e_20 : decode cJ0_charAt_5068e 20 = .ok (.iload_n 1, 1) := by decide +kernel
theorem dJ0_charAt_5068e_21 : decode cJ0_charAt_5068e 21 = .ok (.invokestatic 498, 3) := by decide +kernel
theorem dJ0_charAt_5068e_24 : decode cJ0_charAt_5068e 24 = .ok (.ireturn, 1) := by decide +kernel
theorem dJ0_getBytes_840e7_0 : decode cJ0_getBytes_840e7 0 = .ok (.aload_n 0, 1) := by decide +kernel
theorem dJ0_getBytes_840e7_1 : decode cJ0_getBytes_840e7 1 = .ok (.invokevirtual 335, 3) := by decide +kernel
theorem dJ0_getBytes_840e7_4 : decode cJ0_getBytes_840e7 4 = .ok (.iload_n 3, 1) := by decide +kernel
theorem dJ0_getBytes_840e7_5 : decode cJ0_getBytes_840e7 5 = .ok (.if_icmp .ne 23, 3) := by decide +kernel
theorem dJ0_getBytes_840e7_8 : decode cJ0_getBytes_840e7 8 = .ok (.aload_n 0, 1) := by decide +kernel
theorem dJ0_getBytes_840e7_9 : decode cJ0_getBytes_840e7 9 = .ok (.getfield 9, 3) := by decide +kernel
theorem dJ0_getBytes_840e7_12 : decode cJ0_getBytes_840e7 12 = .ok (.iconst 0, 1) := by decide +kernel
theorem dJ0_getBytes_840e7_13 : decode cJ0_getBytes_840e7 13 = .ok (.aload_n 1, 1) := by decide +kernel
theorem dJ0_getBytes_840e7_14 : decode cJ0_getBytes_840e7 14 = .ok (.iload_n 2, 1) := by decide +kernel
theorem dJ0_getBytes_840e7_15 : decode cJ0_getBytes_840e7 15 = .ok (.iload_n 3, 1) := by decide +kernel
theorem dJ0_getBytes_840e7_16 : decode cJ0_getBytes_840e7 16 = .ok (.ishl, 1) := by decide +kernel
theorem dJ0_getBytes_840e7_17 : decode cJ0_getBytes_840e7 17 = .ok (.aload_n 0, 1) := by decide +kernel
theorem dJ0_getBytes_840e7_18 : decode cJ0_getBytes_840e7 18 = .ok (.getfield 9, 3) := by decide +kernel
theorem dJ0_getBytes_840e7_21 : decode cJ0_getBytes_840e7 21 = .ok (.arraylength, 1) := by decide +kernel
theorem dJ0_getBytes_840e7_22 : decode cJ0_getBytes_840e7 22 = .ok (.invokestatic 212, 3) := by decide +kernel
theorem dJ0_getBytes_840e7_25 : decode cJ0_getBytes_840e7 25 = .ok (.goto 18, 3) := by decide +kernel
theorem dJ0_getBytes_840e7_28 : decode cJ0_getBytes_840e7 28 = .ok (.aload_n 0, 1) := by decide +kernel
theorem dJ0_getBytes_840e7_29 : decode cJ0_getBytes_840e7 29 = .ok (.getfield 9, 3) := by decide +kernel
theorem dJ0_getBytes_840e7_32 : decode cJ0_getBytes_840e7 32 = .ok (.iconst 0, 1) := by decide +kernel
theorem dJ0_getBytes_840e7_33 : decode cJ0_getBytes_840e7 33 = .ok (.aload_n 1, 1) := by decide +kernel
theorem dJ0_getBytes_840e7_34 : decode cJ0_getBytes_840e7 34 = .ok (.iload_n 2, 1) := by decide +kernel
theorem dJ0_getBytes_840e7_35 : decode cJ0_getBytes_840e7 35 = .ok (.aload_n 0, 1) := by decide +kernel
theorem dJ0_getBytes_840e7_36 : decode cJ0_getBytes_840e7 36 = .ok (.getfield 9, 3) := by decide +kernel
theorem dJ0_getBytes_840e7_39 : decode cJ0_getBytes_840e7 39 = .ok (.arraylength, 1) := by decide +kernel
theorem dJ0_getBytes_840e7_40 : decode cJ0_getBytes_840e7 40 = .ok (.invokestatic 106, 3) := by decide +kernel
theorem dJ0_getBytes_840e7_43 : decode cJ0_getBytes_840e7 43 = .ok (.return_, 1) := by decide +kernel
theorem dJ0_init_db425_0 : decode cJ0_init_db425 0 = .ok (.aload_n 0, 1) := by decide +kernel
theorem dJ0_init_db425_1 : decode cJ0_init_db425 1 = .ok (.invokespecial 1, 3) := by decide +kernel
theorem dJ0_init_db425_4 : decode cJ0_init_db425 4 = .ok (.aload_n 1, 1) := by decide +kernel
theorem dJ0_init_db425_5 : decode cJ0_init_db425 5 = .ok (.invokevirtual 552, 3) := by decide +kernel
theorem dJ0_init_db425_8 : decode cJ0_init_db425 8 = .ok (.astore_n 3, 1) := by decide +kernel
theorem dJ0_init_db425_9 : decode cJ0_init_db425 9 = .ok (.aload_n 1, 1) := by decide +kernel
theorem dJ0_init_db425_10 : decode cJ0_init_db425 10 = .ok (.invokevirtual 549, 3) := by decide +kernel
theorem dJ0_init_db425_13 : decode cJ0_init_db425 13 = .ok (.istore 4, 2) := by decide +kernel
theorem dJ0_init_db425_15 : decode cJ0_init_db425 15 = .ok (.aload_n 1, 1) := by decide +kernel
theorem dJ0_init_db425_16 : decode cJ0_init_db425 16 = .ok (.invokevirtual 1047, 3) := by decide +kernel
theorem dJ0_init_db425_19 : decode cJ0_init_db425 19 = .ok (.ifCond .eq 22, 3) := by decide +kernel
theorem dJ0_init_db425_22 : decode cJ0_init_db425 22 = .ok (.aload_n 0, 1) := by decide +kernel
theorem dJ0_init_db425_23 : decode cJ0_init_db425 23 = .ok (.iconst 0, 1) := by decide +kernel
theorem dJ0_init_db425_24 : decode cJ0_init_db425 24 = .ok (.putfield 15, 3) := by decide +kernel
theorem dJ0_init_db425_27 : decode cJ0_init_db425 27 = .ok (.aload_n 0, 1) := by decide +kernel
theorem dJ0_init_db425_28 : decode cJ0_init_db425 28 = .ok (.aload_n 3, 1) := by decide +kernel
theorem dJ0_init_db425_29 : decode cJ0_init_db425 29 = .ok (.iconst 0, 1) := by decide +kernel
theorem dJ0_init_db425_30 : decode cJ0_init_db425 30 = .ok (.iload 4, 2) := by decide +kernel
theorem dJ0_init_db425_32 : decode cJ0_init_db425 32 = .ok (.invokestatic 54, 3) := by decide +kernel
theorem dJ0_init_db425_35 : decode cJ0_init_db425 35 = .ok (.putfield 9, 3) := by decide +kernel
theorem dJ0_init_db425_38 : decode cJ0_init_db425 38 = .ok (.goto 59, 3) := by decide +kernel
theorem dJ0_init_db425_41 : decode cJ0_init_db425 41 = .ok (.getstatic 38, 3) := by decide +kernel
theorem dJ0_init_db425_44 : decode cJ0_init_db425 44 = .ok (.ifCond .eq 35, 3) := by decide +kernel
theorem dJ0_init_db425_47 : decode cJ0_init_db425 47 = .ok (.aload_n 1, 1) := by decide +kernel
theorem dJ0_init_db425_48 : decode cJ0_init_db425 48 = .ok (.getfield 1048, 3) := by decide +kernel
theorem dJ0_init_db425_51 : decode cJ0_init_db425 51 = .ok (.ifCond .eq 28, 3) := by decide +kernel
theorem dJ0_init_db425_54 : decode cJ0_init_db425 54 = .ok (.aload_n 0, 1) := by decide +kernel
theorem dJ0_init_db425_55 : decode cJ0_init_db425 55 = .ok (.aload_n 3, 1) := by decide +kernel
theorem dJ0_init_db425_56 : decode cJ0_init_db425 56 = .ok (.iconst 0, 1) := by decide +kernel
theorem dJ0_init_db425_57 : decode cJ0_init_db425 57 = .ok (.iload 4, 2) := by decide +kernel
theorem dJ0_init_db425_59 : decode cJ0_init_db425 59 = .ok (.invokestatic 1051, 3) := by decide +kernel
theorem dJ0_init_db425_62 : decode cJ0_init_db425 62 = .ok (.putfield 9, 3) := by decide +kernel
theorem dJ0_init_db425_65 : decode cJ0_init_db425 65 = .ok (.aload_n 0, 1) := by decide +kernel
theorem dJ0_init_db425_66 : decode cJ0_init_db425 66 = .ok (.aload_n 0, 1) := by decide +kernel
theorem dJ0_init_db425_67 : decode cJ0_init_db425 67 = .ok (.getfield 9, 3) := by decide +kernel
theorem dJ0_init_db425_70 : decode cJ0_init_db425 70 = .ok (.iload 4, 2) := by decide +kernel
theorem dJ0_init_db425_72 : decode cJ0_init_db425 72 = .ok (.invokestatic 47, 3) := by decide +kernel
theorem dJ0_init_db425_75 : decode cJ0_init_db425 75 = .ok (.putfield 15, 3) := by decide +kernel
theorem dJ0_init_db425_78 : decode cJ0_init_db425 78 = .ok (.return_, 1) := by decide +kernel
theorem dJ0_init_db425_79 : decode cJ0_init_db425 79 = .ok (.aload_n 0, 1) := by decide +kernel
theorem dJ0_init_db425_80 : decode cJ0_init_db425 80 = .ok (.iconst 1, 1) := by decide +kernel
theorem dJ0_init_db425_81 : decode cJ0_init_db425 81 = .ok (.putfield 15, 3) := by decide +kernel
theorem dJ0_init_db425_84 : decode cJ0_init_db425 84 = .ok (.aload_n 0, 1) := by decide +kernel
theorem dJ0_init_db425_85 : decode cJ0_init_db425 85 = .ok (.aload_n 3, 1) := by decide +kernel
theorem dJ0_init_db425_86 : decode cJ0_init_db425 86 = .ok (.iconst 0, 1) := by decide +kernel
theorem dJ0_init_db425_87 : decode cJ0_init_db425 87 = .ok (.iload 4, 2) := by decide +kernel
theorem dJ0_init_db425_89 : decode cJ0_init_db425 89 = .ok (.iconst 1, 1) := by decide +kernel
theorem dJ0_init_db425_90 : decode cJ0_init_db425 90 = .ok (.ishl, 1) := by decide +kernel
theorem dJ0_init_db425_91 : decode cJ0_init_db425 91 = .ok (.invokestatic 54, 3) := by decide +kernel
theorem dJ0_init_db425_94 : decode cJ0_init_db425 94 = .ok (.putfield 9, 3) := by decide +kernel
theorem dJ0_init_db425_97 : decode cJ0_init_db425 97 = .ok (.return_, 1) := by decide +kernel
theorem dJ0_coder_7d493_0 : decode cJ0_coder_7d493 0 = .ok (.getstatic 38, 3) := by decide +kernel
theorem dJ0_coder_7d493_3 : decode cJ0_coder_7d493 3 = .ok (.ifCond .eq 10, 3) := by decide +kernel
theorem dJ0_coder_7d493_6 : decode cJ0_coder_7d493 6 = .ok (.aload_n 0, 1) := by decide +kernel
theorem dJ0_coder_7d493_7 : decode cJ0_coder_7d493 7 = .ok (.getfield 15, 3) := by decide +kernel
theorem dJ0_coder_7d493_10 : decode cJ0_coder_7d493 10 = .ok (.goto 4, 3) := by decide +kernel
theorem dJ0_coder_7d493_13 : decode cJ0_coder_7d493 13 = .ok (.iconst 1, 1) := by decide +kernel
theorem dJ0_coder_7d493_14 : decode cJ0_coder_7d493 14 = .ok (.ireturn, 1) := by decide +kernel
theorem dJ0_isLatin1_aae02_0 : decode cJ0_isLatin1_aae02 0 = .ok (.getstatic 38, 3) := by decide +kernel
theorem dJ0_isLatin1_aae02_3 : decode cJ0_isLatin1_aae02 3 = .ok (.ifCond .eq 14, 3) := by decide +kernel
theorem dJ0_isLatin1_aae02_6 : decode cJ0_isLatin1_aae02 6 = .ok (.aload_n 0, 1) := by decide +kernel
theorem dJ0_isLatin1_aae02_7 : decode cJ0_isLatin1_aae02 7 = .ok (.getfield 15, 3) := by decide +kernel
theorem dJ0_isLatin1_aae02_10 : decode cJ0_isLatin1_aae02 10 = .ok (.ifCond .ne 7, 3) := by decide +kernel
theorem dJ0_isLatin1_aae02_13 : decode cJ0_isLatin1_aae02 13 = .ok (.iconst 1, 1) := by decide +kernel
theorem dJ0_isLatin1_aae02_14 : decode cJ0_isLatin1_aae02 14 = .ok (.goto 4, 3) := by decide +kernel
theorem dJ0_isLatin1_aae02_17 : decode cJ0_isLatin1_aae02 17 = .ok (.iconst 0, 1) := by decide +kernel
theorem dJ0_isLatin1_aae02_18 : decode cJ0_isLatin1_aae02 18 = .ok (.ireturn, 1) := by decide +kernel
theorem dJ0_checkIndex_df160_0 : decode cJ0_checkIndex_df160 0 = .ok (.iload_n 0, 1) := by decide +kernel
theorem dJ0_checkIndex_df160_1 : decode cJ0_checkIndex_df160 1 = .ok (.iload_n 1, 1) := by decide +kernel
theorem dJ0_checkIndex_df160_2 : decode cJ0_checkIndex_df160 2 = .ok (.getstatic 1053, 3) := by decide +kernel
theorem dJ0_checkIndex_df160_5 : decode cJ0_checkIndex_df160 5 = .ok (.invokestatic 1059, 3) := by decide +kernel
theorem dJ0_checkIndex_df160_8 : decode cJ0_checkIndex_df160 8 = .ok (.pop, 1) := by decide +kernel
theorem dJ0_checkIndex_df160_9 : decode cJ0_checkIndex_df160 9 = .ok (.return_, 1) := by decide +kernel
theorem dJ0_checkBoundsOffCount_cabcc_0 : decode cJ0_checkBoundsOffCount_cabcc 0 = .ok (.iload_n 0, 1) := by decide +kernel
theorem dJ0_checkBoundsOffCount_cabcc_1 : decode cJ0_checkBoundsOffCount_cabcc 1 = .ok (.iload_n 1, 1) := by decide +kernel
theorem dJ0_checkBoundsOffCount_cabcc_2 : decode cJ0_checkBoundsOffCount_cabcc 2 = .ok (.iload_n 2, 1) := by decide +kernel
theorem dJ0_checkBoundsOffCount_cabcc_3 : decode cJ0_checkBoundsOffCount_cabcc 3 = .ok (.getstatic 1053, 3) := by decide +kernel
theorem dJ0_checkBoundsOffCount_cabcc_6 : decode cJ0_checkBoundsOffCount_cabcc 6 = .ok (.invokestatic 1065, 3) := by decide +kernel
theorem dJ0_checkBoundsOffCount_cabcc_9 : decode cJ0_checkBoundsOffCount_cabcc 9 = .ok (.ireturn, 1) := by decide +kernel
theorem dJ0_checkBoundsBeginEnd_23922_0 : decode cJ0_checkBoundsBeginEnd_23922 0 = .ok (.iload_n 0, 1) := by decide +kernel
theorem dJ0_checkBoundsBeginEnd_23922_1 : decode cJ0_checkBoundsBeginEnd_23922 1 = .ok (.iload_n 1, 1) := by decide +kernel
theorem dJ0_checkBoundsBeginEnd_23922_2 : decode cJ0_checkBoundsBeginEnd_23922 2 = .ok (.iload_n 2, 1) := by decide +kernel
theorem dJ0_checkBoundsBeginEnd_23922_3 : decode cJ0_checkBoundsBeginEnd_23922 3 = .ok (.getstatic 1053, 3) := by decide +kernel
theorem dJ0_checkBoundsBeginEnd_23922_6 : decode cJ0_checkBoundsBeginEnd_23922 6 = .ok (.invokestatic 1062, 3) := by decide +kernel
theorem dJ0_checkBoundsBeginEnd_23922_9 : decode cJ0_checkBoundsBeginEnd_23922 9 = .ok (.pop, 1) := by decide +kernel
theorem dJ0_checkBoundsBeginEnd_23922_10 : decode cJ0_checkBoundsBeginEnd_23922 10 = .ok (.return_, 1) := by decide +kernel
theorem dJ4_init_da8c8_0 : decode cJ4_init_da8c8 0 = .ok (.aload_n 0, 1) := by decide +kernel
theorem dJ4_init_da8c8_1 : decode cJ4_init_da8c8 1 = .ok (.bipush 16, 2) := by decide +kernel
theorem dJ4_init_da8c8_3 : decode cJ4_init_da8c8 3 = .ok (.invokespecial 1, 3) := by decide +kernel
theorem dJ4_init_da8c8_6 : decode cJ4_init_da8c8 6 = .ok (.return_, 1) := by decide +kernel
theorem dJ4_init_a7421_0 : decode cJ4_init_a7421 0 = .ok (.aload_n 0, 1) := by decide +kernel
theorem dJ4_init_a7421_1 : decode cJ4_init_a7421 1 = .ok (.aload_n 1, 1) := by decide +kernel
theorem dJ4_init_a7421_2 : decode cJ4_init_a7421 2 = .ok (.invokespecial 7, 3) := by decide +kernel
theorem dJ4_init_a7421_5 : decode cJ4_init_a7421 5 = .ok (.return_, 1) := by decide +kernel
theorem dJ4_append_15ec4_0 : decode cJ4_append_15ec4 0 = .ok (.aload_n 0, 1) := by decide +kernel
theorem dJ4_append_15ec4_1 : decode cJ4_append_15ec4 1 = .ok (.aload_n 1, 1) := by decide +kernel
theorem dJ4_append_15ec4_2 : decode cJ4_append_15ec4 2 = .ok (.invokespecial 29, 3) := by decide +kernel
theorem dJ4_append_15ec4_5 : decode cJ4_append_15ec4 5 = .ok (.pop, 1) := by decide +kernel
theorem dJ4_append_15ec4_6 : decode cJ4_append_15ec4 6 = .ok (.aload_n 0, 1) := by decide +kernel
theorem dJ4_append_15ec4_7 : decode cJ4_append_15ec4 7 = .ok (.areturn, 1) := by decide +kernel
theorem dJ4_append_cf468_0 : decode cJ4_append_cf468 0 = .ok (.aload_n 0, 1) := by decide +kernel
theorem dJ4_append_cf468_1 : decode cJ4_append_cf468 1 = .ok (.iload_n 1, 1) := by decide +kernel
theorem dJ4_append_cf468_2 : decode cJ4_append_cf468 2 = .ok (.invokespecial 50, 3) := by decide +kernel
theorem dJ4_append_cf468_5 : decode cJ4_append_cf468 5 = .ok (.pop, 1) := by decide +kernel
theorem dJ4_append_cf468_6 : decode cJ4_append_cf468 6 = .ok (.aload_n 0, 1) := by decide +kernel
theorem dJ4_append_cf468_7 : decode cJ4_append_cf468 7 = .ok (.areturn, 1) := by decide +kernel
theorem dJ4_append_bf812_0 : decode cJ4_append_bf812 0 = .ok (.aload_n 0, 1) := by decide +kernel
theorem dJ4_append_bf812_1 : decode cJ4_append_bf812 1 = .ok (.iload_n 1, 1) := by decide +kernel
theorem dJ4_append_bf812_2 : decode cJ4_append_bf812 2 = .ok (.invokespecial 53, 3) := by decide +kernel
theorem dJ4_append_bf812_5 : decode cJ4_append_bf812 5 = .ok (.pop, 1) := by decide +kernel
theorem dJ4_append_bf812_6 : decode cJ4_append_bf812 6 = .ok (.aload_n 0, 1) := by decide +kernel
theorem dJ4_append_bf812_7 : decode cJ4_append_bf812 7 = .ok (.areturn, 1) := by decide +kernel
theorem dJ4_toString_0e30d_0 : decode cJ4_toString_0e30d 0 = .ok (.new 18, 3) := by decide +kernel
theorem dJ4_toString_0e30d_3 : decode cJ4_toString_0e30d 3 = .ok (.dup, 1) := by decide +kernel
theorem dJ4_toString_0e30d_4 : decode cJ4_toString_0e30d 4 = .ok (.aload_n 0, 1) := by decide +kernel
theorem dJ4_toString_0e30d_5 : decode cJ4_toString_0e30d 5 = .ok (.invokespecial 137, 3) := by decide +kernel
theorem dJ4_toString_0e30d_8 : decode cJ4_toString_0e30d 8 = .ok (.areturn, 1) := by decide +kernel
theorem dJ4_append_cf1ce_0 : decode cJ4_append_cf1ce 0 = .ok (.aload_n 0, 1) := by decide +kernel
theorem dJ4_append_cf1ce_1 : decode cJ4_append_cf1ce 1 = .ok (.aload_n 1, 1) := by decide +kernel
theorem dJ4_append_cf1ce_2 : decode cJ4_append_cf1ce 2 = .ok (.invokevirtual 23, 3) := by decide +kernel
theorem dJ4_append_cf1ce_5 : decode cJ4_append_cf1ce 5 = .ok (.areturn, 1) := by decide +kernel
theorem dJ4_length_8abf5_0 : decode cJ4_length_8abf5 0 = .ok (.aload_n 0, 1) := by decide +kernel
theorem dJ4_length_8abf5_1 : decode cJ4_length_8abf5 1 = .ok (.invokespecial 343, 3) := by decide +kernel
theorem dJ4_length_8abf5_4 : decode cJ4_length_8abf5 4 = .ok (.ireturn, 1) := by decide +kernel
theorem dJ1_charAt_3b067_0 : decode cJ1_charAt_3b067 0 = .ok (.iload_n 1, 1) := by decide +kernel
theorem dJ1_charAt_3b067_1 : decode cJ1_charAt_3b067 1 = .ok (.aload_n 0, 1) := by decide +kernel
theorem dJ1_charAt_3b067_2 : decode cJ1_charAt_3b067 2 = .ok (.arraylength, 1) := by decide +kernel
theorem dJ1_charAt_3b067_3 : decode cJ1_charAt_3b067 3 = .ok (.invokestatic 9, 3) := by decide +kernel
theorem dJ1_charAt_3b067_6 : decode cJ1_charAt_3b067 6 = .ok (.aload_n 0, 1) := by decide +kernel
theorem dJ1_charAt_3b067_7 : decode cJ1_charAt_3b067 7 = .ok (.iload_n 1, 1) := by decide +kernel
theorem dJ1_charAt_3b067_8 : decode cJ1_charAt_3b067 8 = .ok (.baload, 1) := by decide +kernel
theorem dJ1_charAt_3b067_9 : decode cJ1_charAt_3b067 9 = .ok (.sipush 255, 3) := by decide +kernel
theorem dJ1_charAt_3b067_12 : decode cJ1_charAt_3b067 12 = .ok (.iand, 1) := by decide +kernel
theorem dJ1_charAt_3b067_13 : decode cJ1_charAt_3b067 13 = .ok (.i2c, 1) := by decide +kernel
theorem dJ1_charAt_3b067_14 : decode cJ1_charAt_3b067 14 = .ok (.ireturn, 1) := by decide +kernel
theorem dJ1_canEncode_fc78d_0 : decode cJ1_canEncode_fc78d 0 = .ok (.iload_n 0, 1) := by decide +kernel
theorem dJ1_canEncode_fc78d_1 : decode cJ1_canEncode_fc78d 1 = .ok (.sipush 255, 3) := by decide +kernel
theorem dJ1_canEncode_fc78d_4 : decode cJ1_canEncode_fc78d 4 = .ok (.if_icmp .gt 7, 3) := by decide +kernel
theorem dJ1_canEncode_fc78d_7 : decode cJ1_canEncode_fc78d 7 = .ok (.iconst 1, 1) := by decide +kernel
theorem dJ1_canEncode_fc78d_8 : decode cJ1_canEncode_fc78d 8 = .ok (.goto 4, 3) := by decide +kernel
theorem dJ1_canEncode_fc78d_11 : decode cJ1_canEncode_fc78d 11 = .ok (.iconst 0, 1) := by decide +kernel
theorem dJ1_canEncode_fc78d_12 : decode cJ1_canEncode_fc78d 12 = .ok (.ireturn, 1) := by decide +kernel
theorem dJ1_inflate_0e8fd_0 : decode cJ1_inflate_0e8fd 0 = .ok (.aload_n 0, 1) := by decide +kernel
theorem dJ1_inflate_0e8fd_1 : decode cJ1_inflate_0e8fd 1 = .ok (.iload_n 1, 1) := by decide +kernel
theorem dJ1_inflate_0e8fd_2 : decode cJ1_inflate_0e8fd 2 = .ok (.aload_n 2, 1) := by decide +kernel
theorem dJ1_inflate_0e8fd_3 : decode cJ1_inflate_0e8fd 3 = .ok (.iload_n 3, 1) := by decide +kernel
theorem dJ1_inflate_0e8fd_4 : decode cJ1_inflate_0e8fd 4 = .ok (.iload 4, 2) := by decide +kernel
theorem dJ1_inflate_0e8fd_6 : decode cJ1_inflate_0e8fd 6 = .ok (.invokestatic 240, 3) := by decide +kernel
theorem dJ1_inflate_0e8fd_9 : decode cJ1_inflate_0e8fd 9 = .ok (.return_, 1) := by decide +kernel
theorem dJ7_fill_d0a16_0 : decode cJ7_fill_d0a16 0 = .ok (.iconst 0, 1) := by decide +kernel
theorem dJ7_fill_d0a16_1 : decode cJ7_fill_d0a16 1 = .ok (.istore_n 3, 1) := by decide +kernel
theorem dJ7_fill_d0a16_2 : decode cJ7_fill_d0a16 2 = .ok (.aload_n 0, 1) := by decide +kernel
theorem dJ7_fill_d0a16_3 : decode cJ7_fill_d0a16 3 = .ok (.arraylength, 1) := by decide +kernel
theorem dJ7_fill_d0a16_4 : decode cJ7_fill_d0a16 4 = .ok (.istore 4, 2) := by decide +kernel
theorem dJ7_fill_d0a16_6 : decode cJ7_fill_d0a16 6 = .ok (.iload_n 3, 1) := by decide +kernel
theorem dJ7_fill_d0a16_7 : decode cJ7_fill_d0a16 7 = .ok (.iload 4, 2) := by decide +kernel
theorem dJ7_fill_d0a16_9 : decode cJ7_fill_d0a16 9 = .ok (.if_icmp .ge 13, 3) := by decide +kernel
theorem dJ7_fill_d0a16_12 : decode cJ7_fill_d0a16 12 = .ok (.aload_n 0, 1) := by decide +kernel
theorem dJ7_fill_d0a16_13 : decode cJ7_fill_d0a16 13 = .ok (.iload_n 3, 1) := by decide +kernel
theorem dJ7_fill_d0a16_14 : decode cJ7_fill_d0a16 14 = .ok (.lload_n 1, 1) := by decide +kernel
theorem dJ7_fill_d0a16_15 : decode cJ7_fill_d0a16 15 = .ok (.lastore, 1) := by decide +kernel
theorem dJ7_fill_d0a16_16 : decode cJ7_fill_d0a16 16 = .ok (.iinc 3 1, 3) := by decide +kernel
theorem dJ7_fill_d0a16_19 : decode cJ7_fill_d0a16 19 = .ok (.goto (-13), 3) := by decide +kernel
theorem dJ7_fill_d0a16_22 : decode cJ7_fill_d0a16 22 = .ok (.return_, 1) := by decide +kernel
theorem dJ7_copyOf_9075b_0 : decode cJ7_copyOf_9075b 0 = .ok (.iload_n 1, 1) := by decide +kernel
theorem dJ7_copyOf_9075b_1 : decode cJ7_copyOf_9075b 1 = .ok (.aload_n 0, 1) := by decide +kernel
theorem dJ7_copyOf_9075b_2 : decode cJ7_copyOf_9075b 2 = .ok (.arraylength, 1) := by decide +kernel
theorem dJ7_copyOf_9075b_3 : decode cJ7_copyOf_9075b 3 = .ok (.if_icmp .ne 11, 3) := by decide +kernel
theorem dJ7_copyOf_9075b_6 : decode cJ7_copyOf_9075b 6 = .ok (.aload_n 0, 1) := by decide +kernel
theorem dJ7_copyOf_9075b_7 : decode cJ7_copyOf_9075b 7 = .ok (.invokevirtual 310, 3) := by decide +kernel
theorem dJ7_copyOf_9075b_10 : decode cJ7_copyOf_9075b 10 = .ok (.checkcast 311, 3) := by decide +kernel
theorem dJ7_copyOf_9075b_13 : decode cJ7_copyOf_9075b 13 = .ok (.areturn, 1) := by decide +kernel
theorem dJ7_copyOf_9075b_14 : decode cJ7_copyOf_9075b 14 = .ok (.iload_n 1, 1) := by decide +kernel
theorem dJ7_copyOf_9075b_15 : decode cJ7_copyOf_9075b 15 = .ok (.newarray .byte, 2) := by decide +kernel
theorem dJ7_copyOf_9075b_17 : decode cJ7_copyOf_9075b 17 = .ok (.astore_n 2, 1) := by decide +kernel
theorem dJ7_copyOf_9075b_18 : decode cJ7_copyOf_9075b 18 = .ok (.aload_n 0, 1) := by decide +kernel
theorem dJ7_copyOf_9075b_19 : decode cJ7_copyOf_9075b 19 = .ok (.iconst 0, 1) := by decide +kernel
theorem dJ7_copyOf_9075b_20 : decode cJ7_copyOf_9075b 20 = .ok (.aload_n 2, 1) := by decide +kernel
theorem dJ7_copyOf_9075b_21 : decode cJ7_copyOf_9075b 21 = .ok (.iconst 0, 1) := by decide +kernel
theorem dJ7_copyOf_9075b_22 : decode cJ7_copyOf_9075b 22 = .ok (.aload_n 0, 1) := by decide +kernel
theorem dJ7_copyOf_9075b_23 : decode cJ7_copyOf_9075b 23 = .ok (.arraylength, 1) := by decide +kernel
theorem dJ7_copyOf_9075b_24 : decode cJ7_copyOf_9075b 24 = .ok (.iload_n 1, 1) := by decide +kernel
theorem dJ7_copyOf_9075b_25 : decode cJ7_copyOf_9075b 25 = .ok (.invokestatic 304, 3) := by decide +kernel
theorem dJ7_copyOf_9075b_28 : decode cJ7_copyOf_9075b 28 = .ok (.invokestatic 150, 3) := by decide +kernel
theorem dJ7_copyOf_9075b_31 : decode cJ7_copyOf_9075b 31 = .ok (.aload_n 2, 1) := by decide +kernel
theorem dJ7_copyOf_9075b_32 : decode cJ7_copyOf_9075b 32 = .ok (.areturn, 1) := by decide +kernel
theorem dJ7_copyOf_59c91_0 : decode cJ7_copyOf_59c91 0 = .ok (.iload_n 1, 1) := by decide +kernel
theorem dJ7_copyOf_59c91_1 : decode cJ7_copyOf_59c91 1 = .ok (.aload_n 0, 1) := by decide +kernel
theorem dJ7_copyOf_59c91_2 : decode cJ7_copyOf_59c91 2 = .ok (.arraylength, 1) := by decide +kernel
theorem dJ7_copyOf_59c91_3 : decode cJ7_copyOf_59c91 3 = .ok (.if_icmp .ne 11, 3) := by decide +kernel
theorem dJ7_copyOf_59c91_6 : decode cJ7_copyOf_59c91 6 = .ok (.aload_n 0, 1) := by decide +kernel
theorem dJ7_copyOf_59c91_7 : decode cJ7_copyOf_59c91 7 = .ok (.invokevirtual 316, 3) := by decide +kernel
theorem dJ7_copyOf_59c91_10 : decode cJ7_copyOf_59c91 10 = .ok (.checkcast 317, 3) := by decide +kernel
theorem dJ7_copyOf_59c91_13 : decode cJ7_copyOf_59c91 13 = .ok (.areturn, 1) := by decide +kernel
theorem dJ7_copyOf_59c91_14 : decode cJ7_copyOf_59c91 14 = .ok (.iload_n 1, 1) := by decide +kernel
theorem dJ7_copyOf_59c91_15 : decode cJ7_copyOf_59c91 15 = .ok (.newarray .int, 2) := by decide +kernel
theorem dJ7_copyOf_59c91_17 : decode cJ7_copyOf_59c91 17 = .ok (.astore_n 2, 1) := by decide +kernel
theorem dJ7_copyOf_59c91_18 : decode cJ7_copyOf_59c91 18 = .ok (.aload_n 0, 1) := by decide +kernel
theorem dJ7_copyOf_59c91_19 : decode cJ7_copyOf_59c91 19 = .ok (.iconst 0, 1) := by decide +kernel
theorem dJ7_copyOf_59c91_20 : decode cJ7_copyOf_59c91 20 = .ok (.aload_n 2, 1) := by decide +kernel
theorem dJ7_copyOf_59c91_21 : decode cJ7_copyOf_59c91 21 = .ok (.iconst 0, 1) := by decide +kernel
theorem dJ7_copyOf_59c91_22 : decode cJ7_copyOf_59c91 22 = .ok (.aload_n 0, 1) := by decide +kernel
theorem dJ7_copyOf_59c91_23 : decode cJ7_copyOf_59c91 23 = .ok (.arraylength, 1) := by decide +kernel
theorem dJ7_copyOf_59c91_24 : decode cJ7_copyOf_59c91 24 = .ok (.iload_n 1, 1) := by decide +kernel
theorem dJ7_copyOf_59c91_25 : decode cJ7_copyOf_59c91 25 = .ok (.invokestatic 304, 3) := by decide +kernel
theorem dJ7_copyOf_59c91_28 : decode cJ7_copyOf_59c91 28 = .ok (.invokestatic 150, 3) := by decide +kernel
theorem dJ7_copyOf_59c91_31 : decode cJ7_copyOf_59c91 31 = .ok (.aload_n 2, 1) := by decide +kernel
theorem dJ7_copyOf_59c91_32 : decode cJ7_copyOf_59c91 32 = .ok (.areturn, 1) := by decide +kernel
theorem dJ7_checkLength_df160_0 : decode cJ7_checkLength_df160 0 = .ok (.iload_n 1, 1) := by decide +kernel
theorem dJ7_checkLength_df160_1 : decode cJ7_checkLength_df160 1 = .ok (.iload_n 0, 1) := by decide +kernel
theorem dJ7_checkLength_df160_2 : decode cJ7_checkLength_df160 2 = .ok (.if_icmp .ge 35, 3) := by decide +kernel
theorem dJ7_checkLength_df160_5 : decode cJ7_checkLength_df160 5 = .ok (.new 43, 3) := by decide +kernel
theorem dJ7_checkLength_df160_8 : decode cJ7_checkLength_df160 8 = .ok (.dup, 1) := by decide +kernel
theorem dJ7_checkLength_df160_9 : decode cJ7_checkLength_df160 9 = .ok (.new 45, 3) := by decide +kernel
theorem dJ7_checkLength_df160_12 : decode cJ7_checkLength_df160 12 = .ok (.dup, 1) := by decide +kernel
theorem dJ7_checkLength_df160_13 : decode cJ7_checkLength_df160 13 = .ok (.invokespecial 47, 3) := by decide +kernel
theorem dJ7_checkLength_df160_16 : decode cJ7_checkLength_df160 16 = .ok (.iload_n 0, 1) := by decide +kernel
theorem dJ7_checkLength_df160_17 : decode cJ7_checkLength_df160 17 = .ok (.invokevirtual 54, 3) := by decide +kernel
theorem dJ7_checkLength_df160_20 : decode cJ7_checkLength_df160 20 = .ok (.ldc_w 337, 3) := by decide +kernel
theorem dJ7_checkLength_df160_23 : decode cJ7_checkLength_df160 23 = .ok (.invokevirtual 50, 3) := by decide +kernel
theorem dJ7_checkLength_df160_26 : decode cJ7_checkLength_df160 26 = .ok (.iload_n 1, 1) := by decide +kernel
theorem dJ7_checkLength_df160_27 : decode cJ7_checkLength_df160 27 = .ok (.invokevirtual 54, 3) := by decide +kernel
theorem dJ7_checkLength_df160_30 : decode cJ7_checkLength_df160 30 = .ok (.invokevirtual 61, 3) := by decide +kernel
theorem dJ7_checkLength_df160_33 : decode cJ7_checkLength_df160 33 = .ok (.invokespecial 65, 3) := by decide +kernel
theorem dJ7_checkLength_df160_36 : decode cJ7_checkLength_df160 36 = .ok (.athrow, 1) := by decide +kernel
theorem dJ7_checkLength_df160_37 : decode cJ7_checkLength_df160 37 = .ok (.return_, 1) := by decide +kernel
theorem dJ7_copyOfRange_39247_0 : decode cJ7_copyOfRange_39247 0 = .ok (.iload_n 1, 1) := by decide +kernel
theorem dJ7_copyOfRange_39247_1 : decode cJ7_copyOfRange_39247 1 = .ok (.ifCond .ne 9, 3) := by decide +kernel
theorem dJ7_copyOfRange_39247_4 : decode cJ7_copyOfRange_39247 4 = .ok (.iload_n 2, 1) := by decide +kernel
theorem dJ7_copyOfRange_39247_5 : decode cJ7_copyOfRange_39247 5 = .ok (.aload_n 0, 1) := by decide +kernel
theorem dJ7_copyOfRange_39247_6 : decode cJ7_copyOfRange_39247 6 = .ok (.arraylength, 1) := by decide +kernel
theorem dJ7_copyOfRange_39247_7 : decode cJ7_copyOfRange_39247 7 = .ok (.if_icmp .eq 10, 3) := by decide +kernel
theorem dJ7_copyOfRange_39247_10 : decode cJ7_copyOfRange_39247 10 = .ok (.aload_n 0, 1) := by decide +kernel
theorem dJ7_copyOfRange_39247_11 : decode cJ7_copyOfRange_39247 11 = .ok (.iload_n 1, 1) := by decide +kernel
theorem dJ7_copyOfRange_39247_12 : decode cJ7_copyOfRange_39247 12 = .ok (.iload_n 2, 1) := by decide +kernel
theorem dJ7_copyOfRange_39247_13 : decode cJ7_copyOfRange_39247 13 = .ok (.invokestatic 339, 3) := by decide +kernel
theorem dJ7_copyOfRange_39247_16 : decode cJ7_copyOfRange_39247 16 = .ok (.areturn, 1) := by decide +kernel
theorem dJ7_copyOfRange_39247_17 : decode cJ7_copyOfRange_39247 17 = .ok (.aload_n 0, 1) := by decide +kernel
theorem dJ7_copyOfRange_39247_18 : decode cJ7_copyOfRange_39247 18 = .ok (.invokevirtual 310, 3) := by decide +kernel
theorem dJ7_copyOfRange_39247_21 : decode cJ7_copyOfRange_39247 21 = .ok (.checkcast 311, 3) := by decide +kernel
theorem dJ7_copyOfRange_39247_24 : decode cJ7_copyOfRange_39247 24 = .ok (.areturn, 1) := by decide +kernel
theorem dJ7_copyOfRangeByte_39247_0 : decode cJ7_copyOfRangeByte_39247 0 = .ok (.iload_n 1, 1) := by decide +kernel
theorem dJ7_copyOfRangeByte_39247_1 : decode cJ7_copyOfRangeByte_39247 1 = .ok (.iload_n 2, 1) := by decide +kernel
theorem dJ7_copyOfRangeByte_39247_2 : decode cJ7_copyOfRangeByte_39247 2 = .ok (.invokestatic 343, 3) := by decide +kernel
theorem dJ7_copyOfRangeByte_39247_5 : decode cJ7_copyOfRangeByte_39247 5 = .ok (.iload_n 2, 1) := by decide +kernel
theorem dJ7_copyOfRangeByte_39247_6 : decode cJ7_copyOfRangeByte_39247 6 = .ok (.iload_n 1, 1) := by decide +kernel
theorem dJ7_copyOfRangeByte_39247_7 : decode cJ7_copyOfRangeByte_39247 7 = .ok (.isub, 1) := by decide +kernel
theorem dJ7_copyOfRangeByte_39247_8 : decode cJ7_copyOfRangeByte_39247 8 = .ok (.istore_n 3, 1) := by decide +kernel
theorem dJ7_copyOfRangeByte_39247_9 : decode cJ7_copyOfRangeByte_39247 9 = .ok (.iload_n 3, 1) := by decide +kernel
theorem dJ7_copyOfRangeByte_39247_10 : decode cJ7_copyOfRangeByte_39247 10 = .ok (.newarray .byte, 2) := by decide +kernel
theorem dJ7_copyOfRangeByte_39247_12 : decode cJ7_copyOfRangeByte_39247 12 = .ok (.astore 4, 2) := by decide +kernel
theorem dJ7_copyOfRangeByte_39247_14 : decode cJ7_copyOfRangeByte_39247 14 = .ok (.aload_n 0, 1) := by decide +kernel
theorem dJ7_copyOfRangeByte_39247_15 : decode cJ7_copyOfRangeByte_39247 15 = .ok (.iload_n 1, 1) := by decide +kernel
theorem dJ7_copyOfRangeByte_39247_16 : decode cJ7_copyOfRangeByte_39247 16 = .ok (.aload 4, 2) := by decide +kernel
theorem dJ7_copyOfRangeByte_39247_18 : decode cJ7_copyOfRangeByte_39247 18 = .ok (.iconst 0, 1) := by decide +kernel
theorem dJ7_copyOfRangeByte_39247_19 : decode cJ7_copyOfRangeByte_39247 19 = .ok (.aload_n 0, 1) := by decide +kernel
theorem dJ7_copyOfRangeByte_39247_20 : decode cJ7_copyOfRangeByte_39247 20 = .ok (.arraylength, 1) := by decide +kernel
theorem dJ7_copyOfRangeByte_39247_21 : decode cJ7_copyOfRangeByte_39247 21 = .ok (.iload_n 1, 1) := by decide +kernel
theorem dJ7_copyOfRangeByte_39247_22 : decode cJ7_copyOfRangeByte_39247 22 = .ok (.isub, 1) := by decide +kernel
theorem dJ7_copyOfRangeByte_39247_23 : decode cJ7_copyOfRangeByte_39247 23 = .ok (.iload_n 3, 1) := by decide +kernel
theorem dJ7_copyOfRangeByte_39247_24 : decode cJ7_copyOfRangeByte_39247 24 = .ok (.invokestatic 304, 3) := by decide +kernel
theorem dJ7_copyOfRangeByte_39247_27 : decode cJ7_copyOfRangeByte_39247 27 = .ok (.invokestatic 150, 3) := by decide +kernel
theorem dJ7_copyOfRangeByte_39247_30 : decode cJ7_copyOfRangeByte_39247 30 = .ok (.aload 4, 2) := by decide +kernel
theorem dJ7_copyOfRangeByte_39247_32 : decode cJ7_copyOfRangeByte_39247 32 = .ok (.areturn, 1) := by decide +kernel
theorem dJ8_newLength_cabcc_0 : decode cJ8_newLength_cabcc 0 = .ok (.iload_n 0, 1) := by decide +kernel
theorem dJ8_newLength_cabcc_1 : decode cJ8_newLength_cabcc 1 = .ok (.iload_n 1, 1) := by decide +kernel
theorem dJ8_newLength_cabcc_2 : decode cJ8_newLength_cabcc 2 = .ok (.iload_n 2, 1) := by decide +kernel
theorem dJ8_newLength_cabcc_3 : decode cJ8_newLength_cabcc 3 = .ok (.invokestatic 194, 3) := by decide +kernel
theorem dJ8_newLength_cabcc_6 : decode cJ8_newLength_cabcc 6 = .ok (.iadd, 1) := by decide +kernel
theorem dJ8_newLength_cabcc_7 : decode cJ8_newLength_cabcc 7 = .ok (.istore_n 3, 1) := by decide +kernel
theorem dJ8_newLength_cabcc_8 : decode cJ8_newLength_cabcc 8 = .ok (.iconst 0, 1) := by decide +kernel
theorem dJ8_newLength_cabcc_9 : decode cJ8_newLength_cabcc 9 = .ok (.iload_n 3, 1) := by decide +kernel
theorem dJ8_newLength_cabcc_10 : decode cJ8_newLength_cabcc 10 = .ok (.if_icmp .ge 11, 3) := by decide +kernel
theorem dJ8_newLength_cabcc_13 : decode cJ8_newLength_cabcc 13 = .ok (.iload_n 3, 1) := by decide +kernel
theorem dJ8_newLength_cabcc_14 : decode cJ8_newLength_cabcc 14 = .ok (.ldc 200, 2) := by decide +kernel
theorem dJ8_newLength_cabcc_16 : decode cJ8_newLength_cabcc 16 = .ok (.if_icmp .gt 5, 3) := by decide +kernel
theorem dJ8_newLength_cabcc_19 : decode cJ8_newLength_cabcc 19 = .ok (.iload_n 3, 1) := by decide +kernel
theorem dJ8_newLength_cabcc_20 : decode cJ8_newLength_cabcc 20 = .ok (.ireturn, 1) := by decide +kernel
theorem dJ8_newLength_cabcc_21 : decode cJ8_newLength_cabcc 21 = .ok (.iload_n 0, 1) := by decide +kernel
theorem dJ8_newLength_cabcc_22 : decode cJ8_newLength_cabcc 22 = .ok (.iload_n 1, 1) := by decide +kernel
theorem dJ8_newLength_cabcc_23 : decode cJ8_newLength_cabcc 23 = .ok (.invokestatic 201, 3) := by decide +kernel
theorem dJ8_newLength_cabcc_26 : decode cJ8_newLength_cabcc 26 = .ok (.ireturn, 1) := by decide +kernel
theorem dJ8_hugeLength_7cf53_0 : decode cJ8_hugeLength_7cf53 0 = .ok (.iload_n 0, 1) := by decide +kernel
theorem dJ8_hugeLength_7cf53_1 : decode cJ8_hugeLength_7cf53 1 = .ok (.iload_n 1, 1) := by decide +kernel
theorem dJ8_hugeLength_7cf53_2 : decode cJ8_hugeLength_7cf53 2 = .ok (.iadd, 1) := by decide +kernel
theorem dJ8_hugeLength_7cf53_3 : decode cJ8_hugeLength_7cf53 3 = .ok (.istore_n 2, 1) := by decide +kernel
theorem dJ8_hugeLength_7cf53_4 : decode cJ8_hugeLength_7cf53 4 = .ok (.iload_n 2, 1) := by decide +kernel
theorem dJ8_hugeLength_7cf53_5 : decode cJ8_hugeLength_7cf53 5 = .ok (.ifCond .ge 44, 3) := by decide +kernel
theorem dJ8_hugeLength_7cf53_8 : decode cJ8_hugeLength_7cf53 8 = .ok (.new 204, 3) := by decide +kernel
theorem dJ8_hugeLength_7cf53_11 : decode cJ8_hugeLength_7cf53 11 = .ok (.dup, 1) := by decide +kernel
theorem dJ8_hugeLength_7cf53_12 : decode cJ8_hugeLength_7cf53 12 = .ok (.new 89, 3) := by decide +kernel
theorem dJ8_hugeLength_7cf53_15 : decode cJ8_hugeLength_7cf53 15 = .ok (.dup, 1) := by decide +kernel
theorem dJ8_hugeLength_7cf53_16 : decode cJ8_hugeLength_7cf53 16 = .ok (.invokespecial 91, 3) := by decide +kernel
theorem dJ8_hugeLength_7cf53_19 : decode cJ8_hugeLength_7cf53 19 = .ok (.ldc 206, 2) := by decide +kernel
theorem dJ8_hugeLength_7cf53_21 : decode cJ8_hugeLength_7cf53 21 = .ok (.invokevirtual 94, 3) := by decide +kernel
theorem dJ8_hugeLength_7cf53_24 : decode cJ8_hugeLength_7cf53 24 = .ok (.iload_n 0, 1) := by decide +kernel
theorem dJ8_hugeLength_7cf53_25 : decode cJ8_hugeLength_7cf53 25 = .ok (.invokevirtual 98, 3) := by decide +kernel
theorem dJ8_hugeLength_7cf53_28 : decode cJ8_hugeLength_7cf53 28 = .ok (.ldc 208, 2) := by decide +kernel
theorem dJ8_hugeLength_7cf53_30 : decode cJ8_hugeLength_7cf53 30 = .ok (.invokevirtual 94, 3) := by decide +kernel
theorem dJ8_hugeLength_7cf53_33 : decode cJ8_hugeLength_7cf53 33 = .ok (.iload_n 1, 1) := by decide +kernel
theorem dJ8_hugeLength_7cf53_34 : decode cJ8_hugeLength_7cf53 34 = .ok (.invokevirtual 98, 3) := by decide +kernel
theorem dJ8_hugeLength_7cf53_37 : decode cJ8_hugeLength_7cf53 37 = .ok (.ldc 210, 2) := by decide +kernel
theorem dJ8_hugeLength_7cf53_39 : decode cJ8_hugeLength_7cf53 39 = .ok (.invokevirtual 94, 3) := by decide +kernel
theorem dJ8_hugeLength_7cf53_42 : decode cJ8_hugeLength_7cf53 42 = .ok (.invokevirtual 101, 3) := by decide +kernel
theorem dJ8_hugeLength_7cf53_45 : decode cJ8_hugeLength_7cf53 45 = .ok (.invokespecial 212, 3) := by decide +kernel
theorem dJ8_hugeLength_7cf53_48 : decode cJ8_hugeLength_7cf53 48 = .ok (.athrow, 1) := by decide +kernel
theorem dJ8_hugeLength_7cf53_49 : decode cJ8_hugeLength_7cf53 49 = .ok (.iload_n 2, 1) := by decide +kernel
theorem dJ8_hugeLength_7cf53_50 : decode cJ8_hugeLength_7cf53 50 = .ok (.ldc 200, 2) := by decide +kernel
theorem dJ8_hugeLength_7cf53_52 : decode cJ8_hugeLength_7cf53 52 = .ok (.if_icmp .gt 6, 3) := by decide +kernel
theorem dJ8_hugeLength_7cf53_55 : decode cJ8_hugeLength_7cf53 55 = .ok (.ldc 200, 2) := by decide +kernel
theorem dJ8_hugeLength_7cf53_57 : decode cJ8_hugeLength_7cf53 57 = .ok (.ireturn, 1) := by decide +kernel
theorem dJ8_hugeLength_7cf53_58 : decode cJ8_hugeLength_7cf53 58 = .ok (.iload_n 2, 1) := by decide +kernel
theorem dJ8_hugeLength_7cf53_59 : decode cJ8_hugeLength_7cf53 59 = .ok (.ireturn, 1) := by decide +kernel
theorem dJ3_checkIndex_8e157_0 : decode cJ3_checkIndex_8e157 0 = .ok (.iload_n 0, 1) := by decide +kernel
theorem dJ3_checkIndex_8e157_1 : decode cJ3_checkIndex_8e157 1 = .ok (.ifCond .lt 8, 3) := by decide +kernel
theorem dJ3_checkIndex_8e157_4 : decode cJ3_checkIndex_8e157 4 = .ok (.iload_n 0, 1) := by decide +kernel
theorem dJ3_checkIndex_8e157_5 : decode cJ3_checkIndex_8e157 5 = .ok (.iload_n 1, 1) := by decide +kernel
theorem dJ3_checkIndex_8e157_6 : decode cJ3_checkIndex_8e157 6 = .ok (.if_icmp .lt 10, 3) := by decide +kernel
theorem dJ3_checkIndex_8e157_9 : decode cJ3_checkIndex_8e157 9 = .ok (.aload_n 2, 1) := by decide +kernel
theorem dJ3_checkIndex_8e157_10 : decode cJ3_checkIndex_8e157 10 = .ok (.iload_n 0, 1) := by decide +kernel
theorem dJ3_checkIndex_8e157_11 : decode cJ3_checkIndex_8e157 11 = .ok (.iload_n 1, 1) := by decide +kernel
theorem dJ3_checkIndex_8e157_12 : decode cJ3_checkIndex_8e157 12 = .ok (.invokestatic 95, 3) := by decide +kernel
theorem dJ3_checkIndex_8e157_15 : decode cJ3_checkIndex_8e157 15 = .ok (.athrow, 1) := by decide +kernel
theorem dJ3_checkIndex_8e157_16 : decode cJ3_checkIndex_8e157 16 = .ok (.iload_n 0, 1) := by decide +kernel
theorem dJ3_checkIndex_8e157_17 : decode cJ3_checkIndex_8e157 17 = .ok (.ireturn, 1) := by decide +kernel
theorem dJ3_checkFromToIndex_8c36e_0 : decode cJ3_checkFromToIndex_8c36e 0 = .ok (.iload_n 0, 1) := by decide +kernel
theorem dJ3_checkFromToIndex_8c36e_1 : decode cJ3_checkFromToIndex_8c36e 1 = .ok (.ifCond .lt 13, 3) := by decide +kernel
theorem dJ3_checkFromToIndex_8c36e_4 : decode cJ3_checkFromToIndex_8c36e 4 = .ok (.iload_n 0, 1) := by decide +kernel
theorem dJ3_checkFromToIndex_8c36e_5 : decode cJ3_checkFromToIndex_8c36e 5 = .ok (.iload_n 1, 1) := by decide +kernel
theorem dJ3_checkFromToIndex_8c36e_6 : decode cJ3_checkFromToIndex_8c36e 6 = .ok (.if_icmp .gt 8, 3) := by decide +kernel
theorem dJ3_checkFromToIndex_8c36e_9 : decode cJ3_checkFromToIndex_8c36e 9 = .ok (.iload_n 1, 1) := by decide +kernel
theorem dJ3_checkFromToIndex_8c36e_10 : decode cJ3_checkFromToIndex_8c36e 10 = .ok (.iload_n 2, 1) := by decide +kernel
theorem dJ3_checkFromToIndex_8c36e_11 : decode cJ3_checkFromToIndex_8c36e 11 = .ok (.if_icmp .le 11, 3) := by decide +kernel
theorem dJ3_checkFromToIndex_8c36e_14 : decode cJ3_checkFromToIndex_8c36e 14 = .ok (.aload_n 3, 1) := by decide +kernel
theorem dJ3_checkFromToIndex_8c36e_15 : decode cJ3_checkFromToIndex_8c36e 15 = .ok (.iload_n 0, 1) := by decide +kernel
theorem dJ3_checkFromToIndex_8c36e_16 : decode cJ3_checkFromToIndex_8c36e 16 = .ok (.iload_n 1, 1) := by decide +kernel
theorem dJ3_checkFromToIndex_8c36e_17 : decode cJ3_checkFromToIndex_8c36e 17 = .ok (.iload_n 2, 1) := by decide +kernel
theorem dJ3_checkFromToIndex_8c36e_18 : decode cJ3_checkFromToIndex_8c36e 18 = .ok (.invokestatic 99, 3) := by decide +kernel
theorem dJ3_checkFromToIndex_8c36e_21 : decode cJ3_checkFromToIndex_8c36e 21 = .ok (.athrow, 1) := by decide +kernel
theorem dJ3_checkFromToIndex_8c36e_22 : decode cJ3_checkFromToIndex_8c36e 22 = .ok (.iload_n 0, 1) := by decide +kernel
theorem dJ3_checkFromToIndex_8c36e_23 : decode cJ3_checkFromToIndex_8c36e 23 = .ok (.ireturn, 1) := by decide +kernel
theorem dJ3_checkFromIndexSize_8c36e_0 : decode cJ3_checkFromIndexSize_8c36e 0 = .ok (.iload_n 2, 1) := by decide +kernel
theorem dJ3_checkFromIndexSize_8c36e_1 : decode cJ3_checkFromIndexSize_8c36e 1 = .ok (.iload_n 0, 1) := by decide +kernel
theorem dJ3_checkFromIndexSize_8c36e_2 : decode cJ3_checkFromIndexSize_8c36e 2 = .ok (.ior, 1) := by decide +kernel
theorem dJ3_checkFromIndexSize_8c36e_3 : decode cJ3_checkFromIndexSize_8c36e 3 = .ok (.iload_n 1, 1) := by decide +kernel
theorem dJ3_checkFromIndexSize_8c36e_4 : decode cJ3_checkFromIndexSize_8c36e 4 = .ok (.ior, 1) := by decide +kernel
theorem dJ3_checkFromIndexSize_8c36e_5 : decode cJ3_checkFromIndexSize_8c36e 5 = .ok (.ifCond .lt 10, 3) := by decide +kernel
theorem dJ3_checkFromIndexSize_8c36e_8 : decode cJ3_checkFromIndexSize_8c36e 8 = .ok (.iload_n 1, 1) := by decide +kernel
theorem dJ3_checkFromIndexSize_8c36e_9 : decode cJ3_checkFromIndexSize_8c36e 9 = .ok (.iload_n 2, 1) := by decide +kernel
theorem dJ3_checkFromIndexSize_8c36e_10 : decode cJ3_checkFromIndexSize_8c36e 10 = .ok (.iload_n 0, 1) := by decide +kernel
theorem dJ3_checkFromIndexSize_8c36e_11 : decode cJ3_checkFromIndexSize_8c36e 11 = .ok (.isub, 1) := by decide +kernel
theorem dJ3_checkFromIndexSize_8c36e_12 : decode cJ3_checkFromIndexSize_8c36e 12 = .ok (.if_icmp .le 11, 3) := by decide +kernel
theorem dJ3_checkFromIndexSize_8c36e_15 : decode cJ3_checkFromIndexSize_8c36e 15 = .ok (.aload_n 3, 1) := by decide +kernel
theorem dJ3_checkFromIndexSize_8c36e_16 : decode cJ3_checkFromIndexSize_8c36e 16 = .ok (.iload_n 0, 1) := by decide +kernel
theorem dJ3_checkFromIndexSize_8c36e_17 : decode cJ3_checkFromIndexSize_8c36e 17 = .ok (.iload_n 1, 1) := by decide +kernel
theorem dJ3_checkFromIndexSize_8c36e_18 : decode cJ3_checkFromIndexSize_8c36e 18 = .ok (.iload_n 2, 1) := by decide +kernel
theorem dJ3_checkFromIndexSize_8c36e_19 : decode cJ3_checkFromIndexSize_8c36e 19 = .ok (.invokestatic 103, 3) := by decide +kernel
theorem dJ3_checkFromIndexSize_8c36e_22 : decode cJ3_checkFromIndexSize_8c36e 22 = .ok (.athrow, 1) := by decide +kernel
theorem dJ3_checkFromIndexSize_8c36e_23 : decode cJ3_checkFromIndexSize_8c36e 23 = .ok (.iload_n 0, 1) := by decide +kernel
theorem dJ3_checkFromIndexSize_8c36e_24 : decode cJ3_checkFromIndexSize_8c36e 24 = .ok (.ireturn, 1) := by decide +kernel
end
section
/-! decode rows -/
theorem dL_most_0 : decode cL_most 0 = .ok (.iload_n 0, 1) := by decide +kernel
theorem dL_most_1 : decode cL_most 1 = .ok (.ldc 7, 2) := by decide +kernel
theorem dL_most_3 : decode cL_most 3 = .ok (.iand, 1) := by decide +kernel
theorem dL_most_4 : decode cL_most 4 = .ok (.iload_n 1, 1) := by decide +kernel
theorem dL_most_5 : decode cL_most 5 = .ok (.irem, 1) := by decide +kernel
theorem dL_most_6 : decode cL_most 6 = .ok (.ireturn, 1) := by decide +kernel
theorem dL_cell_0 : decode cL_cell 0 = .ok (.iload_n 1, 1) := by decide +kernel
theorem dL_cell_1 : decode cL_cell 1 = .ok (.aload_n 0, 1) := by decide +kernel
theorem dL_cell_2 : decode cL_cell 2 = .ok (.arraylength, 1) := by decide +kernel
theorem dL_cell_3 : decode cL_cell 3 = .ok (.if_icmp .ge 9, 3) := by decide +kernel
theorem dL_cell_6 : decode cL_cell 6 = .ok (.aload_n 0, 1) := by decide +kernel
theorem dL_cell_7 : decode cL_cell 7 = .ok (.iload_n 1, 1) := by decide +kernel
theorem dL_cell_8 : decode cL_cell 8 = .ok (.iaload, 1) := by decide +kernel
theorem dL_cell_9 : decode cL_cell 9 = .ok (.goto 7, 3) := by decide +kernel
theorem dL_cell_12 : decode cL_cell 12 = .ok (.bipush 37, 2) := by decide +kernel
theorem dL_cell_14 : decode cL_cell 14 = .ok (.iload_n 1, 1) := by decide +kernel
theorem dL_cell_15 : decode cL_cell 15 = .ok (.imul, 1) := by decide +kernel
theorem dL_cell_16 : decode cL_cell 16 = .ok (.ireturn, 1) := by decide +kernel
theorem dL_add_0 : decode cL_add 0 = .ok (.aload_n 1, 1) := by decide +kernel
theorem dL_add_1 : decode cL_add 1 = .ok (.aload_n 1, 1) := by decide +kernel
theorem dL_add_2 : decode cL_add 2 = .ok (.iconst 5, 1) := by decide +kernel
theorem dL_add_3 : decode cL_add 3 = .ok (.iaload, 1) := by decide +kernel
theorem dL_add_4 : decode cL_add 4 = .ok (.bipush 20, 2) := by decide +kernel
theorem dL_add_6 : decode cL_add 6 = .ok (.irem, 1) := by decide +kernel
theorem dL_add_7 : decode cL_add 7 = .ok (.iconst 4, 1) := by decide +kernel
theorem dL_add_8 : decode cL_add 8 = .ok (.idiv, 1) := by decide +kernel
theorem dL_add_9 : decode cL_add 9 = .ok (.dup2, 1) := by decide +kernel
theorem dL_add_10 : decode cL_add 10 = .ok (.iaload, 1) := by decide +kernel
theorem dL_add_11 : decode cL_add 11 = .ok (.iload_n 2, 1) := by decide +kernel
theorem dL_add_12 : decode cL_add 12 = .ok (.bipush 24, 2) := by decide +kernel
theorem dL_add_14 : decode cL_add 14 = .ok (.bipush 8, 2) := by decide +kernel
theorem dL_add_16 : decode cL_add 16 = .ok (.aload_n 1, 1) := by decide +kernel
theorem dL_add_17 : decode cL_add 17 = .ok (.iconst 5, 1) := by decide +kernel
theorem dL_add_18 : decode cL_add 18 = .ok (.iaload, 1) := by decide +kernel
theorem dL_add_19 : decode cL_add 19 = .ok (.iconst 4, 1) := by decide +kernel
theorem dL_add_20 : decode cL_add 20 = .ok (.irem, 1) := by decide +kernel
theorem dL_add_21 : decode cL_add 21 = .ok (.imul, 1) := by decide +kernel
theorem dL_add_22 : decode cL_add 22 = .ok (.isub, 1) := by decide +kernel
theorem dL_add_23 : decode cL_add 23 = .ok (.ishl, 1) := by decide +kernel
theorem dL_add_24 : decode cL_add 24 = .ok (.ior, 1) := by decide +kernel
theorem dL_add_25 : decode cL_add 25 = .ok (.iastore, 1) := by decide +kernel
theorem dL_add_26 : decode cL_add 26 = .ok (.aload_n 1, 1) := by decide +kernel
theorem dL_add_27 : decode cL_add 27 = .ok (.iconst 5, 1) := by decide +kernel
theorem dL_add_28 : decode cL_add 28 = .ok (.dup2, 1) := by decide +kernel
theorem dL_add_29 : decode cL_add 29 = .ok (.iaload, 1) := by decide +kernel
theorem dL_add_30 : decode cL_add 30 = .ok (.iconst 1, 1) := by decide +kernel
theorem dL_add_31 : decode cL_add 31 = .ok (.iadd, 1) := by decide +kernel
theorem dL_add_32 : decode cL_add 32 = .ok (.iastore, 1) := by decide +kernel
theorem dL_add_33 : decode cL_add 33 = .ok (.aload_n 1, 1) := by decide +kernel
theorem dL_add_34 : decode cL_add 34 = .ok (.iconst 5, 1) := by decide +kernel
theorem dL_add_35 : decode cL_add 35 = .ok (.iaload, 1) := by decide +kernel
theorem dL_add_36 : decode cL_add 36 = .ok (.bipush 20, 2) := by decide +kernel
theorem dL_add_38 : decode cL_add 38 = .ok (.irem, 1) := by decide +kernel
theorem dL_add_39 : decode cL_add 39 = .ok (.ifCond .eq 4, 3) := by decide +kernel
theorem dL_add_42 : decode cL_add 42 = .ok (.return_, 1) := by decide +kernel
theorem dL_add_43 : decode cL_add 43 = .ok (.aload_n 0, 1) := by decide +kernel
theorem dL_add_44 : decode cL_add 44 = .ok (.aload_n 1, 1) := by decide +kernel
theorem dL_add_45 : decode cL_add 45 = .ok (.iconst 0, 1) := by decide +kernel
theorem dL_add_46 : decode cL_add 46 = .ok (.iaload, 1) := by decide +kernel
theorem dL_add_47 : decode cL_add 47 = .ok (.aload_n 1, 1) := by decide +kernel
theorem dL_add_48 : decode cL_add 48 = .ok (.iconst 1, 1) := by decide +kernel
theorem dL_add_49 : decode cL_add 49 = .ok (.iaload, 1) := by decide +kernel
theorem dL_add_50 : decode cL_add 50 = .ok (.aload_n 1, 1) := by decide +kernel
theorem dL_add_51 : decode cL_add 51 = .ok (.iconst 2, 1) := by decide +kernel
theorem dL_add_52 : decode cL_add 52 = .ok (.iaload, 1) := by decide +kernel
theorem dL_add_53 : decode cL_add 53 = .ok (.aload_n 1, 1) := by decide +kernel
theorem dL_add_54 : decode cL_add 54 = .ok (.iconst 3, 1) := by decide +kernel
theorem dL_add_55 : decode cL_add 55 = .ok (.iaload, 1) := by decide +kernel
theorem dL_add_56 : decode cL_add 56 = .ok (.aload_n 1, 1) := by decide +kernel
theorem dL_add_57 : decode cL_add 57 = .ok (.iconst 4, 1) := by decide +kernel
theorem dL_add_58 : decode cL_add 58 = .ok (.iaload, 1) := by decide +kernel
theorem dL_add_59 : decode cL_add 59 = .ok (.invokevirtual 8, 3) := by decide +kernel
theorem dL_add_62 : decode cL_add 62 = .ok (.pop, 1) := by decide +kernel
theorem dL_add_63 : decode cL_add 63 = .ok (.iconst 0, 1) := by decide +kernel
theorem dL_add_64 : decode cL_add 64 = .ok (.istore_n 3, 1) := by decide +kernel
theorem dL_add_65 : decode cL_add 65 = .ok (.iload_n 3, 1) := by decide +kernel
theorem dL_add_66 : decode cL_add 66 = .ok (.iconst 5, 1) := by decide +kernel
theorem dL_add_67 : decode cL_add 67 = .ok (.if_icmp .ge 13, 3) := by decide +kernel
theorem dL_add_70 : decode cL_add 70 = .ok (.aload_n 1, 1) := by decide +kernel
theorem dL_add_71 : decode cL_add 71 = .ok (.iload_n 3, 1) := by decide +kernel
theorem dL_add_72 : decode cL_add 72 = .ok (.iconst 0, 1) := by decide +kernel
theorem dL_add_73 : decode cL_add 73 = .ok (.iastore, 1) := by decide +kernel
theorem dL_add_74 : decode cL_add 74 = .ok (.iinc 3 1, 3) := by decide +kernel
theorem dL_add_77 : decode cL_add 77 = .ok (.goto (-12), 3) := by decide +kernel
theorem dL_add_80 : decode cL_add 80 = .ok (.return_, 1) := by decide +kernel
theorem dL_say_0 : decode cL_say 0 = .ok (.iconst 0, 1) := by decide +kernel
theorem dL_say_1 : decode cL_say 1 = .ok (.istore_n 3, 1) := by decide +kernel
theorem dL_say_2 : decode cL_say 2 = .ok (.iload_n 3, 1) := by decide +kernel
theorem dL_say_3 : decode cL_say 3 = .ok (.aload_n 2, 1) := by decide +kernel
theorem dL_say_4 : decode cL_say 4 = .ok (.invokevirtual 14, 3) := by decide +kernel
theorem dL_say_7 : decode cL_say 7 = .ok (.if_icmp .ge 19, 3) := by decide +kernel
theorem dL_say_10 : decode cL_say 10 = .ok (.aload_n 0, 1) := by decide +kernel
theorem dL_say_11 : decode cL_say 11 = .ok (.aload_n 1, 1) := by decide +kernel
theorem dL_say_12 : decode cL_say 12 = .ok (.aload_n 2, 1) := by decide +kernel
theorem dL_say_13 : decode cL_say 13 = .ok (.iload_n 3, 1) := by decide +kernel
theorem dL_say_14 : decode cL_say 14 = .ok (.invokevirtual 20, 3) := by decide +kernel
theorem dL_say_17 : decode cL_say 17 = .ok (.invokestatic 24, 3) := by decide +kernel
theorem dL_say_20 : decode cL_say 20 = .ok (.iinc 3 1, 3) := by decide +kernel
theorem dL_say_23 : decode cL_say 23 = .ok (.goto (-21), 3) := by decide +kernel
theorem dL_say_26 : decode cL_say 26 = .ok (.return_, 1) := by decide +kernel
theorem dL_end_0 : decode cL_end 0 = .ok (.aload_n 1, 1) := by decide +kernel
theorem dL_end_1 : decode cL_end 1 = .ok (.iconst 5, 1) := by decide +kernel
theorem dL_end_2 : decode cL_end 2 = .ok (.iaload, 1) := by decide +kernel
theorem dL_end_3 : decode cL_end 3 = .ok (.istore_n 2, 1) := by decide +kernel
theorem dL_end_4 : decode cL_end 4 = .ok (.aload_n 1, 1) := by decide +kernel
theorem dL_end_5 : decode cL_end 5 = .ok (.iconst 5, 1) := by decide +kernel
theorem dL_end_6 : decode cL_end 6 = .ok (.iaload, 1) := by decide +kernel
theorem dL_end_7 : decode cL_end 7 = .ok (.bipush 20, 2) := by decide +kernel
theorem dL_end_9 : decode cL_end 9 = .ok (.irem, 1) := by decide +kernel
theorem dL_end_10 : decode cL_end 10 = .ok (.ifCond .eq 13, 3) := by decide +kernel
theorem dL_end_13 : decode cL_end 13 = .ok (.aload_n 0, 1) := by decide +kernel
theorem dL_end_14 : decode cL_end 14 = .ok (.aload_n 1, 1) := by decide +kernel
theorem dL_end_15 : decode cL_end 15 = .ok (.bipush 32, 2) := by decide +kernel
theorem dL_end_17 : decode cL_end 17 = .ok (.invokestatic 24, 3) := by decide +kernel
theorem dL_end_20 : decode cL_end 20 = .ok (.goto (-16), 3) := by decide +kernel
theorem dL_end_23 : decode cL_end 23 = .ok (.aload_n 1, 1) := by decide +kernel
theorem dL_end_24 : decode cL_end 24 = .ok (.iconst 5, 1) := by decide +kernel
theorem dL_end_25 : decode cL_end 25 = .ok (.iconst 0, 1) := by decide +kernel
theorem dL_end_26 : decode cL_end 26 = .ok (.iastore, 1) := by decide +kernel
theorem dL_end_27 : decode cL_end 27 = .ok (.iload_n 2, 1) := by decide +kernel
theorem dL_end_28 : decode cL_end 28 = .ok (.ireturn, 1) := by decide +kernel
theorem dL_all_0 : decode cL_all 0 = .ok (.aload_n 0, 1) := by decide +kernel
theorem dL_all_1 : decode cL_all 1 = .ok (.invokevirtual 30, 3) := by decide +kernel
theorem dL_all_4 : decode cL_all 4 = .ok (.istore_n 1, 1) := by decide +kernel
theorem dL_all_5 : decode cL_all 5 = .ok (.aload_n 0, 1) := by decide +kernel
theorem dL_all_6 : decode cL_all 6 = .ok (.invokevirtual 33, 3) := by decide +kernel
theorem dL_all_9 : decode cL_all 9 = .ok (.istore_n 2, 1) := by decide +kernel
theorem dL_all_10 : decode cL_all 10 = .ok (.iconst 0, 1) := by decide +kernel
theorem dL_all_11 : decode cL_all 11 = .ok (.istore_n 3, 1) := by decide +kernel
theorem dL_all_12 : decode cL_all 12 = .ok (.iconst 0, 1) := by decide +kernel
theorem dL_all_13 : decode cL_all 13 = .ok (.istore 4, 2) := by decide +kernel
theorem dL_all_15 : decode cL_all 15 = .ok (.iload 4, 2) := by decide +kernel
theorem dL_all_17 : decode cL_all 17 = .ok (.iload_n 1, 1) := by decide +kernel
theorem dL_all_18 : decode cL_all 18 = .ok (.if_icmp .ge 18, 3) := by decide +kernel
theorem dL_all_21 : decode cL_all 21 = .ok (.iload_n 3, 1) := by decide +kernel
theorem dL_all_22 : decode cL_all 22 = .ok (.aload_n 0, 1) := by decide +kernel
theorem dL_all_23 : decode cL_all 23 = .ok (.iload 4, 2) := by decide +kernel
theorem dL_all_25 : decode cL_all 25 = .ok (.invokevirtual 36, 3) := by decide +kernel
theorem dL_all_28 : decode cL_all 28 = .ok (.iadd, 1) := by decide +kernel
theorem dL_all_29 : decode cL_all 29 = .ok (.istore_n 3, 1) := by decide +kernel
theorem dL_all_30 : decode cL_all 30 = .ok (.iinc 4 1, 3) := by decide +kernel
theorem dL_all_33 : decode cL_all 33 = .ok (.goto (-18), 3) := by decide +kernel
theorem dL_all_36 : decode cL_all 36 = .ok (.iconst 3, 1) := by decide +kernel
theorem dL_all_37 : decode cL_all 37 = .ok (.iload_n 1, 1) := by decide +kernel
theorem dL_all_38 : decode cL_all 38 = .ok (.iload_n 2, 1) := by decide +kernel
theorem dL_all_39 : decode cL_all 39 = .ok (.iconst 1, 1) := by decide +kernel
theorem dL_all_40 : decode cL_all 40 = .ok (.iadd, 1) := by decide +kernel
theorem dL_all_41 : decode cL_all 41 = .ok (.imul, 1) := by decide +kernel
theorem dL_all_42 : decode cL_all 42 = .ok (.iadd, 1) := by decide +kernel
theorem dL_all_43 : decode cL_all 43 = .ok (.iload_n 3, 1) := by decide +kernel
theorem dL_all_44 : decode cL_all 44 = .ok (.iadd, 1) := by decide +kernel
theorem dL_all_45 : decode cL_all 45 = .ok (.iconst 3, 1) := by decide +kernel
theorem dL_all_46 : decode cL_all 46 = .ok (.aload_n 0, 1) := by decide +kernel
theorem dL_all_47 : decode cL_all 47 = .ok (.invokevirtual 40, 3) := by decide +kernel
theorem dL_all_50 : decode cL_all 50 = .ok (.imul, 1) := by decide +kernel
theorem dL_all_51 : decode cL_all 51 = .ok (.iadd, 1) := by decide +kernel
theorem dL_all_52 : decode cL_all 52 = .ok (.newarray .int, 2) := by decide +kernel
theorem dL_all_54 : decode cL_all 54 = .ok (.astore 4, 2) := by decide +kernel
theorem dL_all_56 : decode cL_all 56 = .ok (.iconst 0, 1) := by decide +kernel
theorem dL_all_57 : decode cL_all 57 = .ok (.istore 5, 2) := by decide +kernel
theorem dL_all_59 : decode cL_all 59 = .ok (.aload 4, 2) := by decide +kernel
theorem dL_all_61 : decode cL_all 61 = .ok (.iload 5, 2) := by decide +kernel
theorem dL_all_63 : decode cL_all 63 = .ok (.iinc 5 1, 3) := by decide +kernel
theorem dL_all_66 : decode cL_all 66 = .ok (.iload_n 1, 1) := by decide +kernel
theorem dL_all_67 : decode cL_all 67 = .ok (.iastore, 1) := by decide +kernel
theorem dL_all_68 : decode cL_all 68 = .ok (.aload 4, 2) := by decide +kernel
theorem dL_all_70 : decode cL_all 70 = .ok (.iload 5, 2) := by decide +kernel
theorem dL_all_72 : decode cL_all 72 = .ok (.iinc 5 1, 3) := by decide +kernel
theorem dL_all_75 : decode cL_all 75 = .ok (.iload_n 2, 1) := by decide +kernel
theorem dL_all_76 : decode cL_all 76 = .ok (.iastore, 1) := by decide +kernel
theorem dL_all_77 : decode cL_all 77 = .ok (.aload 4, 2) := by decide +kernel
theorem dL_all_79 : decode cL_all 79 = .ok (.iload 5, 2) := by decide +kernel
theorem dL_all_81 : decode cL_all 81 = .ok (.iinc 5 1, 3) := by decide +kernel
theorem dL_all_84 : decode cL_all 84 = .ok (.aload_n 0, 1) := by decide +kernel
theorem dL_all_85 : decode cL_all 85 = .ok (.invokevirtual 40, 3) := by decide +kernel
theorem dL_all_88 : decode cL_all 88 = .ok (.iastore, 1) := by decide +kernel
theorem dL_all_89 : decode cL_all 89 = .ok (.iconst 0, 1) := by decide +kernel
theorem dL_all_90 : decode cL_all 90 = .ok (.istore 6, 2) := by decide +kernel
theorem dL_all_92 : decode cL_all 92 = .ok (.iload 6, 2) := by decide +kernel
theorem dL_all_94 : decode cL_all 94 = .ok (.iload_n 1, 1) := by decide +kernel
theorem dL_all_95 : decode cL_all 95 = .ok (.if_icmp .ge 90, 3) := by decide +kernel
theorem dL_all_98 : decode cL_all 98 = .ok (.aload 4, 2) := by decide +kernel
theorem dL_all_100 : decode cL_all 100 = .ok (.iload 5, 2) := by decide +kernel
theorem dL_all_102 : decode cL_all 102 = .ok (.iinc 5 1, 3) := by decide +kernel
theorem dL_all_105 : decode cL_all 105 = .ok (.aload_n 0, 1) := by decide +kernel
theorem dL_all_106 : decode cL_all 106 = .ok (.iload 6, 2) := by decide +kernel
theorem dL_all_108 : decode cL_all 108 = .ok (.invokevirtual 36, 3) := by decide +kernel
theorem dL_all_111 : decode cL_all 111 = .ok (.iastore, 1) := by decide +kernel
theorem dL_all_112 : decode cL_all 112 = .ok (.iconst 0, 1) := by decide +kernel
theorem dL_all_113 : decode cL_all 113 = .ok (.istore 7, 2) := by decide +kernel
theorem dL_all_115 : decode cL_all 115 = .ok (.iload 7, 2) := by decide +kernel
theorem dL_all_117 : decode cL_all 117 = .ok (.iload_n 2, 1) := by decide +kernel
theorem dL_all_118 : decode cL_all 118 = .ok (.if_icmp .ge 25, 3) := by decide +kernel
theorem dL_all_121 : decode cL_all 121 = .ok (.aload 4, 2) := by decide +kernel
theorem dL_all_123 : decode cL_all 123 = .ok (.iload 5, 2) := by decide +kernel
theorem dL_all_125 : decode cL_all 125 = .ok (.iinc 5 1, 3) := by decide +kernel
theorem dL_all_128 : decode cL_all 128 = .ok (.aload_n 0, 1) := by decide +kernel
theorem dL_all_129 : decode cL_all 129 = .ok (.iload 6, 2) := by decide +kernel
theorem dL_all_131 : decode cL_all 131 = .ok (.iload 7, 2) := by decide +kernel
theorem dL_all_133 : decode cL_all 133 = .ok (.invokevirtual 43, 3) := by decide +kernel
theorem dL_all_136 : decode cL_all 136 = .ok (.iastore, 1) := by decide +kernel
theorem dL_all_137 : decode cL_all 137 = .ok (.iinc 7 1, 3) := by decide +kernel
theorem dL_all_140 : decode cL_all 140 = .ok (.goto (-25), 3) := by decide +kernel
theorem dL_all_143 : decode cL_all 143 = .ok (.iconst 0, 1) := by decide +kernel
theorem dL_all_144 : decode cL_all 144 = .ok (.istore 7, 2) := by decide +kernel
theorem dL_all_146 : decode cL_all 146 = .ok (.iload 7, 2) := by decide +kernel
theorem dL_all_148 : decode cL_all 148 = .ok (.aload_n 0, 1) := by decide +kernel
theorem dL_all_149 : decode cL_all 149 = .ok (.iload 6, 2) := by decide +kernel
theorem dL_all_151 : decode cL_all 151 = .ok (.invokevirtual 36, 3) := by decide +kernel
theorem dL_all_154 : decode cL_all 154 = .ok (.if_icmp .ge 25, 3) := by decide +kernel
theorem dL_all_157 : decode cL_all 157 = .ok (.aload 4, 2) := by decide +kernel
theorem dL_all_159 : decode cL_all 159 = .ok (.iload 5, 2) := by decide +kernel
theorem dL_all_161 : decode cL_all 161 = .ok (.iinc 5 1, 3) := by decide +kernel
theorem dL_all_164 : decode cL_all 164 = .ok (.aload_n 0, 1) := by decide +kernel
theorem dL_all_165 : decode cL_all 165 = .ok (.iload 6, 2) := by decide +kernel
theorem dL_all_167 : decode cL_all 167 = .ok (.iload 7, 2) := by decide +kernel
theorem dL_all_169 : decode cL_all 169 = .ok (.invokevirtual 47, 3) := by decide +kernel
theorem dL_all_172 : decode cL_all 172 = .ok (.iastore, 1) := by decide +kernel
theorem dL_all_173 : decode cL_all 173 = .ok (.iinc 7 1, 3) := by decide +kernel
theorem dL_all_176 : decode cL_all 176 = .ok (.goto (-30), 3) := by decide +kernel
theorem dL_all_179 : decode cL_all 179 = .ok (.iinc 6 1, 3) := by decide +kernel
theorem dL_all_182 : decode cL_all 182 = .ok (.goto (-90), 3) := by decide +kernel
theorem dL_all_185 : decode cL_all 185 = .ok (.iconst 0, 1) := by decide +kernel
theorem dL_all_186 : decode cL_all 186 = .ok (.istore 6, 2) := by decide +kernel
theorem dL_all_188 : decode cL_all 188 = .ok (.iload 6, 2) := by decide +kernel
theorem dL_all_190 : decode cL_all 190 = .ok (.aload_n 0, 1) := by decide +kernel
theorem dL_all_191 : decode cL_all 191 = .ok (.invokevirtual 40, 3) := by decide +kernel
theorem dL_all_194 : decode cL_all 194 = .ok (.if_icmp .ge 51, 3) := by decide +kernel
theorem dL_all_197 : decode cL_all 197 = .ok (.aload 4, 2) := by decide +kernel
theorem dL_all_199 : decode cL_all 199 = .ok (.iload 5, 2) := by decide +kernel
theorem dL_all_201 : decode cL_all 201 = .ok (.iinc 5 1, 3) := by decide +kernel
theorem dL_all_204 : decode cL_all 204 = .ok (.aload_n 0, 1) := by decide +kernel
theorem dL_all_205 : decode cL_all 205 = .ok (.iload 6, 2) := by decide +kernel
theorem dL_all_207 : decode cL_all 207 = .ok (.invokevirtual 50, 3) := by decide +kernel
theorem dL_all_210 : decode cL_all 210 = .ok (.iastore, 1) := by decide +kernel
theorem dL_all_211 : decode cL_all 211 = .ok (.aload 4, 2) := by decide +kernel
theorem dL_all_213 : decode cL_all 213 = .ok (.iload 5, 2) := by decide +kernel
theorem dL_all_215 : decode cL_all 215 = .ok (.iinc 5 1, 3) := by decide +kernel
theorem dL_all_218 : decode cL_all 218 = .ok (.aload_n 0, 1) := by decide +kernel
theorem dL_all_219 : decode cL_all 219 = .ok (.iload 6, 2) := by decide +kernel
theorem dL_all_221 : decode cL_all 221 = .ok (.invokevirtual 53, 3) := by decide +kernel
theorem dL_all_224 : decode cL_all 224 = .ok (.iastore, 1) := by decide +kernel
theorem dL_all_225 : decode cL_all 225 = .ok (.aload 4, 2) := by decide +kernel
theorem dL_all_227 : decode cL_all 227 = .ok (.iload 5, 2) := by decide +kernel
theorem dL_all_229 : decode cL_all 229 = .ok (.iinc 5 1, 3) := by decide +kernel
theorem dL_all_232 : decode cL_all 232 = .ok (.aload_n 0, 1) := by decide +kernel
theorem dL_all_233 : decode cL_all 233 = .ok (.iload 6, 2) := by decide +kernel
theorem dL_all_235 : decode cL_all 235 = .ok (.invokevirtual 56, 3) := by decide +kernel
theorem dL_all_238 : decode cL_all 238 = .ok (.iastore, 1) := by decide +kernel
theorem dL_all_239 : decode cL_all 239 = .ok (.iinc 6 1, 3) := by decide +kernel
theorem dL_all_242 : decode cL_all 242 = .ok (.goto (-54), 3) := by decide +kernel
theorem dL_all_245 : decode cL_all 245 = .ok (.aload 4, 2) := by decide +kernel
theorem dL_all_247 : decode cL_all 247 = .ok (.areturn, 1) := by decide +kernel
theorem dL_alike_0 : decode cL_alike 0 = .ok (.aload_n 0, 1) := by decide +kernel
theorem dL_alike_1 : decode cL_alike 1 = .ok (.arraylength, 1) := by decide +kernel
theorem dL_alike_2 : decode cL_alike 2 = .ok (.aload_n 1, 1) := by decide +kernel
theorem dL_alike_3 : decode cL_alike 3 = .ok (.arraylength, 1) := by decide +kernel
theorem dL_alike_4 : decode cL_alike 4 = .ok (.if_icmp .eq 5, 3) := by decide +kernel
theorem dL_alike_7 : decode cL_alike 7 = .ok (.iconst 0, 1) := by decide +kernel
theorem dL_alike_8 : decode cL_alike 8 = .ok (.ireturn, 1) := by decide +kernel
theorem dL_alike_9 : decode cL_alike 9 = .ok (.iconst 0, 1) := by decide +kernel
theorem dL_alike_10 : decode cL_alike 10 = .ok (.istore_n 2, 1) := by decide +kernel
theorem dL_alike_11 : decode cL_alike 11 = .ok (.iload_n 2, 1) := by decide +kernel
theorem dL_alike_12 : decode cL_alike 12 = .ok (.aload_n 0, 1) := by decide +kernel
theorem dL_alike_13 : decode cL_alike 13 = .ok (.arraylength, 1) := by decide +kernel
theorem dL_alike_14 : decode cL_alike 14 = .ok (.if_icmp .ge 20, 3) := by decide +kernel
theorem dL_alike_17 : decode cL_alike 17 = .ok (.aload_n 0, 1) := by decide +kernel
theorem dL_alike_18 : decode cL_alike 18 = .ok (.iload_n 2, 1) := by decide +kernel
theorem dL_alike_19 : decode cL_alike 19 = .ok (.iaload, 1) := by decide +kernel
theorem dL_alike_20 : decode cL_alike 20 = .ok (.aload_n 1, 1) := by decide +kernel
theorem dL_alike_21 : decode cL_alike 21 = .ok (.iload_n 2, 1) := by decide +kernel
theorem dL_alike_22 : decode cL_alike 22 = .ok (.iaload, 1) := by decide +kernel
theorem dL_alike_23 : decode cL_alike 23 = .ok (.if_icmp .eq 5, 3) := by decide +kernel
theorem dL_alike_26 : decode cL_alike 26 = .ok (.iconst 0, 1) := by decide +kernel
theorem dL_alike_27 : decode cL_alike 27 = .ok (.ireturn, 1) := by decide +kernel
theorem dL_alike_28 : decode cL_alike 28 = .ok (.iinc 2 1, 3) := by decide +kernel
theorem dL_alike_31 : decode cL_alike 31 = .ok (.goto (-20), 3) := by decide +kernel
theorem dL_alike_34 : decode cL_alike 34 = .ok (.iconst 1, 1) := by decide +kernel
theorem dL_alike_35 : decode cL_alike 35 = .ok (.ireturn, 1) := by decide +kernel
theorem dL_areColumns_0 : decode cL_areColumns 0 = .ok (.aload_n 0, 1) := by decide +kernel
theorem dL_areColumns_1 : decode cL_areColumns 1 = .ok (.invokevirtual 33, 3) := by decide +kernel
theorem dL_areColumns_4 : decode cL_areColumns 4 = .ok (.istore_n 1, 1) := by decide +kernel
theorem dL_areColumns_5 : decode cL_areColumns 5 = .ok (.iconst 0, 1) := by decide +kernel
theorem dL_areColumns_6 : decode cL_areColumns 6 = .ok (.istore_n 2, 1) := by decide +kernel
theorem dL_areColumns_7 : decode cL_areColumns 7 = .ok (.iconst 0, 1) := by decide +kernel
theorem dL_areColumns_8 : decode cL_areColumns 8 = .ok (.istore_n 3, 1) := by decide +kernel
theorem dL_areColumns_9 : decode cL_areColumns 9 = .ok (.iload_n 3, 1) := by decide +kernel
theorem dL_areColumns_10 : decode cL_areColumns 10 = .ok (.aload_n 0, 1) := by decide +kernel
theorem dL_areColumns_11 : decode cL_areColumns 11 = .ok (.invokevirtual 30, 3) := by decide +kernel
theorem dL_areColumns_14 : decode cL_areColumns 14 = .ok (.if_icmp .ge 374, 3) := by decide +kernel
theorem dL_areColumns_17 : decode cL_areColumns 17 = .ok (.aload_n 0, 1) := by decide +kernel
theorem dL_areColumns_18 : decode cL_areColumns 18 = .ok (.iload_n 3, 1) := by decide +kernel
theorem dL_areColumns_19 : decode cL_areColumns 19 = .ok (.invokevirtual 36, 3) := by decide +kernel
theorem dL_areColumns_22 : decode cL_areColumns 22 = .ok (.istore 4, 2) := by decide +kernel
theorem dL_areColumns_24 : decode cL_areColumns 24 = .ok (.aload_n 0, 1) := by decide +kernel
theorem dL_areColumns_25 : decode cL_areColumns 25 = .ok (.iload_n 3, 1) := by decide +kernel
theorem dL_areColumns_26 : decode cL_areColumns 26 = .ok (.invokevirtual 59, 3) := by decide +kernel
theorem dL_areColumns_29 : decode cL_areColumns 29 = .ok (.istore 5, 2) := by decide +kernel
theorem dL_areColumns_31 : decode cL_areColumns 31 = .ok (.iload_n 2, 1) := by decide +kernel
theorem dL_areColumns_32 : decode cL_areColumns 32 = .ok (.iload 5, 2) := by decide +kernel
theorem dL_areColumns_34 : decode cL_areColumns 34 = .ok (.iload_n 1, 1) := by decide +kernel
theorem dL_areColumns_35 : decode cL_areColumns 35 = .ok (.imul, 1) := by decide +kernel
theorem dL_areColumns_36 : decode cL_areColumns 36 = .ok (.iadd, 1) := by decide +kernel
theorem dL_areColumns_37 : decode cL_areColumns 37 = .ok (.istore_n 2, 1) := by decide +kernel
theorem dL_areColumns_38 : decode cL_areColumns 38 = .ok (.iconst 0, 1) := by decide +kernel
theorem dL_areColumns_39 : decode cL_areColumns 39 = .ok (.istore 6, 2) := by decide +kernel
theorem dL_areColumns_41 : decode cL_areColumns 41 = .ok (.iconst 0, 1) := by decide +kernel
theorem dL_areColumns_42 : decode cL_areColumns 42 = .ok (.istore 7, 2) := by decide +kernel
theorem dL_areColumns_44 : decode cL_areColumns 44 = .ok (.iconst 0, 1) := by decide +kernel
theorem dL_areColumns_45 : decode cL_areColumns 45 = .ok (.istore 8, 2) := by decide +kernel
theorem dL_areColumns_47 : decode cL_areColumns 47 = .ok (.iload 8, 2) := by decide +kernel
theorem dL_areColumns_49 : decode cL_areColumns 49 = .ok (.iload 4, 2) := by decide +kernel
theorem dL_areColumns_51 : decode cL_areColumns 51 = .ok (.if_icmp .ge 84, 3) := by decide +kernel
theorem dL_areColumns_54 : decode cL_areColumns 54 = .ok (.iload 6, 2) := by decide +kernel
theorem dL_areColumns_56 : decode cL_areColumns 56 = .ok (.aload_n 0, 1) := by decide +kernel
theorem dL_areColumns_57 : decode cL_areColumns 57 = .ok (.iload_n 3, 1) := by decide +kernel
theorem dL_areColumns_58 : decode cL_areColumns 58 = .ok (.iload 8, 2) := by decide +kernel
theorem dL_areColumns_60 : decode cL_areColumns 60 = .ok (.invokevirtual 62, 3) := by decide +kernel
theorem dL_areColumns_63 : decode cL_areColumns 63 = .ok (.iadd, 1) := by decide +kernel
theorem dL_areColumns_64 : decode cL_areColumns 64 = .ok (.istore 6, 2) := by decide +kernel
theorem dL_areColumns_66 : decode cL_areColumns 66 = .ok (.iload 7, 2) := by decide +kernel
theorem dL_areColumns_68 : decode cL_areColumns 68 = .ok (.aload_n 0, 1) := by decide +kernel
theorem dL_areColumns_69 : decode cL_areColumns 69 = .ok (.iload_n 3, 1) := by decide +kernel
theorem dL_areColumns_70 : decode cL_areColumns 70 = .ok (.iload 8, 2) := by decide +kernel
theorem dL_areColumns_72 : decode cL_areColumns 72 = .ok (.invokevirtual 62, 3) := by decide +kernel
theorem dL_areColumns_75 : decode cL_areColumns 75 = .ok (.ifCond .ne 7, 3) := by decide +kernel
theorem dL_areColumns_78 : decode cL_areColumns 78 = .ok (.iconst 1, 1) := by decide +kernel
theorem dL_areColumns_79 : decode cL_areColumns 79 = .ok (.goto 4, 3) := by decide +kernel
theorem dL_areColumns_82 : decode cL_areColumns 82 = .ok (.iconst 0, 1) := by decide +kernel
theorem dL_areColumns_83 : decode cL_areColumns 83 = .ok (.iadd, 1) := by decide +kernel
theorem dL_areColumns_84 : decode cL_areColumns 84 = .ok (.istore 7, 2) := by decide +kernel
theorem dL_areColumns_86 : decode cL_areColumns 86 = .ok (.iload 8, 2) := by decide +kernel
theorem dL_areColumns_88 : decode cL_areColumns 88 = .ok (.ifCond .le 22, 3) := by decide +kernel
theorem dL_areColumns_91 : decode cL_areColumns 91 = .ok (.aload_n 0, 1) := by decide +kernel
theorem dL_areColumns_92 : decode cL_areColumns 92 = .ok (.iload_n 3, 1) := by decide +kernel
theorem dL_areColumns_93 : decode cL_areColumns 93 = .ok (.iload 8, 2) := by decide +kernel
theorem dL_areColumns_95 : decode cL_areColumns 95 = .ok (.iconst 1, 1) := by decide +kernel
theorem dL_areColumns_96 : decode cL_areColumns 96 = .ok (.isub, 1) := by decide +kernel
theorem dL_areColumns_97 : decode cL_areColumns 97 = .ok (.invokevirtual 47, 3) := by decide +kernel
theorem dL_areColumns_100 : decode cL_areColumns 100 = .ok (.aload_n 0, 1) := by decide +kernel
theorem dL_areColumns_101 : decode cL_areColumns 101 = .ok (.iload_n 3, 1) := by decide +kernel
theorem dL_areColumns_102 : decode cL_areColumns 102 = .ok (.iload 8, 2) := by decide +kernel
theorem dL_areColumns_104 : decode cL_areColumns 104 = .ok (.invokevirtual 47, 3) := by decide +kernel
theorem dL_areColumns_107 : decode cL_areColumns 107 = .ok (.if_icmp .ge 20, 3) := by decide +kernel
theorem dL_areColumns_110 : decode cL_areColumns 110 = .ok (.aload_n 0, 1) := by decide +kernel
theorem dL_areColumns_111 : decode cL_areColumns 111 = .ok (.iload_n 3, 1) := by decide +kernel
theorem dL_areColumns_112 : decode cL_areColumns 112 = .ok (.aload_n 0, 1) := by decide +kernel
theorem dL_areColumns_113 : decode cL_areColumns 113 = .ok (.iload_n 3, 1) := by decide +kernel
theorem dL_areColumns_114 : decode cL_areColumns 114 = .ok (.iload 8, 2) := by decide +kernel
theorem dL_areColumns_116 : decode cL_areColumns 116 = .ok (.invokevirtual 47, 3) := by decide +kernel
theorem dL_areColumns_119 : decode cL_areColumns 119 = .ok (.invokevirtual 65, 3) := by decide +kernel
theorem dL_areColumns_122 : decode cL_areColumns 122 = .ok (.iload 8, 2) := by decide +kernel
theorem dL_areColumns_124 : decode cL_areColumns 124 = .ok (.if_icmp .eq 5, 3) := by decide +kernel
theorem dL_areColumns_127 : decode cL_areColumns 127 = .ok (.iconst 0, 1) := by decide +kernel
theorem dL_areColumns_128 : decode cL_areColumns 128 = .ok (.ireturn, 1) := by decide +kernel
theorem dL_areColumns_129 : decode cL_areColumns 129 = .ok (.iinc 8 1, 3) := by decide +kernel
theorem dL_areColumns_132 : decode cL_areColumns 132 = .ok (.goto (-85), 3) := by decide +kernel
theorem dL_areColumns_135 : decode cL_areColumns 135 = .ok (.iconst 0, 1) := by decide +kernel
theorem dL_areColumns_136 : decode cL_areColumns 136 = .ok (.istore 8, 2) := by decide +kernel
theorem dL_areColumns_138 : decode cL_areColumns 138 = .ok (.iload 8, 2) := by decide +kernel
theorem dL_areColumns_140 : decode cL_areColumns 140 = .ok (.iload_n 1, 1) := by decide +kernel
theorem dL_areColumns_141 : decode cL_areColumns 141 = .ok (.if_icmp .ge 98, 3) := by decide +kernel
theorem dL_areColumns_144 : decode cL_areColumns 144 = .ok (.iconst 0, 1) := by decide +kernel
theorem dL_areColumns_145 : decode cL_areColumns 145 = .ok (.istore 9, 2) := by decide +kernel
theorem dL_areColumns_147 : decode cL_areColumns 147 = .ok (.iconst 0, 1) := by decide +kernel
theorem dL_areColumns_148 : decode cL_areColumns 148 = .ok (.istore 10, 2) := by decide +kernel
theorem dL_areColumns_150 : decode cL_areColumns 150 = .ok (.iload 10, 2) := by decide +kernel
theorem dL_areColumns_152 : decode cL_areColumns 152 = .ok (.iload 5, 2) := by decide +kernel
theorem dL_areColumns_154 : decode cL_areColumns 154 = .ok (.if_icmp .ge 48, 3) := by decide +kernel
theorem dL_areColumns_157 : decode cL_areColumns 157 = .ok (.iload 9, 2) := by decide +kernel
theorem dL_areColumns_159 : decode cL_areColumns 159 = .ok (.aload_n 0, 1) := by decide +kernel
theorem dL_areColumns_160 : decode cL_areColumns 160 = .ok (.iload_n 3, 1) := by decide +kernel
theorem dL_areColumns_161 : decode cL_areColumns 161 = .ok (.iload 8, 2) := by decide +kernel
theorem dL_areColumns_163 : decode cL_areColumns 163 = .ok (.iload 5, 2) := by decide +kernel
theorem dL_areColumns_165 : decode cL_areColumns 165 = .ok (.imul, 1) := by decide +kernel
theorem dL_areColumns_166 : decode cL_areColumns 166 = .ok (.iload 10, 2) := by decide +kernel
theorem dL_areColumns_168 : decode cL_areColumns 168 = .ok (.iadd, 1) := by decide +kernel
theorem dL_areColumns_169 : decode cL_areColumns 169 = .ok (.bipush 64, 2) := by decide +kernel
theorem dL_areColumns_171 : decode cL_areColumns 171 = .ok (.idiv, 1) := by decide +kernel
theorem dL_areColumns_172 : decode cL_areColumns 172 = .ok (.invokevirtual 68, 3) := by decide +kernel
theorem dL_areColumns_175 : decode cL_areColumns 175 = .ok (.iload 8, 2) := by decide +kernel
theorem dL_areColumns_177 : decode cL_areColumns 177 = .ok (.iload 5, 2) := by decide +kernel
theorem dL_areColumns_179 : decode cL_areColumns 179 = .ok (.imul, 1) := by decide +kernel
theorem dL_areColumns_180 : decode cL_areColumns 180 = .ok (.iload 10, 2) := by decide +kernel
theorem dL_areColumns_182 : decode cL_areColumns 182 = .ok (.iadd, 1) := by decide +kernel
theorem dL_areColumns_183 : decode cL_areColumns 183 = .ok (.bipush 64, 2) := by decide +kernel
theorem dL_areColumns_185 : decode cL_areColumns 185 = .ok (.irem, 1) := by decide +kernel
theorem dL_areColumns_186 : decode cL_areColumns 186 = .ok (.lushr, 1) := by decide +kernel
theorem dL_areColumns_187 : decode cL_areColumns 187 = .ok (.lconst 1, 1) := by decide +kernel
theorem dL_areColumns_188 : decode cL_areColumns 188 = .ok (.land, 1) := by decide +kernel
theorem dL_areColumns_189 : decode cL_areColumns 189 = .ok (.l2i, 1) := by decide +kernel
theorem dL_areColumns_190 : decode cL_areColumns 190 = .ok (.iload 10, 2) := by decide +kernel
theorem dL_areColumns_192 : decode cL_areColumns 192 = .ok (.ishl, 1) := by decide +kernel
theorem dL_areColumns_193 : decode cL_areColumns 193 = .ok (.ior, 1) := by decide +kernel
theorem dL_areColumns_194 : decode cL_areColumns 194 = .ok (.istore 9, 2) := by decide +kernel
theorem dL_areColumns_196 : decode cL_areColumns 196 = .ok (.iinc 10 1, 3) := by decide +kernel
theorem dL_areColumns_199 : decode cL_areColumns 199 = .ok (.goto (-49), 3) := by decide +kernel
theorem dL_areColumns_202 : decode cL_areColumns 202 = .ok (.iload 9, 2) := by decide +kernel
theorem dL_areColumns_204 : decode cL_areColumns 204 = .ok (.aload_n 0, 1) := by decide +kernel
theorem dL_areColumns_205 : decode cL_areColumns 205 = .ok (.iload_n 3, 1) := by decide +kernel
theorem dL_areColumns_206 : decode cL_areColumns 206 = .ok (.iload 8, 2) := by decide +kernel
theorem dL_areColumns_208 : decode cL_areColumns 208 = .ok (.invokevirtual 72, 3) := by decide +kernel
theorem dL_areColumns_211 : decode cL_areColumns 211 = .ok (.if_icmp .ne 20, 3) := by decide +kernel
theorem dL_areColumns_214 : decode cL_areColumns 214 = .ok (.aload_n 0, 1) := by decide +kernel
theorem dL_areColumns_215 : decode cL_areColumns 215 = .ok (.iload_n 3, 1) := by decide +kernel
theorem dL_areColumns_216 : decode cL_areColumns 216 = .ok (.iload 9, 2) := by decide +kernel
theorem dL_areColumns_218 : decode cL_areColumns 218 = .ok (.invokevirtual 47, 3) := by decide +kernel
theorem dL_areColumns_221 : decode cL_areColumns 221 = .ok (.aload_n 0, 1) := by decide +kernel
theorem dL_areColumns_222 : decode cL_areColumns 222 = .ok (.iload_n 3, 1) := by decide +kernel
theorem dL_areColumns_223 : decode cL_areColumns 223 = .ok (.iload 8, 2) := by decide +kernel
theorem dL_areColumns_225 : decode cL_areColumns 225 = .ok (.invokevirtual 43, 3) := by decide +kernel
theorem dL_areColumns_228 : decode cL_areColumns 228 = .ok (.if_icmp .eq 5, 3) := by decide +kernel
theorem dL_areColumns_231 : decode cL_areColumns 231 = .ok (.iconst 0, 1) := by decide +kernel
theorem dL_areColumns_232 : decode cL_areColumns 232 = .ok (.ireturn, 1) := by decide +kernel
theorem dL_areColumns_233 : decode cL_areColumns 233 = .ok (.iinc 8 1, 3) := by decide +kernel
theorem dL_areColumns_236 : decode cL_areColumns 236 = .ok (.goto (-98), 3) := by decide +kernel
theorem dL_areColumns_239 : decode cL_areColumns 239 = .ok (.iload 6, 2) := by decide +kernel
theorem dL_areColumns_241 : decode cL_areColumns 241 = .ok (.iload_n 1, 1) := by decide +kernel
theorem dL_areColumns_242 : decode cL_areColumns 242 = .ok (.if_icmp .ne 138, 3) := by decide +kernel
theorem dL_areColumns_245 : decode cL_areColumns 245 = .ok (.iload 7, 2) := by decide +kernel
theorem dL_areColumns_247 : decode cL_areColumns 247 = .ok (.aload_n 0, 1) := by decide +kernel
theorem dL_areColumns_248 : decode cL_areColumns 248 = .ok (.iload_n 3, 1) := by decide +kernel
theorem dL_areColumns_249 : decode cL_areColumns 249 = .ok (.invokevirtual 75, 3) := by decide +kernel
theorem dL_areColumns_252 : decode cL_areColumns 252 = .ok (.if_icmp .ne 128, 3) := by decide +kernel
theorem dL_areColumns_255 : decode cL_areColumns 255 = .ok (.iconst 1, 1) := by decide +kernel
theorem dL_areColumns_256 : decode cL_areColumns 256 = .ok (.iload 5, 2) := by decide +kernel
theorem dL_areColumns_258 : decode cL_areColumns 258 = .ok (.ishl, 1) := by decide +kernel
theorem dL_areColumns_259 : decode cL_areColumns 259 = .ok (.iload 4, 2) := by decide +kernel
theorem dL_areColumns_261 : decode cL_areColumns 261 = .ok (.if_icmp .lt 119, 3) := by decide +kernel
theorem dL_areColumns_264 : decode cL_areColumns 264 = .ok (.iload 5, 2) := by decide +kernel
theorem dL_areColumns_266 : decode cL_areColumns 266 = .ok (.ifCond .le 14, 3) := by decide +kernel
theorem dL_areColumns_269 : decode cL_areColumns 269 = .ok (.iconst 1, 1) := by decide +kernel
theorem dL_areColumns_270 : decode cL_areColumns 270 = .ok (.iload 5, 2) := by decide +kernel
theorem dL_areColumns_272 : decode cL_areColumns 272 = .ok (.iconst 1, 1) := by decide +kernel
theorem dL_areColumns_273 : decode cL_areColumns 273 = .ok (.isub, 1) := by decide +kernel
theorem dL_areColumns_274 : decode cL_areColumns 274 = .ok (.ishl, 1) := by decide +kernel
theorem dL_areColumns_275 : decode cL_areColumns 275 = .ok (.iload 4, 2) := by decide +kernel
theorem dL_areColumns_277 : decode cL_areColumns 277 = .ok (.if_icmp .ge 103, 3) := by decide +kernel
theorem dL_areColumns_280 : decode cL_areColumns 280 = .ok (.aload_n 0, 1) := by decide +kernel
theorem dL_areColumns_281 : decode cL_areColumns 281 = .ok (.iload_n 3, 1) := by decide +kernel
theorem dL_areColumns_282 : decode cL_areColumns 282 = .ok (.invokevirtual 78, 3) := by decide +kernel
theorem dL_areColumns_285 : decode cL_areColumns 285 = .ok (.iload_n 1, 1) := by decide +kernel
theorem dL_areColumns_286 : decode cL_areColumns 286 = .ok (.iload 5, 2) := by decide +kernel
theorem dL_areColumns_288 : decode cL_areColumns 288 = .ok (.imul, 1) := by decide +kernel
theorem dL_areColumns_289 : decode cL_areColumns 289 = .ok (.bipush 63, 2) := by decide +kernel
theorem dL_areColumns_291 : decode cL_areColumns 291 = .ok (.iadd, 1) := by decide +kernel
theorem dL_areColumns_292 : decode cL_areColumns 292 = .ok (.bipush 64, 2) := by decide +kernel
theorem dL_areColumns_294 : decode cL_areColumns 294 = .ok (.idiv, 1) := by decide +kernel
theorem dL_areColumns_295 : decode cL_areColumns 295 = .ok (.if_icmp .ne 85, 3) := by decide +kernel
theorem dL_areColumns_298 : decode cL_areColumns 298 = .ok (.aload_n 0, 1) := by decide +kernel
theorem dL_areColumns_299 : decode cL_areColumns 299 = .ok (.iload_n 3, 1) := by decide +kernel
theorem dL_areColumns_300 : decode cL_areColumns 300 = .ok (.invokevirtual 81, 3) := by decide +kernel
theorem dL_areColumns_303 : decode cL_areColumns 303 = .ok (.iload 5, 2) := by decide +kernel
theorem dL_areColumns_305 : decode cL_areColumns 305 = .ok (.if_icmp .gt 75, 3) := by decide +kernel
theorem dL_areColumns_308 : decode cL_areColumns 308 = .ok (.aload_n 0, 1) := by decide +kernel
theorem dL_areColumns_309 : decode cL_areColumns 309 = .ok (.iload_n 3, 1) := by decide +kernel
theorem dL_areColumns_310 : decode cL_areColumns 310 = .ok (.invokevirtual 84, 3) := by decide +kernel
theorem dL_areColumns_313 : decode cL_areColumns 313 = .ok (.iload_n 1, 1) := by decide +kernel
theorem dL_areColumns_314 : decode cL_areColumns 314 = .ok (.if_icmp .gt 66, 3) := by decide +kernel
theorem dL_areColumns_317 : decode cL_areColumns 317 = .ok (.aload_n 0, 1) := by decide +kernel
theorem dL_areColumns_318 : decode cL_areColumns 318 = .ok (.iload_n 3, 1) := by decide +kernel
theorem dL_areColumns_319 : decode cL_areColumns 319 = .ok (.invokevirtual 87, 3) := by decide +kernel
theorem dL_areColumns_322 : decode cL_areColumns 322 = .ok (.ifCond .eq 16, 3) := by decide +kernel
theorem dL_areColumns_325 : decode cL_areColumns 325 = .ok (.aload_n 0, 1) := by decide +kernel
theorem dL_areColumns_326 : decode cL_areColumns 326 = .ok (.iload_n 3, 1) := by decide +kernel
theorem dL_areColumns_327 : decode cL_areColumns 327 = .ok (.invokevirtual 84, 3) := by decide +kernel
theorem dL_areColumns_330 : decode cL_areColumns 330 = .ok (.iload 4, 2) := by decide +kernel
theorem dL_areColumns_332 : decode cL_areColumns 332 = .ok (.iload 7, 2) := by decide +kernel
theorem dL_areColumns_334 : decode cL_areColumns 334 = .ok (.isub, 1) := by decide +kernel
theorem dL_areColumns_335 : decode cL_areColumns 335 = .ok (.if_icmp .ne 45, 3) := by decide +kernel
theorem dL_areColumns_338 : decode cL_areColumns 338 = .ok (.aload_n 0, 1) := by decide +kernel
theorem dL_areColumns_339 : decode cL_areColumns 339 = .ok (.iload_n 3, 1) := by decide +kernel
theorem dL_areColumns_340 : decode cL_areColumns 340 = .ok (.invokevirtual 91, 3) := by decide +kernel
theorem dL_areColumns_343 : decode cL_areColumns 343 = .ok (.iload_n 1, 1) := by decide +kernel
theorem dL_areColumns_344 : decode cL_areColumns 344 = .ok (.ifCond .ne 7, 3) := by decide +kernel
theorem dL_areColumns_347 : decode cL_areColumns 347 = .ok (.iconst 0, 1) := by decide +kernel
theorem dL_areColumns_348 : decode cL_areColumns 348 = .ok (.goto 13, 3) := by decide +kernel
theorem dL_areColumns_351 : decode cL_areColumns 351 = .ok (.aload_n 0, 1) := by decide +kernel
theorem dL_areColumns_352 : decode cL_areColumns 352 = .ok (.iload_n 3, 1) := by decide +kernel
theorem dL_areColumns_353 : decode cL_areColumns 353 = .ok (.aload_n 0, 1) := by decide +kernel
theorem dL_areColumns_354 : decode cL_areColumns 354 = .ok (.iload_n 3, 1) := by decide +kernel
theorem dL_areColumns_355 : decode cL_areColumns 355 = .ok (.invokevirtual 94, 3) := by decide +kernel
theorem dL_areColumns_358 : decode cL_areColumns 358 = .ok (.invokevirtual 62, 3) := by decide +kernel
theorem dL_areColumns_361 : decode cL_areColumns 361 = .ok (.if_icmp .gt 19, 3) := by decide +kernel
theorem dL_areColumns_364 : decode cL_areColumns 364 = .ok (.aload_n 0, 1) := by decide +kernel
theorem dL_areColumns_365 : decode cL_areColumns 365 = .ok (.iload_n 3, 1) := by decide +kernel
theorem dL_areColumns_366 : decode cL_areColumns 366 = .ok (.invokevirtual 97, 3) := by decide +kernel
theorem dL_areColumns_369 : decode cL_areColumns 369 = .ok (.aload_n 0, 1) := by decide +kernel
theorem dL_areColumns_370 : decode cL_areColumns 370 = .ok (.aload_n 0, 1) := by decide +kernel
theorem dL_areColumns_371 : decode cL_areColumns 371 = .ok (.invokevirtual 100, 3) := by decide +kernel
theorem dL_areColumns_374 : decode cL_areColumns 374 = .ok (.invokevirtual 97, 3) := by decide +kernel
theorem dL_areColumns_377 : decode cL_areColumns 377 = .ok (.if_icmp .ge 5, 3) := by decide +kernel
theorem dL_areColumns_380 : decode cL_areColumns 380 = .ok (.iconst 0, 1) := by decide +kernel
theorem dL_areColumns_381 : decode cL_areColumns 381 = .ok (.ireturn, 1) := by decide +kernel
theorem dL_areColumns_382 : decode cL_areColumns 382 = .ok (.iinc 3 1, 3) := by decide +kernel
theorem dL_areColumns_385 : decode cL_areColumns 385 = .ok (.goto (-376), 3) := by decide +kernel
theorem dL_areColumns_388 : decode cL_areColumns 388 = .ok (.iload_n 2, 1) := by decide +kernel
theorem dL_areColumns_389 : decode cL_areColumns 389 = .ok (.aload_n 0, 1) := by decide +kernel
theorem dL_areColumns_390 : decode cL_areColumns 390 = .ok (.invokevirtual 103, 3) := by decide +kernel
theorem dL_areColumns_393 : decode cL_areColumns 393 = .ok (.if_icmp .ne 7, 3) := by decide +kernel
theorem dL_areColumns_396 : decode cL_areColumns 396 = .ok (.iconst 1, 1) := by decide +kernel
theorem dL_areColumns_397 : decode cL_areColumns 397 = .ok (.goto 4, 3) := by decide +kernel
theorem dL_areColumns_400 : decode cL_areColumns 400 = .ok (.iconst 0, 1) := by decide +kernel
theorem dL_areColumns_401 : decode cL_areColumns 401 = .ok (.ireturn, 1) := by decide +kernel
theorem dL_isFilter_0 : decode cL_isFilter 0 = .ok (.aload_n 0, 1) := by decide +kernel
theorem dL_isFilter_1 : decode cL_isFilter 1 = .ok (.invokevirtual 40, 3) := by decide +kernel
theorem dL_isFilter_4 : decode cL_isFilter 4 = .ok (.istore_n 1, 1) := by decide +kernel
theorem dL_isFilter_5 : decode cL_isFilter 5 = .ok (.iconst 0, 1) := by decide +kernel
theorem dL_isFilter_6 : decode cL_isFilter 6 = .ok (.istore_n 2, 1) := by decide +kernel
theorem dL_isFilter_7 : decode cL_isFilter 7 = .ok (.iconst 0, 1) := by decide +kernel
theorem dL_isFilter_8 : decode cL_isFilter 8 = .ok (.istore_n 3, 1) := by decide +kernel
theorem dL_isFilter_9 : decode cL_isFilter 9 = .ok (.iload_n 3, 1) := by decide +kernel
theorem dL_isFilter_10 : decode cL_isFilter 10 = .ok (.aload_n 0, 1) := by decide +kernel
theorem dL_isFilter_11 : decode cL_isFilter 11 = .ok (.invokevirtual 33, 3) := by decide +kernel
theorem dL_isFilter_14 : decode cL_isFilter 14 = .ok (.if_icmp .ge 232, 3) := by decide +kernel
theorem dL_isFilter_17 : decode cL_isFilter 17 = .ok (.iconst 1, 1) := by decide +kernel
theorem dL_isFilter_18 : decode cL_isFilter 18 = .ok (.istore 4, 2) := by decide +kernel
theorem dL_isFilter_20 : decode cL_isFilter 20 = .ok (.iconst (-1), 1) := by decide +kernel
theorem dL_isFilter_21 : decode cL_isFilter 21 = .ok (.istore 5, 2) := by decide +kernel
theorem dL_isFilter_23 : decode cL_isFilter 23 = .ok (.iload_n 1, 1) := by decide +kernel
theorem dL_isFilter_24 : decode cL_isFilter 24 = .ok (.iconst 1, 1) := by decide +kernel
theorem dL_isFilter_25 : decode cL_isFilter 25 = .ok (.isub, 1) := by decide +kernel
theorem dL_isFilter_26 : decode cL_isFilter 26 = .ok (.istore 6, 2) := by decide +kernel
theorem dL_isFilter_28 : decode cL_isFilter 28 = .ok (.iload 6, 2) := by decide +kernel
theorem dL_isFilter_30 : decode cL_isFilter 30 = .ok (.ifCond .lt 169, 3) := by decide +kernel
theorem dL_isFilter_33 : decode cL_isFilter 33 = .ok (.aload_n 0, 1) := by decide +kernel
theorem dL_isFilter_34 : decode cL_isFilter 34 = .ok (.iload 6, 2) := by decide +kernel
theorem dL_isFilter_36 : decode cL_isFilter 36 = .ok (.invokevirtual 50, 3) := by decide +kernel
theorem dL_isFilter_39 : decode cL_isFilter 39 = .ok (.istore 7, 2) := by decide +kernel
theorem dL_isFilter_41 : decode cL_isFilter 41 = .ok (.aload_n 0, 1) := by decide +kernel
theorem dL_isFilter_42 : decode cL_isFilter 42 = .ok (.iload 7, 2) := by decide +kernel
theorem dL_isFilter_44 : decode cL_isFilter 44 = .ok (.iload_n 3, 1) := by decide +kernel
theorem dL_isFilter_45 : decode cL_isFilter 45 = .ok (.invokevirtual 72, 3) := by decide +kernel
theorem dL_isFilter_48 : decode cL_isFilter 48 = .ok (.istore 8, 2) := by decide +kernel
theorem dL_isFilter_50 : decode cL_isFilter 50 = .ok (.iload 8, 2) := by decide +kernel
theorem dL_isFilter_52 : decode cL_isFilter 52 = .ok (.aload_n 0, 1) := by decide +kernel
theorem dL_isFilter_53 : decode cL_isFilter 53 = .ok (.iload 6, 2) := by decide +kernel
theorem dL_isFilter_55 : decode cL_isFilter 55 = .ok (.invokevirtual 106, 3) := by decide +kernel
theorem dL_isFilter_58 : decode cL_isFilter 58 = .ok (.if_icmp .lt 18, 3) := by decide +kernel
theorem dL_isFilter_61 : decode cL_isFilter 61 = .ok (.iload 8, 2) := by decide +kernel
theorem dL_isFilter_63 : decode cL_isFilter 63 = .ok (.aload_n 0, 1) := by decide +kernel
theorem dL_isFilter_64 : decode cL_isFilter 64 = .ok (.iload 6, 2) := by decide +kernel
theorem dL_isFilter_66 : decode cL_isFilter 66 = .ok (.invokevirtual 109, 3) := by decide +kernel
theorem dL_isFilter_69 : decode cL_isFilter 69 = .ok (.if_icmp .ge 7, 3) := by decide +kernel
theorem dL_isFilter_72 : decode cL_isFilter 72 = .ok (.iconst 1, 1) := by decide +kernel
theorem dL_isFilter_73 : decode cL_isFilter 73 = .ok (.goto 4, 3) := by decide +kernel
theorem dL_isFilter_76 : decode cL_isFilter 76 = .ok (.iconst 0, 1) := by decide +kernel
theorem dL_isFilter_77 : decode cL_isFilter 77 = .ok (.istore 9, 2) := by decide +kernel
theorem dL_isFilter_79 : decode cL_isFilter 79 = .ok (.aload_n 0, 1) := by decide +kernel
theorem dL_isFilter_80 : decode cL_isFilter 80 = .ok (.iload 7, 2) := by decide +kernel
theorem dL_isFilter_82 : decode cL_isFilter 82 = .ok (.iload_n 3, 1) := by decide +kernel
theorem dL_isFilter_83 : decode cL_isFilter 83 = .ok (.invokevirtual 43, 3) := by decide +kernel
theorem dL_isFilter_86 : decode cL_isFilter 86 = .ok (.istore 10, 2) := by decide +kernel
theorem dL_isFilter_88 : decode cL_isFilter 88 = .ok (.aload_n 0, 1) := by decide +kernel
theorem dL_isFilter_89 : decode cL_isFilter 89 = .ok (.iload 6, 2) := by decide +kernel
theorem dL_isFilter_91 : decode cL_isFilter 91 = .ok (.invokevirtual 53, 3) := by decide +kernel
theorem dL_isFilter_94 : decode cL_isFilter 94 = .ok (.istore 11, 2) := by decide +kernel
theorem dL_isFilter_96 : decode cL_isFilter 96 = .ok (.aload_n 0, 1) := by decide +kernel
theorem dL_isFilter_97 : decode cL_isFilter 97 = .ok (.iload 6, 2) := by decide +kernel
theorem dL_isFilter_99 : decode cL_isFilter 99 = .ok (.invokevirtual 56, 3) := by decide +kernel
theorem dL_isFilter_102 : decode cL_isFilter 102 = .ok (.ifCond .ge 18, 3) := by decide +kernel
theorem dL_isFilter_105 : decode cL_isFilter 105 = .ok (.iload 10, 2) := by decide +kernel
theorem dL_isFilter_107 : decode cL_isFilter 107 = .ok (.iload 11, 2) := by decide +kernel
theorem dL_isFilter_109 : decode cL_isFilter 109 = .ok (.if_icmp .ge 7, 3) := by decide +kernel
theorem dL_isFilter_112 : decode cL_isFilter 112 = .ok (.iconst 1, 1) := by decide +kernel
theorem dL_isFilter_113 : decode cL_isFilter 113 = .ok (.goto 43, 3) := by decide +kernel
theorem dL_isFilter_116 : decode cL_isFilter 116 = .ok (.iconst 0, 1) := by decide +kernel
theorem dL_isFilter_117 : decode cL_isFilter 117 = .ok (.goto 39, 3) := by decide +kernel
theorem dL_isFilter_120 : decode cL_isFilter 120 = .ok (.aload_n 0, 1) := by decide +kernel
theorem dL_isFilter_121 : decode cL_isFilter 121 = .ok (.iload 6, 2) := by decide +kernel
theorem dL_isFilter_123 : decode cL_isFilter 123 = .ok (.invokevirtual 56, 3) := by decide +kernel
theorem dL_isFilter_126 : decode cL_isFilter 126 = .ok (.ifCond .le 18, 3) := by decide +kernel
theorem dL_isFilter_129 : decode cL_isFilter 129 = .ok (.iload 10, 2) := by decide +kernel
theorem dL_isFilter_131 : decode cL_isFilter 131 = .ok (.iload 11, 2) := by decide +kernel
theorem dL_isFilter_133 : decode cL_isFilter 133 = .ok (.if_icmp .le 7, 3) := by decide +kernel
theorem dL_isFilter_136 : decode cL_isFilter 136 = .ok (.iconst 1, 1) := by decide +kernel
theorem dL_isFilter_137 : decode cL_isFilter 137 = .ok (.goto 19, 3) := by decide +kernel
theorem dL_isFilter_140 : decode cL_isFilter 140 = .ok (.iconst 0, 1) := by decide +kernel
theorem dL_isFilter_141 : decode cL_isFilter 141 = .ok (.goto 15, 3) := by decide +kernel
theorem dL_isFilter_144 : decode cL_isFilter 144 = .ok (.iload 10, 2) := by decide +kernel
theorem dL_isFilter_146 : decode cL_isFilter 146 = .ok (.iload 11, 2) := by decide +kernel
theorem dL_isFilter_148 : decode cL_isFilter 148 = .ok (.if_icmp .ne 7, 3) := by decide +kernel
theorem dL_isFilter_151 : decode cL_isFilter 151 = .ok (.iconst 1, 1) := by decide +kernel
theorem dL_isFilter_152 : decode cL_isFilter 152 = .ok (.goto 4, 3) := by decide +kernel
theorem dL_isFilter_155 : decode cL_isFilter 155 = .ok (.iconst 0, 1) := by decide +kernel
theorem dL_isFilter_156 : decode cL_isFilter 156 = .ok (.istore 12, 2) := by decide +kernel
theorem dL_isFilter_158 : decode cL_isFilter 158 = .ok (.iload 9, 2) := by decide +kernel
theorem dL_isFilter_160 : decode cL_isFilter 160 = .ok (.iload 12, 2) := by decide +kernel
theorem dL_isFilter_162 : decode cL_isFilter 162 = .ok (.if_icmp .eq 5, 3) := by decide +kernel
theorem dL_isFilter_165 : decode cL_isFilter 165 = .ok (.iconst 0, 1) := by decide +kernel
theorem dL_isFilter_166 : decode cL_isFilter 166 = .ok (.ireturn, 1) := by decide +kernel
theorem dL_isFilter_167 : decode cL_isFilter 167 = .ok (.iload 4, 2) := by decide +kernel
theorem dL_isFilter_169 : decode cL_isFilter 169 = .ok (.ifCond .eq 12, 3) := by decide +kernel
theorem dL_isFilter_172 : decode cL_isFilter 172 = .ok (.iload 9, 2) := by decide +kernel
theorem dL_isFilter_174 : decode cL_isFilter 174 = .ok (.ifCond .eq 7, 3) := by decide +kernel
theorem dL_isFilter_177 : decode cL_isFilter 177 = .ok (.iconst 1, 1) := by decide +kernel
theorem dL_isFilter_178 : decode cL_isFilter 178 = .ok (.goto 4, 3) := by decide +kernel
theorem dL_isFilter_181 : decode cL_isFilter 181 = .ok (.iconst 0, 1) := by decide +kernel
theorem dL_isFilter_182 : decode cL_isFilter 182 = .ok (.istore 4, 2) := by decide +kernel
theorem dL_isFilter_184 : decode cL_isFilter 184 = .ok (.iload 9, 2) := by decide +kernel
theorem dL_isFilter_186 : decode cL_isFilter 186 = .ok (.ifCond .ne 7, 3) := by decide +kernel
theorem dL_isFilter_189 : decode cL_isFilter 189 = .ok (.iload 6, 2) := by decide +kernel
theorem dL_isFilter_191 : decode cL_isFilter 191 = .ok (.istore 5, 2) := by decide +kernel
theorem dL_isFilter_193 : decode cL_isFilter 193 = .ok (.iinc 6 (-1), 3) := by decide +kernel
theorem dL_isFilter_196 : decode cL_isFilter 196 = .ok (.goto (-168), 3) := by decide +kernel
theorem dL_isFilter_199 : decode cL_isFilter 199 = .ok (.aload_n 0, 1) := by decide +kernel
theorem dL_isFilter_200 : decode cL_isFilter 200 = .ok (.iload_n 3, 1) := by decide +kernel
theorem dL_isFilter_201 : decode cL_isFilter 201 = .ok (.invokevirtual 112, 3) := by decide +kernel
theorem dL_isFilter_204 : decode cL_isFilter 204 = .ok (.iload 4, 2) := by decide +kernel
theorem dL_isFilter_206 : decode cL_isFilter 206 = .ok (.if_icmp .ne 13, 3) := by decide +kernel
theorem dL_isFilter_209 : decode cL_isFilter 209 = .ok (.aload_n 0, 1) := by decide +kernel
theorem dL_isFilter_210 : decode cL_isFilter 210 = .ok (.iload_n 3, 1) := by decide +kernel
theorem dL_isFilter_211 : decode cL_isFilter 211 = .ok (.invokevirtual 115, 3) := by decide +kernel
theorem dL_isFilter_214 : decode cL_isFilter 214 = .ok (.iload 5, 2) := by decide +kernel
theorem dL_isFilter_216 : decode cL_isFilter 216 = .ok (.if_icmp .eq 5, 3) := by decide +kernel
theorem dL_isFilter_219 : decode cL_isFilter 219 = .ok (.iconst 0, 1) := by decide +kernel
theorem dL_isFilter_220 : decode cL_isFilter 220 = .ok (.ireturn, 1) := by decide +kernel
theorem dL_isFilter_221 : decode cL_isFilter 221 = .ok (.iload 4, 2) := by decide +kernel
theorem dL_isFilter_223 : decode cL_isFilter 223 = .ok (.ifCond .eq 17, 3) := by decide +kernel
theorem dL_isFilter_226 : decode cL_isFilter 226 = .ok (.aload_n 0, 1) := by decide +kernel
theorem dL_isFilter_227 : decode cL_isFilter 227 = .ok (.iload_n 2, 1) := by decide +kernel
theorem dL_isFilter_228 : decode cL_isFilter 228 = .ok (.iinc 2 1, 3) := by decide +kernel
theorem dL_isFilter_231 : decode cL_isFilter 231 = .ok (.invokevirtual 118, 3) := by decide +kernel
theorem dL_isFilter_234 : decode cL_isFilter 234 = .ok (.iload_n 3, 1) := by decide +kernel
theorem dL_isFilter_235 : decode cL_isFilter 235 = .ok (.if_icmp .eq 5, 3) := by decide +kernel
theorem dL_isFilter_238 : decode cL_isFilter 238 = .ok (.iconst 0, 1) := by decide +kernel
theorem dL_isFilter_239 : decode cL_isFilter 239 = .ok (.ireturn, 1) := by decide +kernel
theorem dL_isFilter_240 : decode cL_isFilter 240 = .ok (.iinc 3 1, 3) := by decide +kernel
theorem dL_isFilter_243 : decode cL_isFilter 243 = .ok (.goto (-234), 3) := by decide +kernel
theorem dL_isFilter_246 : decode cL_isFilter 246 = .ok (.iconst 0, 1) := by decide +kernel
theorem dL_isFilter_247 : decode cL_isFilter 247 = .ok (.istore_n 3, 1) := by decide +kernel
theorem dL_isFilter_248 : decode cL_isFilter 248 = .ok (.iload_n 3, 1) := by decide +kernel
theorem dL_isFilter_249 : decode cL_isFilter 249 = .ok (.iload_n 1, 1) := by decide +kernel
theorem dL_isFilter_250 : decode cL_isFilter 250 = .ok (.if_icmp .ge 66, 3) := by decide +kernel
theorem dL_isFilter_253 : decode cL_isFilter 253 = .ok (.aload_n 0, 1) := by decide +kernel
theorem dL_isFilter_254 : decode cL_isFilter 254 = .ok (.iload_n 3, 1) := by decide +kernel
theorem dL_isFilter_255 : decode cL_isFilter 255 = .ok (.invokevirtual 121, 3) := by decide +kernel
theorem dL_isFilter_258 : decode cL_isFilter 258 = .ok (.iload_n 2, 1) := by decide +kernel
theorem dL_isFilter_259 : decode cL_isFilter 259 = .ok (.if_icmp .lt 49, 3) := by decide +kernel
theorem dL_isFilter_262 : decode cL_isFilter 262 = .ok (.aload_n 0, 1) := by decide +kernel
theorem dL_isFilter_263 : decode cL_isFilter 263 = .ok (.iload_n 3, 1) := by decide +kernel
theorem dL_isFilter_264 : decode cL_isFilter 264 = .ok (.invokevirtual 121, 3) := by decide +kernel
theorem dL_isFilter_267 : decode cL_isFilter 267 = .ok (.aload_n 0, 1) := by decide +kernel
theorem dL_isFilter_268 : decode cL_isFilter 268 = .ok (.aload_n 0, 1) := by decide +kernel
theorem dL_isFilter_269 : decode cL_isFilter 269 = .ok (.invokevirtual 124, 3) := by decide +kernel
theorem dL_isFilter_272 : decode cL_isFilter 272 = .ok (.invokevirtual 121, 3) := by decide +kernel
theorem dL_isFilter_275 : decode cL_isFilter 275 = .ok (.if_icmp .lt 33, 3) := by decide +kernel
theorem dL_isFilter_278 : decode cL_isFilter 278 = .ok (.aload_n 0, 1) := by decide +kernel
theorem dL_isFilter_279 : decode cL_isFilter 279 = .ok (.iload_n 3, 1) := by decide +kernel
theorem dL_isFilter_280 : decode cL_isFilter 280 = .ok (.invokevirtual 106, 3) := by decide +kernel
theorem dL_isFilter_283 : decode cL_isFilter 283 = .ok (.aload_n 0, 1) := by decide +kernel
theorem dL_isFilter_284 : decode cL_isFilter 284 = .ok (.iload_n 3, 1) := by decide +kernel
theorem dL_isFilter_285 : decode cL_isFilter 285 = .ok (.invokevirtual 109, 3) := by decide +kernel
theorem dL_isFilter_288 : decode cL_isFilter 288 = .ok (.if_icmp .gt 20, 3) := by decide +kernel
theorem dL_isFilter_291 : decode cL_isFilter 291 = .ok (.aload_n 0, 1) := by decide +kernel
theorem dL_isFilter_292 : decode cL_isFilter 292 = .ok (.iload_n 3, 1) := by decide +kernel
theorem dL_isFilter_293 : decode cL_isFilter 293 = .ok (.invokevirtual 109, 3) := by decide +kernel
theorem dL_isFilter_296 : decode cL_isFilter 296 = .ok (.aload_n 0, 1) := by decide +kernel
theorem dL_isFilter_297 : decode cL_isFilter 297 = .ok (.aload_n 0, 1) := by decide +kernel
theorem dL_isFilter_298 : decode cL_isFilter 298 = .ok (.iload_n 3, 1) := by decide +kernel
theorem dL_isFilter_299 : decode cL_isFilter 299 = .ok (.invokevirtual 50, 3) := by decide +kernel
theorem dL_isFilter_302 : decode cL_isFilter 302 = .ok (.invokevirtual 36, 3) := by decide +kernel
theorem dL_isFilter_305 : decode cL_isFilter 305 = .ok (.if_icmp .le 5, 3) := by decide +kernel
theorem dL_isFilter_308 : decode cL_isFilter 308 = .ok (.iconst 0, 1) := by decide +kernel
theorem dL_isFilter_309 : decode cL_isFilter 309 = .ok (.ireturn, 1) := by decide +kernel
theorem dL_isFilter_310 : decode cL_isFilter 310 = .ok (.iinc 3 1, 3) := by decide +kernel
theorem dL_isFilter_313 : decode cL_isFilter 313 = .ok (.goto (-65), 3) := by decide +kernel
theorem dL_isFilter_316 : decode cL_isFilter 316 = .ok (.iconst 0, 1) := by decide +kernel
theorem dL_isFilter_317 : decode cL_isFilter 317 = .ok (.istore_n 3, 1) := by decide +kernel
theorem dL_isFilter_318 : decode cL_isFilter 318 = .ok (.iload_n 3, 1) := by decide +kernel
theorem dL_isFilter_319 : decode cL_isFilter 319 = .ok (.aload_n 0, 1) := by decide +kernel
theorem dL_isFilter_320 : decode cL_isFilter 320 = .ok (.invokevirtual 30, 3) := by decide +kernel
theorem dL_isFilter_323 : decode cL_isFilter 323 = .ok (.if_icmp .ge 96, 3) := by decide +kernel
theorem dL_isFilter_326 : decode cL_isFilter 326 = .ok (.iload_n 2, 1) := by decide +kernel
theorem dL_isFilter_327 : decode cL_isFilter 327 = .ok (.ifCond .le 92, 3) := by decide +kernel
theorem dL_isFilter_330 : decode cL_isFilter 330 = .ok (.aload_n 0, 1) := by decide +kernel
theorem dL_isFilter_331 : decode cL_isFilter 331 = .ok (.iload_n 3, 1) := by decide +kernel
theorem dL_isFilter_332 : decode cL_isFilter 332 = .ok (.invokevirtual 127, 3) := by decide +kernel
theorem dL_isFilter_335 : decode cL_isFilter 335 = .ok (.lstore 4, 2) := by decide +kernel
theorem dL_isFilter_337 : decode cL_isFilter 337 = .ok (.lload 4, 2) := by decide +kernel
theorem dL_isFilter_339 : decode cL_isFilter 339 = .ok (.iload_n 2, 1) := by decide +kernel
theorem dL_isFilter_340 : decode cL_isFilter 340 = .ok (.i2l, 1) := by decide +kernel
theorem dL_isFilter_341 : decode cL_isFilter 341 = .ok (.aload_n 0, 1) := by decide +kernel
theorem dL_isFilter_342 : decode cL_isFilter 342 = .ok (.iload_n 3, 1) := by decide +kernel
theorem dL_isFilter_343 : decode cL_isFilter 343 = .ok (.invokevirtual 131, 3) := by decide +kernel
theorem dL_isFilter_346 : decode cL_isFilter 346 = .ok (.i2l, 1) := by decide +kernel
theorem dL_isFilter_347 : decode cL_isFilter 347 = .ok (.lmul, 1) := by decide +kernel
theorem dL_isFilter_348 : decode cL_isFilter 348 = .ok (.lcmp, 1) := by decide +kernel
theorem dL_isFilter_349 : decode cL_isFilter 349 = .ok (.ifCond .lt 62, 3) := by decide +kernel
theorem dL_isFilter_352 : decode cL_isFilter 352 = .ok (.lload 4, 2) := by decide +kernel
theorem dL_isFilter_354 : decode cL_isFilter 354 = .ok (.iload_n 2, 1) := by decide +kernel
theorem dL_isFilter_355 : decode cL_isFilter 355 = .ok (.i2l, 1) := by decide +kernel
theorem dL_isFilter_356 : decode cL_isFilter 356 = .ok (.aload_n 0, 1) := by decide +kernel
theorem dL_isFilter_357 : decode cL_isFilter 357 = .ok (.iload_n 3, 1) := by decide +kernel
theorem dL_isFilter_358 : decode cL_isFilter 358 = .ok (.invokevirtual 134, 3) := by decide +kernel
theorem dL_isFilter_361 : decode cL_isFilter 361 = .ok (.i2l, 1) := by decide +kernel
theorem dL_isFilter_362 : decode cL_isFilter 362 = .ok (.lmul, 1) := by decide +kernel
theorem dL_isFilter_363 : decode cL_isFilter 363 = .ok (.lcmp, 1) := by decide +kernel
theorem dL_isFilter_364 : decode cL_isFilter 364 = .ok (.ifCond .gt 47, 3) := by decide +kernel
theorem dL_isFilter_367 : decode cL_isFilter 367 = .ok (.aload_n 0, 1) := by decide +kernel
theorem dL_isFilter_368 : decode cL_isFilter 368 = .ok (.iload_n 3, 1) := by decide +kernel
theorem dL_isFilter_369 : decode cL_isFilter 369 = .ok (.invokevirtual 137, 3) := by decide +kernel
theorem dL_isFilter_372 : decode cL_isFilter 372 = .ok (.iload_n 2, 1) := by decide +kernel
theorem dL_isFilter_373 : decode cL_isFilter 373 = .ok (.if_icmp .gt 38, 3) := by decide +kernel
theorem dL_isFilter_376 : decode cL_isFilter 376 = .ok (.aload_n 0, 1) := by decide +kernel
theorem dL_isFilter_377 : decode cL_isFilter 377 = .ok (.iload_n 3, 1) := by decide +kernel
theorem dL_isFilter_378 : decode cL_isFilter 378 = .ok (.invokevirtual 131, 3) := by decide +kernel
theorem dL_isFilter_381 : decode cL_isFilter 381 = .ok (.aload_n 0, 1) := by decide +kernel
theorem dL_isFilter_382 : decode cL_isFilter 382 = .ok (.iload_n 3, 1) := by decide +kernel
theorem dL_isFilter_383 : decode cL_isFilter 383 = .ok (.invokevirtual 134, 3) := by decide +kernel
theorem dL_isFilter_386 : decode cL_isFilter 386 = .ok (.if_icmp .ne 7, 3) := by decide +kernel
theorem dL_isFilter_389 : decode cL_isFilter 389 = .ok (.iconst 1, 1) := by decide +kernel
theorem dL_isFilter_390 : decode cL_isFilter 390 = .ok (.goto 4, 3) := by decide +kernel
theorem dL_isFilter_393 : decode cL_isFilter 393 = .ok (.iconst 0, 1) := by decide +kernel
theorem dL_isFilter_394 : decode cL_isFilter 394 = .ok (.aload_n 0, 1) := by decide +kernel
theorem dL_isFilter_395 : decode cL_isFilter 395 = .ok (.iload_n 3, 1) := by decide +kernel
theorem dL_isFilter_396 : decode cL_isFilter 396 = .ok (.invokevirtual 137, 3) := by decide +kernel
theorem dL_isFilter_399 : decode cL_isFilter 399 = .ok (.iconst 1, 1) := by decide +kernel
theorem dL_isFilter_400 : decode cL_isFilter 400 = .ok (.if_icmp .ne 7, 3) := by decide +kernel
theorem dL_isFilter_403 : decode cL_isFilter 403 = .ok (.iconst 1, 1) := by decide +kernel
theorem dL_isFilter_404 : decode cL_isFilter 404 = .ok (.goto 4, 3) := by decide +kernel
theorem dL_isFilter_407 : decode cL_isFilter 407 = .ok (.iconst 0, 1) := by decide +kernel
theorem dL_isFilter_408 : decode cL_isFilter 408 = .ok (.if_icmp .eq 5, 3) := by decide +kernel
theorem dL_isFilter_411 : decode cL_isFilter 411 = .ok (.iconst 0, 1) := by decide +kernel
theorem dL_isFilter_412 : decode cL_isFilter 412 = .ok (.ireturn, 1) := by decide +kernel
theorem dL_isFilter_413 : decode cL_isFilter 413 = .ok (.iinc 3 1, 3) := by decide +kernel
theorem dL_isFilter_416 : decode cL_isFilter 416 = .ok (.goto (-98), 3) := by decide +kernel
theorem dL_isFilter_419 : decode cL_isFilter 419 = .ok (.iload_n 2, 1) := by decide +kernel
theorem dL_isFilter_420 : decode cL_isFilter 420 = .ok (.aload_n 0, 1) := by decide +kernel
theorem dL_isFilter_421 : decode cL_isFilter 421 = .ok (.invokevirtual 140, 3) := by decide +kernel
theorem dL_isFilter_424 : decode cL_isFilter 424 = .ok (.if_icmp .ne 14, 3) := by decide +kernel
theorem dL_isFilter_427 : decode cL_isFilter 427 = .ok (.aload_n 0, 1) := by decide +kernel
theorem dL_isFilter_428 : decode cL_isFilter 428 = .ok (.invokevirtual 143, 3) := by decide +kernel
theorem dL_isFilter_431 : decode cL_isFilter 431 = .ok (.ifCond .ne 7, 3) := by decide +kernel
theorem dL_isFilter_434 : decode cL_isFilter 434 = .ok (.iconst 1, 1) := by decide +kernel
theorem dL_isFilter_435 : decode cL_isFilter 435 = .ok (.goto 4, 3) := by decide +kernel
theorem dL_isFilter_438 : decode cL_isFilter 438 = .ok (.iconst 0, 1) := by decide +kernel
theorem dL_isFilter_439 : decode cL_isFilter 439 = .ok (.ireturn, 1) := by decide +kernel
theorem dL_act_0 : decode cL_act 0 = .ok (.iload_n 2, 1) := by decide +kernel
theorem dL_act_1 : decode cL_act 1 = .ok (.bipush 26, 2) := by decide +kernel
theorem dL_act_3 : decode cL_act 3 = .ok (.invokestatic 146, 3) := by decide +kernel
theorem dL_act_6 : decode cL_act 6 = .ok (.istore_n 3, 1) := by decide +kernel
theorem dL_act_7 : decode cL_act 7 = .ok (.iload_n 2, 1) := by decide +kernel
theorem dL_act_8 : decode cL_act 8 = .ok (.iconst 4, 1) := by decide +kernel
theorem dL_act_9 : decode cL_act 9 = .ok (.ishr, 1) := by decide +kernel
theorem dL_act_10 : decode cL_act 10 = .ok (.istore 4, 2) := by decide +kernel
theorem dL_act_12 : decode cL_act 12 = .ok (.aload_n 0, 1) := by decide +kernel
theorem dL_act_13 : decode cL_act 13 = .ok (.invokevirtual 30, 3) := by decide +kernel
theorem dL_act_16 : decode cL_act 16 = .ok (.istore 5, 2) := by decide +kernel
theorem dL_act_18 : decode cL_act 18 = .ok (.aload_n 0, 1) := by decide +kernel
theorem dL_act_19 : decode cL_act 19 = .ok (.invokevirtual 33, 3) := by decide +kernel
theorem dL_act_22 : decode cL_act 22 = .ok (.istore 6, 2) := by decide +kernel
theorem dL_act_24 : decode cL_act 24 = .ok (.iload 4, 2) := by decide +kernel
theorem dL_act_26 : decode cL_act 26 = .ok (.iload 5, 2) := by decide +kernel
theorem dL_act_28 : decode cL_act 28 = .ok (.invokestatic 146, 3) := by decide +kernel
theorem dL_act_31 : decode cL_act 31 = .ok (.istore 7, 2) := by decide +kernel
theorem dL_act_33 : decode cL_act 33 = .ok (.iload 4, 2) := by decide +kernel
theorem dL_act_35 : decode cL_act 35 = .ok (.iconst 2, 1) := by decide +kernel
theorem dL_act_36 : decode cL_act 36 = .ok (.ishr, 1) := by decide +kernel
theorem dL_act_37 : decode cL_act 37 = .ok (.iconst 3, 1) := by decide +kernel
theorem dL_act_38 : decode cL_act 38 = .ok (.invokestatic 146, 3) := by decide +kernel
theorem dL_act_41 : decode cL_act 41 = .ok (.ifCond .ne 18, 3) := by decide +kernel
theorem dL_act_44 : decode cL_act 44 = .ok (.iload 4, 2) := by decide +kernel
theorem dL_act_46 : decode cL_act 46 = .ok (.sipush 400, 3) := by decide +kernel
theorem dL_act_49 : decode cL_act 49 = .ok (.invokestatic 146, 3) := by decide +kernel
theorem dL_act_52 : decode cL_act 52 = .ok (.sipush 200, 3) := by decide +kernel
theorem dL_act_55 : decode cL_act 55 = .ok (.isub, 1) := by decide +kernel
theorem dL_act_56 : decode cL_act 56 = .ok (.goto 14, 3) := by decide +kernel
theorem dL_act_59 : decode cL_act 59 = .ok (.iload 4, 2) := by decide +kernel
theorem dL_act_61 : decode cL_act 61 = .ok (.iconst 3, 1) := by decide +kernel
theorem dL_act_62 : decode cL_act 62 = .ok (.ishr, 1) := by decide +kernel
theorem dL_act_63 : decode cL_act 63 = .ok (.bipush 7, 2) := by decide +kernel
theorem dL_act_65 : decode cL_act 65 = .ok (.invokestatic 146, 3) := by decide +kernel
theorem dL_act_68 : decode cL_act 68 = .ok (.iconst 3, 1) := by decide +kernel
theorem dL_act_69 : decode cL_act 69 = .ok (.isub, 1) := by decide +kernel
theorem dL_act_70 : decode cL_act 70 = .ok (.istore 8, 2) := by decide +kernel
theorem dL_act_72 : decode cL_act 72 = .ok (.iload_n 3, 1) := by decide +kernel
theorem dL_act_73 : decode cL_act 73 = .ok (.bipush 6, 2) := by decide +kernel
theorem dL_act_75 : decode cL_act 75 = .ok (.if_icmp .lt 8, 3) := by decide +kernel
theorem dL_act_78 : decode cL_act 78 = .ok (.iload 6, 2) := by decide +kernel
theorem dL_act_80 : decode cL_act 80 = .ok (.ifCond .ne 146, 3) := by decide +kernel
theorem dL_act_83 : decode cL_act 83 = .ok (.iload 6, 2) := by decide +kernel
theorem dL_act_85 : decode cL_act 85 = .ok (.bipush 60, 2) := by decide +kernel
theorem dL_act_87 : decode cL_act 87 = .ok (.if_icmp .ne 16, 3) := by decide +kernel
theorem dL_act_90 : decode cL_act 90 = .ok (.aload_n 0, 1) := by decide +kernel
theorem dL_act_91 : decode cL_act 91 = .ok (.invokevirtual 149, 3) := by decide +kernel
theorem dL_act_94 : decode cL_act 94 = .ok (.ifCond .lt 7, 3) := by decide +kernel
theorem dL_act_97 : decode cL_act 97 = .ok (.iconst 1, 1) := by decide +kernel
theorem dL_act_98 : decode cL_act 98 = .ok (.goto 4, 3) := by decide +kernel
theorem dL_act_101 : decode cL_act 101 = .ok (.iconst 0, 1) := by decide +kernel
theorem dL_act_102 : decode cL_act 102 = .ok (.ireturn, 1) := by decide +kernel
theorem dL_act_103 : decode cL_act 103 = .ok (.new 152, 3) := by decide +kernel
theorem dL_act_106 : decode cL_act 106 = .ok (.dup, 1) := by decide +kernel
theorem dL_act_107 : decode cL_act 107 = .ok (.invokespecial 154, 3) := by decide +kernel
theorem dL_act_110 : decode cL_act 110 = .ok (.astore 9, 2) := by decide +kernel
theorem dL_act_112 : decode cL_act 112 = .ok (.iconst 0, 1) := by decide +kernel
theorem dL_act_113 : decode cL_act 113 = .ok (.istore 10, 2) := by decide +kernel
theorem dL_act_115 : decode cL_act 115 = .ok (.iload 10, 2) := by decide +kernel
theorem dL_act_117 : decode cL_act 117 = .ok (.iload 5, 2) := by decide +kernel
theorem dL_act_119 : decode cL_act 119 = .ok (.if_icmp .ge 47, 3) := by decide +kernel
theorem dL_act_122 : decode cL_act 122 = .ok (.aload 9, 2) := by decide +kernel
theorem dL_act_124 : decode cL_act 124 = .ok (.iload 10, 2) := by decide +kernel
theorem dL_act_126 : decode cL_act 126 = .ok (.ifCond .le 8, 3) := by decide +kernel
theorem dL_act_129 : decode cL_act 129 = .ok (.ldc 155, 2) := by decide +kernel
theorem dL_act_131 : decode cL_act 131 = .ok (.goto 5, 3) := by decide +kernel
theorem dL_act_134 : decode cL_act 134 = .ok (.ldc 157, 2) := by decide +kernel
theorem dL_act_136 : decode cL_act 136 = .ok (.invokevirtual 159, 3) := by decide +kernel
theorem dL_act_139 : decode cL_act 139 = .ok (.iload 4, 2) := by decide +kernel
theorem dL_act_141 : decode cL_act 141 = .ok (.iload 10, 2) := by decide +kernel
theorem dL_act_143 : decode cL_act 143 = .ok (.ishr, 1) := by decide +kernel
theorem dL_act_144 : decode cL_act 144 = .ok (.iconst 5, 1) := by decide +kernel
theorem dL_act_145 : decode cL_act 145 = .ok (.iload 10, 2) := by decide +kernel
theorem dL_act_147 : decode cL_act 147 = .ok (.imul, 1) := by decide +kernel
theorem dL_act_148 : decode cL_act 148 = .ok (.iadd, 1) := by decide +kernel
theorem dL_act_149 : decode cL_act 149 = .ok (.bipush 7, 2) := by decide +kernel
theorem dL_act_151 : decode cL_act 151 = .ok (.invokestatic 146, 3) := by decide +kernel
theorem dL_act_154 : decode cL_act 154 = .ok (.iconst 3, 1) := by decide +kernel
theorem dL_act_155 : decode cL_act 155 = .ok (.isub, 1) := by decide +kernel
theorem dL_act_156 : decode cL_act 156 = .ok (.invokevirtual 163, 3) := by decide +kernel
theorem dL_act_159 : decode cL_act 159 = .ok (.pop, 1) := by decide +kernel
theorem dL_act_160 : decode cL_act 160 = .ok (.iinc 10 1, 3) := by decide +kernel
theorem dL_act_163 : decode cL_act 163 = .ok (.goto (-48), 3) := by decide +kernel
theorem dL_act_166 : decode cL_act 166 = .ok (.aload_n 0, 1) := by decide +kernel
theorem dL_act_167 : decode cL_act 167 = .ok (.aload_n 1, 1) := by decide +kernel
theorem dL_act_168 : decode cL_act 168 = .ok (.aload 9, 2) := by decide +kernel
theorem dL_act_170 : decode cL_act 170 = .ok (.invokevirtual 166, 3) := by decide +kernel
theorem dL_act_173 : decode cL_act 173 = .ok (.invokestatic 170, 3) := by decide +kernel
theorem dL_act_176 : decode cL_act 176 = .ok (.aload_n 0, 1) := by decide +kernel
theorem dL_act_177 : decode cL_act 177 = .ok (.aload_n 0, 1) := by decide +kernel
theorem dL_act_178 : decode cL_act 178 = .ok (.aload_n 1, 1) := by decide +kernel
theorem dL_act_179 : decode cL_act 179 = .ok (.invokestatic 174, 3) := by decide +kernel
theorem dL_act_182 : decode cL_act 182 = .ok (.invokevirtual 178, 3) := by decide +kernel
theorem dL_act_185 : decode cL_act 185 = .ok (.iload 6, 2) := by decide +kernel
theorem dL_act_187 : decode cL_act 187 = .ok (.if_icmp .ne 37, 3) := by decide +kernel
theorem dL_act_190 : decode cL_act 190 = .ok (.aload_n 0, 1) := by decide +kernel
theorem dL_act_191 : decode cL_act 191 = .ok (.iconst 0, 1) := by decide +kernel
theorem dL_act_192 : decode cL_act 192 = .ok (.iload 6, 2) := by decide +kernel
theorem dL_act_194 : decode cL_act 194 = .ok (.invokevirtual 43, 3) := by decide +kernel
theorem dL_act_197 : decode cL_act 197 = .ok (.iload 4, 2) := by decide +kernel
theorem dL_act_199 : decode cL_act 199 = .ok (.bipush 7, 2) := by decide +kernel
theorem dL_act_201 : decode cL_act 201 = .ok (.invokestatic 146, 3) := by decide +kernel
theorem dL_act_204 : decode cL_act 204 = .ok (.iconst 3, 1) := by decide +kernel
theorem dL_act_205 : decode cL_act 205 = .ok (.isub, 1) := by decide +kernel
theorem dL_act_206 : decode cL_act 206 = .ok (.if_icmp .ne 18, 3) := by decide +kernel
theorem dL_act_209 : decode cL_act 209 = .ok (.aload_n 0, 1) := by decide +kernel
theorem dL_act_210 : decode cL_act 210 = .ok (.invokevirtual 33, 3) := by decide +kernel
theorem dL_act_213 : decode cL_act 213 = .ok (.iload 6, 2) := by decide +kernel
theorem dL_act_215 : decode cL_act 215 = .ok (.iconst 1, 1) := by decide +kernel
theorem dL_act_216 : decode cL_act 216 = .ok (.iadd, 1) := by decide +kernel
theorem dL_act_217 : decode cL_act 217 = .ok (.if_icmp .ne 7, 3) := by decide +kernel
theorem dL_act_220 : decode cL_act 220 = .ok (.iconst 1, 1) := by decide +kernel
theorem dL_act_221 : decode cL_act 221 = .ok (.goto 4, 3) := by decide +kernel
theorem dL_act_224 : decode cL_act 224 = .ok (.iconst 0, 1) := by decide +kernel
theorem dL_act_225 : decode cL_act 225 = .ok (.ireturn, 1) := by decide +kernel
theorem dL_act_226 : decode cL_act 226 = .ok (.iload 4, 2) := by decide +kernel
theorem dL_act_228 : decode cL_act 228 = .ok (.iconst 1, 1) := by decide +kernel
theorem dL_act_229 : decode cL_act 229 = .ok (.ishr, 1) := by decide +kernel
theorem dL_act_230 : decode cL_act 230 = .ok (.iload 6, 2) := by decide +kernel
theorem dL_act_232 : decode cL_act 232 = .ok (.invokestatic 146, 3) := by decide +kernel
theorem dL_act_235 : decode cL_act 235 = .ok (.istore 9, 2) := by decide +kernel
theorem dL_act_237 : decode cL_act 237 = .ok (.iload_n 3, 1) := by decide +kernel
theorem dL_act_238 : decode cL_act 238 = .ok (.bipush 10, 2) := by decide +kernel
theorem dL_act_240 : decode cL_act 240 = .ok (.if_icmp .ge 68, 3) := by decide +kernel
theorem dL_act_243 : decode cL_act 243 = .ok (.aload_n 0, 1) := by decide +kernel
theorem dL_act_244 : decode cL_act 244 = .ok (.iload 7, 2) := by decide +kernel
theorem dL_act_246 : decode cL_act 246 = .ok (.iload 9, 2) := by decide +kernel
theorem dL_act_248 : decode cL_act 248 = .ok (.invokevirtual 43, 3) := by decide +kernel
theorem dL_act_251 : decode cL_act 251 = .ok (.istore 10, 2) := by decide +kernel
theorem dL_act_253 : decode cL_act 253 = .ok (.aload_n 0, 1) := by decide +kernel
theorem dL_act_254 : decode cL_act 254 = .ok (.iload 7, 2) := by decide +kernel
theorem dL_act_256 : decode cL_act 256 = .ok (.iload 8, 2) := by decide +kernel
theorem dL_act_258 : decode cL_act 258 = .ok (.invokevirtual 181, 3) := by decide +kernel
theorem dL_act_261 : decode cL_act 261 = .ok (.istore 11, 2) := by decide +kernel
theorem dL_act_263 : decode cL_act 263 = .ok (.aload_n 0, 1) := by decide +kernel
theorem dL_act_264 : decode cL_act 264 = .ok (.iload 7, 2) := by decide +kernel
theorem dL_act_266 : decode cL_act 266 = .ok (.iload 9, 2) := by decide +kernel
theorem dL_act_268 : decode cL_act 268 = .ok (.iload 8, 2) := by decide +kernel
theorem dL_act_270 : decode cL_act 270 = .ok (.invokevirtual 184, 3) := by decide +kernel
theorem dL_act_273 : decode cL_act 273 = .ok (.iload 10, 2) := by decide +kernel
theorem dL_act_275 : decode cL_act 275 = .ok (.if_icmp .ne 31, 3) := by decide +kernel
theorem dL_act_278 : decode cL_act 278 = .ok (.aload_n 0, 1) := by decide +kernel
theorem dL_act_279 : decode cL_act 279 = .ok (.iload 7, 2) := by decide +kernel
theorem dL_act_281 : decode cL_act 281 = .ok (.iload 9, 2) := by decide +kernel
theorem dL_act_283 : decode cL_act 283 = .ok (.invokevirtual 43, 3) := by decide +kernel
theorem dL_act_286 : decode cL_act 286 = .ok (.iload 8, 2) := by decide +kernel
theorem dL_act_288 : decode cL_act 288 = .ok (.if_icmp .ne 18, 3) := by decide +kernel
theorem dL_act_291 : decode cL_act 291 = .ok (.aload_n 0, 1) := by decide +kernel
theorem dL_act_292 : decode cL_act 292 = .ok (.iload 7, 2) := by decide +kernel
theorem dL_act_294 : decode cL_act 294 = .ok (.invokevirtual 59, 3) := by decide +kernel
theorem dL_act_297 : decode cL_act 297 = .ok (.iload 11, 2) := by decide +kernel
theorem dL_act_299 : decode cL_act 299 = .ok (.if_icmp .ne 7, 3) := by decide +kernel
theorem dL_act_302 : decode cL_act 302 = .ok (.iconst 1, 1) := by decide +kernel
theorem dL_act_303 : decode cL_act 303 = .ok (.goto 4, 3) := by decide +kernel
theorem dL_act_306 : decode cL_act 306 = .ok (.iconst 0, 1) := by decide +kernel
theorem dL_act_307 : decode cL_act 307 = .ok (.ireturn, 1) := by decide +kernel
theorem dL_act_308 : decode cL_act 308 = .ok (.iload_n 3, 1) := by decide +kernel
theorem dL_act_309 : decode cL_act 309 = .ok (.bipush 13, 2) := by decide +kernel
theorem dL_act_311 : decode cL_act 311 = .ok (.if_icmp .ge 160, 3) := by decide +kernel
theorem dL_act_314 : decode cL_act 314 = .ok (.iload 4, 2) := by decide +kernel
theorem dL_act_316 : decode cL_act 316 = .ok (.iconst 5, 1) := by decide +kernel
theorem dL_act_317 : decode cL_act 317 = .ok (.ishr, 1) := by decide +kernel
theorem dL_act_318 : decode cL_act 318 = .ok (.iconst 2, 1) := by decide +kernel
theorem dL_act_319 : decode cL_act 319 = .ok (.invokestatic 146, 3) := by decide +kernel
theorem dL_act_322 : decode cL_act 322 = .ok (.ifCond .ne 7, 3) := by decide +kernel
theorem dL_act_325 : decode cL_act 325 = .ok (.iconst 1, 1) := by decide +kernel
theorem dL_act_326 : decode cL_act 326 = .ok (.goto 4, 3) := by decide +kernel
theorem dL_act_329 : decode cL_act 329 = .ok (.iconst 0, 1) := by decide +kernel
theorem dL_act_330 : decode cL_act 330 = .ok (.istore 10, 2) := by decide +kernel
theorem dL_act_332 : decode cL_act 332 = .ok (.aload_n 0, 1) := by decide +kernel
theorem dL_act_333 : decode cL_act 333 = .ok (.iload 7, 2) := by decide +kernel
theorem dL_act_335 : decode cL_act 335 = .ok (.invokevirtual 97, 3) := by decide +kernel
theorem dL_act_338 : decode cL_act 338 = .ok (.istore 11, 2) := by decide +kernel
theorem dL_act_340 : decode cL_act 340 = .ok (.aload_n 0, 1) := by decide +kernel
theorem dL_act_341 : decode cL_act 341 = .ok (.invokevirtual 140, 3) := by decide +kernel
theorem dL_act_344 : decode cL_act 344 = .ok (.istore 12, 2) := by decide +kernel
theorem dL_act_346 : decode cL_act 346 = .ok (.aload_n 0, 1) := by decide +kernel
theorem dL_act_347 : decode cL_act 347 = .ok (.iload 7, 2) := by decide +kernel
theorem dL_act_349 : decode cL_act 349 = .ok (.invokevirtual 127, 3) := by decide +kernel
theorem dL_act_352 : decode cL_act 352 = .ok (.lstore 13, 2) := by decide +kernel
theorem dL_act_354 : decode cL_act 354 = .ok (.aload_n 0, 1) := by decide +kernel
theorem dL_act_355 : decode cL_act 355 = .ok (.iload 7, 2) := by decide +kernel
theorem dL_act_357 : decode cL_act 357 = .ok (.iload 10, 2) := by decide +kernel
theorem dL_act_359 : decode cL_act 359 = .ok (.invokevirtual 188, 3) := by decide +kernel
theorem dL_act_362 : decode cL_act 362 = .ok (.istore 15, 2) := by decide +kernel
theorem dL_act_364 : decode cL_act 364 = .ok (.iconst 0, 1) := by decide +kernel
theorem dL_act_365 : decode cL_act 365 = .ok (.istore 16, 2) := by decide +kernel
theorem dL_act_367 : decode cL_act 367 = .ok (.iconst 0, 1) := by decide +kernel
theorem dL_act_368 : decode cL_act 368 = .ok (.istore 17, 2) := by decide +kernel
theorem dL_act_370 : decode cL_act 370 = .ok (.iload 17, 2) := by decide +kernel
theorem dL_act_372 : decode cL_act 372 = .ok (.iload 5, 2) := by decide +kernel
theorem dL_act_374 : decode cL_act 374 = .ok (.if_icmp .ge 20, 3) := by decide +kernel
theorem dL_act_377 : decode cL_act 377 = .ok (.iload 16, 2) := by decide +kernel
theorem dL_act_379 : decode cL_act 379 = .ok (.aload_n 0, 1) := by decide +kernel
theorem dL_act_380 : decode cL_act 380 = .ok (.iload 17, 2) := by decide +kernel
theorem dL_act_382 : decode cL_act 382 = .ok (.invokevirtual 84, 3) := by decide +kernel
theorem dL_act_385 : decode cL_act 385 = .ok (.iadd, 1) := by decide +kernel
theorem dL_act_386 : decode cL_act 386 = .ok (.istore 16, 2) := by decide +kernel
theorem dL_act_388 : decode cL_act 388 = .ok (.iinc 17 1, 3) := by decide +kernel
theorem dL_act_391 : decode cL_act 391 = .ok (.goto (-21), 3) := by decide +kernel
theorem dL_act_394 : decode cL_act 394 = .ok (.iload 15, 2) := by decide +kernel
theorem dL_act_396 : decode cL_act 396 = .ok (.aload_n 0, 1) := by decide +kernel
theorem dL_act_397 : decode cL_act 397 = .ok (.iload 7, 2) := by decide +kernel
theorem dL_act_399 : decode cL_act 399 = .ok (.invokevirtual 84, 3) := by decide +kernel
theorem dL_act_402 : decode cL_act 402 = .ok (.if_icmp .ne 67, 3) := by decide +kernel
theorem dL_act_405 : decode cL_act 405 = .ok (.iload 15, 2) := by decide +kernel
theorem dL_act_407 : decode cL_act 407 = .ok (.aload_n 0, 1) := by decide +kernel
theorem dL_act_408 : decode cL_act 408 = .ok (.iload 7, 2) := by decide +kernel
theorem dL_act_410 : decode cL_act 410 = .ok (.invokevirtual 36, 3) := by decide +kernel
theorem dL_act_413 : decode cL_act 413 = .ok (.aload_n 0, 1) := by decide +kernel
theorem dL_act_414 : decode cL_act 414 = .ok (.iload 7, 2) := by decide +kernel
theorem dL_act_416 : decode cL_act 416 = .ok (.invokevirtual 75, 3) := by decide +kernel
theorem dL_act_419 : decode cL_act 419 = .ok (.isub, 1) := by decide +kernel
theorem dL_act_420 : decode cL_act 420 = .ok (.if_icmp .ne 49, 3) := by decide +kernel
theorem dL_act_423 : decode cL_act 423 = .ok (.iload 10, 2) := by decide +kernel
theorem dL_act_425 : decode cL_act 425 = .ok (.ifCond .eq 19, 3) := by decide +kernel
theorem dL_act_428 : decode cL_act 428 = .ok (.iload 16, 2) := by decide +kernel
theorem dL_act_430 : decode cL_act 430 = .ok (.iload 11, 2) := by decide +kernel
theorem dL_act_432 : decode cL_act 432 = .ok (.if_icmp .ne 37, 3) := by decide +kernel
theorem dL_act_435 : decode cL_act 435 = .ok (.aload_n 0, 1) := by decide +kernel
theorem dL_act_436 : decode cL_act 436 = .ok (.iload 7, 2) := by decide +kernel
theorem dL_act_438 : decode cL_act 438 = .ok (.invokevirtual 87, 3) := by decide +kernel
theorem dL_act_441 : decode cL_act 441 = .ok (.ifCond .eq 28, 3) := by decide +kernel
theorem dL_act_444 : decode cL_act 444 = .ok (.aload_n 0, 1) := by decide +kernel
theorem dL_act_445 : decode cL_act 445 = .ok (.invokevirtual 140, 3) := by decide +kernel
theorem dL_act_448 : decode cL_act 448 = .ok (.iload 12, 2) := by decide +kernel
theorem dL_act_450 : decode cL_act 450 = .ok (.if_icmp .ne 19, 3) := by decide +kernel
theorem dL_act_453 : decode cL_act 453 = .ok (.aload_n 0, 1) := by decide +kernel
theorem dL_act_454 : decode cL_act 454 = .ok (.iload 7, 2) := by decide +kernel
theorem dL_act_456 : decode cL_act 456 = .ok (.invokevirtual 127, 3) := by decide +kernel
theorem dL_act_459 : decode cL_act 459 = .ok (.lload 13, 2) := by decide +kernel
theorem dL_act_461 : decode cL_act 461 = .ok (.lcmp, 1) := by decide +kernel
theorem dL_act_462 : decode cL_act 462 = .ok (.ifCond .ne 7, 3) := by decide +kernel
theorem dL_act_465 : decode cL_act 465 = .ok (.iconst 1, 1) := by decide +kernel
theorem dL_act_466 : decode cL_act 466 = .ok (.goto 4, 3) := by decide +kernel
theorem dL_act_469 : decode cL_act 469 = .ok (.iconst 0, 1) := by decide +kernel
theorem dL_act_470 : decode cL_act 470 = .ok (.ireturn, 1) := by decide +kernel
theorem dL_act_471 : decode cL_act 471 = .ok (.iload_n 3, 1) := by decide +kernel
theorem dL_act_472 : decode cL_act 472 = .ok (.bipush 19, 2) := by decide +kernel
theorem dL_act_474 : decode cL_act 474 = .ok (.if_icmp .ge 164, 3) := by decide +kernel
theorem dL_act_477 : decode cL_act 477 = .ok (.aload_n 0, 1) := by decide +kernel
theorem dL_act_478 : decode cL_act 478 = .ok (.invokevirtual 40, 3) := by decide +kernel
theorem dL_act_481 : decode cL_act 481 = .ok (.istore 10, 2) := by decide +kernel
theorem dL_act_483 : decode cL_act 483 = .ok (.iload 10, 2) := by decide +kernel
theorem dL_act_485 : decode cL_act 485 = .ok (.bipush 8, 2) := by decide +kernel
theorem dL_act_487 : decode cL_act 487 = .ok (.if_icmp .ne 16, 3) := by decide +kernel
theorem dL_act_490 : decode cL_act 490 = .ok (.aload_n 0, 1) := by decide +kernel
theorem dL_act_491 : decode cL_act 491 = .ok (.invokevirtual 124, 3) := by decide +kernel
theorem dL_act_494 : decode cL_act 494 = .ok (.ifCond .lt 7, 3) := by decide +kernel
theorem dL_act_497 : decode cL_act 497 = .ok (.iconst 1, 1) := by decide +kernel
theorem dL_act_498 : decode cL_act 498 = .ok (.goto 4, 3) := by decide +kernel
theorem dL_act_501 : decode cL_act 501 = .ok (.iconst 0, 1) := by decide +kernel
theorem dL_act_502 : decode cL_act 502 = .ok (.ireturn, 1) := by decide +kernel
theorem dL_act_503 : decode cL_act 503 = .ok (.aload_n 0, 1) := by decide +kernel
theorem dL_act_504 : decode cL_act 504 = .ok (.invokevirtual 140, 3) := by decide +kernel
theorem dL_act_507 : decode cL_act 507 = .ok (.istore 11, 2) := by decide +kernel
theorem dL_act_509 : decode cL_act 509 = .ok (.iload_n 3, 1) := by decide +kernel
theorem dL_act_510 : decode cL_act 510 = .ok (.bipush 15, 2) := by decide +kernel
theorem dL_act_512 : decode cL_act 512 = .ok (.if_icmp .ge 14, 3) := by decide +kernel
theorem dL_act_515 : decode cL_act 515 = .ok (.aload_n 0, 1) := by decide +kernel
theorem dL_act_516 : decode cL_act 516 = .ok (.iload 7, 2) := by decide +kernel
theorem dL_act_518 : decode cL_act 518 = .ok (.iload 8, 2) := by decide +kernel
theorem dL_act_520 : decode cL_act 520 = .ok (.invokevirtual 192, 3) := by decide +kernel
theorem dL_act_523 : decode cL_act 523 = .ok (.goto 28, 3) := by decide +kernel
theorem dL_act_526 : decode cL_act 526 = .ok (.iload_n 3, 1) := by decide +kernel
theorem dL_act_527 : decode cL_act 527 = .ok (.bipush 17, 2) := by decide +kernel
theorem dL_act_529 : decode cL_act 529 = .ok (.if_icmp .ge 14, 3) := by decide +kernel
theorem dL_act_532 : decode cL_act 532 = .ok (.aload_n 0, 1) := by decide +kernel
theorem dL_act_533 : decode cL_act 533 = .ok (.iload 7, 2) := by decide +kernel
theorem dL_act_535 : decode cL_act 535 = .ok (.iload 8, 2) := by decide +kernel
theorem dL_act_537 : decode cL_act 537 = .ok (.invokevirtual 195, 3) := by decide +kernel
theorem dL_act_540 : decode cL_act 540 = .ok (.goto 11, 3) := by decide +kernel
theorem dL_act_543 : decode cL_act 543 = .ok (.aload_n 0, 1) := by decide +kernel
theorem dL_act_544 : decode cL_act 544 = .ok (.iload 7, 2) := by decide +kernel
theorem dL_act_546 : decode cL_act 546 = .ok (.iload 8, 2) := by decide +kernel
theorem dL_act_548 : decode cL_act 548 = .ok (.invokevirtual 198, 3) := by decide +kernel
theorem dL_act_551 : decode cL_act 551 = .ok (.istore 12, 2) := by decide +kernel
theorem dL_act_553 : decode cL_act 553 = .ok (.iload 12, 2) := by decide +kernel
theorem dL_act_555 : decode cL_act 555 = .ok (.iload 11, 2) := by decide +kernel
theorem dL_act_557 : decode cL_act 557 = .ok (.if_icmp .gt 79, 3) := by decide +kernel
theorem dL_act_560 : decode cL_act 560 = .ok (.iload 12, 2) := by decide +kernel
theorem dL_act_562 : decode cL_act 562 = .ok (.aload_n 0, 1) := by decide +kernel
theorem dL_act_563 : decode cL_act 563 = .ok (.invokevirtual 140, 3) := by decide +kernel
theorem dL_act_566 : decode cL_act 566 = .ok (.if_icmp .ne 70, 3) := by decide +kernel
theorem dL_act_569 : decode cL_act 569 = .ok (.aload_n 0, 1) := by decide +kernel
theorem dL_act_570 : decode cL_act 570 = .ok (.invokevirtual 40, 3) := by decide +kernel
theorem dL_act_573 : decode cL_act 573 = .ok (.iload 10, 2) := by decide +kernel
theorem dL_act_575 : decode cL_act 575 = .ok (.iconst 1, 1) := by decide +kernel
theorem dL_act_576 : decode cL_act 576 = .ok (.iadd, 1) := by decide +kernel
theorem dL_act_577 : decode cL_act 577 = .ok (.if_icmp .ne 59, 3) := by decide +kernel
theorem dL_act_580 : decode cL_act 580 = .ok (.aload_n 0, 1) := by decide +kernel
theorem dL_act_581 : decode cL_act 581 = .ok (.iload 10, 2) := by decide +kernel
theorem dL_act_583 : decode cL_act 583 = .ok (.invokevirtual 50, 3) := by decide +kernel
theorem dL_act_586 : decode cL_act 586 = .ok (.iload 7, 2) := by decide +kernel
theorem dL_act_588 : decode cL_act 588 = .ok (.if_icmp .ne 48, 3) := by decide +kernel
theorem dL_act_591 : decode cL_act 591 = .ok (.aload_n 0, 1) := by decide +kernel
theorem dL_act_592 : decode cL_act 592 = .ok (.iload 10, 2) := by decide +kernel
theorem dL_act_594 : decode cL_act 594 = .ok (.invokevirtual 53, 3) := by decide +kernel
theorem dL_act_597 : decode cL_act 597 = .ok (.iload 8, 2) := by decide +kernel
theorem dL_act_599 : decode cL_act 599 = .ok (.if_icmp .ne 37, 3) := by decide +kernel
theorem dL_act_602 : decode cL_act 602 = .ok (.aload_n 0, 1) := by decide +kernel
theorem dL_act_603 : decode cL_act 603 = .ok (.iload 10, 2) := by decide +kernel
theorem dL_act_605 : decode cL_act 605 = .ok (.invokevirtual 56, 3) := by decide +kernel
theorem dL_act_608 : decode cL_act 608 = .ok (.iload_n 3, 1) := by decide +kernel
theorem dL_act_609 : decode cL_act 609 = .ok (.bipush 15, 2) := by decide +kernel
theorem dL_act_611 : decode cL_act 611 = .ok (.if_icmp .ge 7, 3) := by decide +kernel
theorem dL_act_614 : decode cL_act 614 = .ok (.iconst (-1), 1) := by decide +kernel
theorem dL_act_615 : decode cL_act 615 = .ok (.goto 14, 3) := by decide +kernel
theorem dL_act_618 : decode cL_act 618 = .ok (.iload_n 3, 1) := by decide +kernel
theorem dL_act_619 : decode cL_act 619 = .ok (.bipush 17, 2) := by decide +kernel
theorem dL_act_621 : decode cL_act 621 = .ok (.if_icmp .ge 7, 3) := by decide +kernel
theorem dL_act_624 : decode cL_act 624 = .ok (.iconst 0, 1) := by decide +kernel
theorem dL_act_625 : decode cL_act 625 = .ok (.goto 4, 3) := by decide +kernel
theorem dL_act_628 : decode cL_act 628 = .ok (.iconst 1, 1) := by decide +kernel
theorem dL_act_629 : decode cL_act 629 = .ok (.if_icmp .ne 7, 3) := by decide +kernel
theorem dL_act_632 : decode cL_act 632 = .ok (.iconst 1, 1) := by decide +kernel
theorem dL_act_633 : decode cL_act 633 = .ok (.goto 4, 3) := by decide +kernel
theorem dL_act_636 : decode cL_act 636 = .ok (.iconst 0, 1) := by decide +kernel
theorem dL_act_637 : decode cL_act 637 = .ok (.ireturn, 1) := by decide +kernel
theorem dL_act_638 : decode cL_act 638 = .ok (.iload_n 3, 1) := by decide +kernel
theorem dL_act_639 : decode cL_act 639 = .ok (.bipush 22, 2) := by decide +kernel
theorem dL_act_641 : decode cL_act 641 = .ok (.if_icmp .ge 81, 3) := by decide +kernel
theorem dL_act_644 : decode cL_act 644 = .ok (.aload_n 0, 1) := by decide +kernel
theorem dL_act_645 : decode cL_act 645 = .ok (.invokevirtual 40, 3) := by decide +kernel
theorem dL_act_648 : decode cL_act 648 = .ok (.istore 10, 2) := by decide +kernel
theorem dL_act_650 : decode cL_act 650 = .ok (.iload 10, 2) := by decide +kernel
theorem dL_act_652 : decode cL_act 652 = .ok (.ifCond .ne 18, 3) := by decide +kernel
theorem dL_act_655 : decode cL_act 655 = .ok (.aload_n 0, 1) := by decide +kernel
theorem dL_act_656 : decode cL_act 656 = .ok (.invokevirtual 140, 3) := by decide +kernel
theorem dL_act_659 : decode cL_act 659 = .ok (.iload 6, 2) := by decide +kernel
theorem dL_act_661 : decode cL_act 661 = .ok (.if_icmp .ne 7, 3) := by decide +kernel
theorem dL_act_664 : decode cL_act 664 = .ok (.iconst 1, 1) := by decide +kernel
theorem dL_act_665 : decode cL_act 665 = .ok (.goto 4, 3) := by decide +kernel
theorem dL_act_668 : decode cL_act 668 = .ok (.iconst 0, 1) := by decide +kernel
theorem dL_act_669 : decode cL_act 669 = .ok (.ireturn, 1) := by decide +kernel
theorem dL_act_670 : decode cL_act 670 = .ok (.aload_n 0, 1) := by decide +kernel
theorem dL_act_671 : decode cL_act 671 = .ok (.invokevirtual 140, 3) := by decide +kernel
theorem dL_act_674 : decode cL_act 674 = .ok (.istore 11, 2) := by decide +kernel
theorem dL_act_676 : decode cL_act 676 = .ok (.aload_n 0, 1) := by decide +kernel
theorem dL_act_677 : decode cL_act 677 = .ok (.iload 4, 2) := by decide +kernel
theorem dL_act_679 : decode cL_act 679 = .ok (.iload 10, 2) := by decide +kernel
theorem dL_act_681 : decode cL_act 681 = .ok (.invokestatic 146, 3) := by decide +kernel
theorem dL_act_684 : decode cL_act 684 = .ok (.invokevirtual 201, 3) := by decide +kernel
theorem dL_act_687 : decode cL_act 687 = .ok (.istore 12, 2) := by decide +kernel
theorem dL_act_689 : decode cL_act 689 = .ok (.iload 12, 2) := by decide +kernel
theorem dL_act_691 : decode cL_act 691 = .ok (.iload 11, 2) := by decide +kernel
theorem dL_act_693 : decode cL_act 693 = .ok (.if_icmp .lt 27, 3) := by decide +kernel
theorem dL_act_696 : decode cL_act 696 = .ok (.iload 12, 2) := by decide +kernel
theorem dL_act_698 : decode cL_act 698 = .ok (.aload_n 0, 1) := by decide +kernel
theorem dL_act_699 : decode cL_act 699 = .ok (.invokevirtual 140, 3) := by decide +kernel
theorem dL_act_702 : decode cL_act 702 = .ok (.if_icmp .ne 18, 3) := by decide +kernel
theorem dL_act_705 : decode cL_act 705 = .ok (.aload_n 0, 1) := by decide +kernel
theorem dL_act_706 : decode cL_act 706 = .ok (.invokevirtual 40, 3) := by decide +kernel
theorem dL_act_709 : decode cL_act 709 = .ok (.iload 10, 2) := by decide +kernel
theorem dL_act_711 : decode cL_act 711 = .ok (.iconst 1, 1) := by decide +kernel
theorem dL_act_712 : decode cL_act 712 = .ok (.isub, 1) := by decide +kernel
theorem dL_act_713 : decode cL_act 713 = .ok (.if_icmp .ne 7, 3) := by decide +kernel
theorem dL_act_716 : decode cL_act 716 = .ok (.iconst 1, 1) := by decide +kernel
theorem dL_act_717 : decode cL_act 717 = .ok (.goto 4, 3) := by decide +kernel
theorem dL_act_720 : decode cL_act 720 = .ok (.iconst 0, 1) := by decide +kernel
theorem dL_act_721 : decode cL_act 721 = .ok (.ireturn, 1) := by decide +kernel
theorem dL_act_722 : decode cL_act 722 = .ok (.iload_n 3, 1) := by decide +kernel
theorem dL_act_723 : decode cL_act 723 = .ok (.bipush 22, 2) := by decide +kernel
theorem dL_act_725 : decode cL_act 725 = .ok (.if_icmp .ne 65, 3) := by decide +kernel
theorem dL_act_728 : decode cL_act 728 = .ok (.aload_n 0, 1) := by decide +kernel
theorem dL_act_729 : decode cL_act 729 = .ok (.invokevirtual 40, 3) := by decide +kernel
theorem dL_act_732 : decode cL_act 732 = .ok (.ifCond .ne 18, 3) := by decide +kernel
theorem dL_act_735 : decode cL_act 735 = .ok (.aload_n 0, 1) := by decide +kernel
theorem dL_act_736 : decode cL_act 736 = .ok (.invokevirtual 140, 3) := by decide +kernel
theorem dL_act_739 : decode cL_act 739 = .ok (.iload 6, 2) := by decide +kernel
theorem dL_act_741 : decode cL_act 741 = .ok (.if_icmp .ne 7, 3) := by decide +kernel
theorem dL_act_744 : decode cL_act 744 = .ok (.iconst 1, 1) := by decide +kernel
theorem dL_act_745 : decode cL_act 745 = .ok (.goto 4, 3) := by decide +kernel
theorem dL_act_748 : decode cL_act 748 = .ok (.iconst 0, 1) := by decide +kernel
theorem dL_act_749 : decode cL_act 749 = .ok (.ireturn, 1) := by decide +kernel
theorem dL_act_750 : decode cL_act 750 = .ok (.aload_n 0, 1) := by decide +kernel
theorem dL_act_751 : decode cL_act 751 = .ok (.invokevirtual 140, 3) := by decide +kernel
theorem dL_act_754 : decode cL_act 754 = .ok (.istore 10, 2) := by decide +kernel
theorem dL_act_756 : decode cL_act 756 = .ok (.aload_n 0, 1) := by decide +kernel
theorem dL_act_757 : decode cL_act 757 = .ok (.invokevirtual 149, 3) := by decide +kernel
theorem dL_act_760 : decode cL_act 760 = .ok (.iload 10, 2) := by decide +kernel
theorem dL_act_762 : decode cL_act 762 = .ok (.if_icmp .ne 26, 3) := by decide +kernel
theorem dL_act_765 : decode cL_act 765 = .ok (.aload_n 0, 1) := by decide +kernel
theorem dL_act_766 : decode cL_act 766 = .ok (.invokevirtual 33, 3) := by decide +kernel
theorem dL_act_769 : decode cL_act 769 = .ok (.iload 6, 2) := by decide +kernel
theorem dL_act_771 : decode cL_act 771 = .ok (.iload 10, 2) := by decide +kernel
theorem dL_act_773 : decode cL_act 773 = .ok (.isub, 1) := by decide +kernel
theorem dL_act_774 : decode cL_act 774 = .ok (.if_icmp .ne 14, 3) := by decide +kernel
theorem dL_act_777 : decode cL_act 777 = .ok (.aload_n 0, 1) := by decide +kernel
theorem dL_act_778 : decode cL_act 778 = .ok (.invokevirtual 140, 3) := by decide +kernel
theorem dL_act_781 : decode cL_act 781 = .ok (.ifCond .ne 7, 3) := by decide +kernel
theorem dL_act_784 : decode cL_act 784 = .ok (.iconst 1, 1) := by decide +kernel
theorem dL_act_785 : decode cL_act 785 = .ok (.goto 4, 3) := by decide +kernel
theorem dL_act_788 : decode cL_act 788 = .ok (.iconst 0, 1) := by decide +kernel
theorem dL_act_789 : decode cL_act 789 = .ok (.ireturn, 1) := by decide +kernel
theorem dL_act_790 : decode cL_act 790 = .ok (.iload_n 3, 1) := by decide +kernel
theorem dL_act_791 : decode cL_act 791 = .ok (.bipush 23, 2) := by decide +kernel
theorem dL_act_793 : decode cL_act 793 = .ok (.if_icmp .ne 33, 3) := by decide +kernel
theorem dL_act_796 : decode cL_act 796 = .ok (.aload_n 0, 1) := by decide +kernel
theorem dL_act_797 : decode cL_act 797 = .ok (.iload 9, 2) := by decide +kernel
theorem dL_act_799 : decode cL_act 799 = .ok (.invokevirtual 204, 3) := by decide +kernel
theorem dL_act_802 : decode cL_act 802 = .ok (.iload 6, 2) := by decide +kernel
theorem dL_act_804 : decode cL_act 804 = .ok (.iconst 1, 1) := by decide +kernel
theorem dL_act_805 : decode cL_act 805 = .ok (.isub, 1) := by decide +kernel
theorem dL_act_806 : decode cL_act 806 = .ok (.if_icmp .ne 18, 3) := by decide +kernel
theorem dL_act_809 : decode cL_act 809 = .ok (.aload_n 0, 1) := by decide +kernel
theorem dL_act_810 : decode cL_act 810 = .ok (.invokevirtual 33, 3) := by decide +kernel
theorem dL_act_813 : decode cL_act 813 = .ok (.iload 6, 2) := by decide +kernel
theorem dL_act_815 : decode cL_act 815 = .ok (.iconst 1, 1) := by decide +kernel
theorem dL_act_816 : decode cL_act 816 = .ok (.isub, 1) := by decide +kernel
theorem dL_act_817 : decode cL_act 817 = .ok (.if_icmp .ne 7, 3) := by decide +kernel
theorem dL_act_820 : decode cL_act 820 = .ok (.iconst 1, 1) := by decide +kernel
theorem dL_act_821 : decode cL_act 821 = .ok (.goto 4, 3) := by decide +kernel
theorem dL_act_824 : decode cL_act 824 = .ok (.iconst 0, 1) := by decide +kernel
theorem dL_act_825 : decode cL_act 825 = .ok (.ireturn, 1) := by decide +kernel
theorem dL_act_826 : decode cL_act 826 = .ok (.aload_n 0, 1) := by decide +kernel
theorem dL_act_827 : decode cL_act 827 = .ok (.iload 7, 2) := by decide +kernel
theorem dL_act_829 : decode cL_act 829 = .ok (.invokevirtual 75, 3) := by decide +kernel
theorem dL_act_832 : decode cL_act 832 = .ok (.istore 10, 2) := by decide +kernel
theorem dL_act_834 : decode cL_act 834 = .ok (.aload_n 0, 1) := by decide +kernel
theorem dL_act_835 : decode cL_act 835 = .ok (.iload 7, 2) := by decide +kernel
theorem dL_act_837 : decode cL_act 837 = .ok (.invokevirtual 36, 3) := by decide +kernel
theorem dL_act_840 : decode cL_act 840 = .ok (.istore 11, 2) := by decide +kernel
theorem dL_act_842 : decode cL_act 842 = .ok (.aload_n 0, 1) := by decide +kernel
theorem dL_act_843 : decode cL_act 843 = .ok (.iload 7, 2) := by decide +kernel
theorem dL_act_845 : decode cL_act 845 = .ok (.invokevirtual 81, 3) := by decide +kernel
theorem dL_act_848 : decode cL_act 848 = .ok (.istore 12, 2) := by decide +kernel
theorem dL_act_850 : decode cL_act 850 = .ok (.aload_n 0, 1) := by decide +kernel
theorem dL_act_851 : decode cL_act 851 = .ok (.iload 7, 2) := by decide +kernel
theorem dL_act_853 : decode cL_act 853 = .ok (.iload 9, 2) := by decide +kernel
theorem dL_act_855 : decode cL_act 855 = .ok (.invokevirtual 43, 3) := by decide +kernel
theorem dL_act_858 : decode cL_act 858 = .ok (.istore 13, 2) := by decide +kernel
theorem dL_act_860 : decode cL_act 860 = .ok (.aload_n 0, 1) := by decide +kernel
theorem dL_act_861 : decode cL_act 861 = .ok (.iload 7, 2) := by decide +kernel
theorem dL_act_863 : decode cL_act 863 = .ok (.invokevirtual 207, 3) := by decide +kernel
theorem dL_act_866 : decode cL_act 866 = .ok (.iload 10, 2) := by decide +kernel
theorem dL_act_868 : decode cL_act 868 = .ok (.if_icmp .ne 54, 3) := by decide +kernel
theorem dL_act_871 : decode cL_act 871 = .ok (.aload_n 0, 1) := by decide +kernel
theorem dL_act_872 : decode cL_act 872 = .ok (.iload 7, 2) := by decide +kernel
theorem dL_act_874 : decode cL_act 874 = .ok (.invokevirtual 36, 3) := by decide +kernel
theorem dL_act_877 : decode cL_act 877 = .ok (.iload 11, 2) := by decide +kernel
theorem dL_act_879 : decode cL_act 879 = .ok (.iload 10, 2) := by decide +kernel
theorem dL_act_881 : decode cL_act 881 = .ok (.isub, 1) := by decide +kernel
theorem dL_act_882 : decode cL_act 882 = .ok (.if_icmp .ne 40, 3) := by decide +kernel
theorem dL_act_885 : decode cL_act 885 = .ok (.aload_n 0, 1) := by decide +kernel
theorem dL_act_886 : decode cL_act 886 = .ok (.iload 7, 2) := by decide +kernel
theorem dL_act_888 : decode cL_act 888 = .ok (.invokevirtual 59, 3) := by decide +kernel
theorem dL_act_891 : decode cL_act 891 = .ok (.iload 12, 2) := by decide +kernel
theorem dL_act_893 : decode cL_act 893 = .ok (.if_icmp .ne 29, 3) := by decide +kernel
theorem dL_act_896 : decode cL_act 896 = .ok (.aload_n 0, 1) := by decide +kernel
theorem dL_act_897 : decode cL_act 897 = .ok (.iload 7, 2) := by decide +kernel
theorem dL_act_899 : decode cL_act 899 = .ok (.invokevirtual 75, 3) := by decide +kernel
theorem dL_act_902 : decode cL_act 902 = .ok (.ifCond .ne 20, 3) := by decide +kernel
theorem dL_act_905 : decode cL_act 905 = .ok (.aload_n 0, 1) := by decide +kernel
theorem dL_act_906 : decode cL_act 906 = .ok (.iload 7, 2) := by decide +kernel
theorem dL_act_908 : decode cL_act 908 = .ok (.iload 9, 2) := by decide +kernel
theorem dL_act_910 : decode cL_act 910 = .ok (.invokevirtual 43, 3) := by decide +kernel
theorem dL_act_913 : decode cL_act 913 = .ok (.iload 13, 2) := by decide +kernel
theorem dL_act_915 : decode cL_act 915 = .ok (.if_icmp .ne 7, 3) := by decide +kernel
theorem dL_act_918 : decode cL_act 918 = .ok (.iconst 1, 1) := by decide +kernel
theorem dL_act_919 : decode cL_act 919 = .ok (.goto 4, 3) := by decide +kernel
theorem dL_act_922 : decode cL_act 922 = .ok (.iconst 0, 1) := by decide +kernel
theorem dL_act_923 : decode cL_act 923 = .ok (.ireturn, 1) := by decide +kernel
theorem dL_law_0 : decode cL_law 0 = .ok (.new 9, 3) := by decide +kernel
theorem dL_law_3 : decode cL_law 3 = .ok (.dup, 1) := by decide +kernel
theorem dL_law_4 : decode cL_law 4 = .ok (.invokespecial 210, 3) := by decide +kernel
theorem dL_law_7 : decode cL_law 7 = .ok (.astore_n 1, 1) := by decide +kernel
theorem dL_law_8 : decode cL_law 8 = .ok (.bipush 6, 2) := by decide +kernel
theorem dL_law_10 : decode cL_law 10 = .ok (.newarray .int, 2) := by decide +kernel
theorem dL_law_12 : decode cL_law 12 = .ok (.astore_n 2, 1) := by decide +kernel
theorem dL_law_13 : decode cL_law 13 = .ok (.aload_n 0, 1) := by decide +kernel
theorem dL_law_14 : decode cL_law 14 = .ok (.iconst 0, 1) := by decide +kernel
theorem dL_law_15 : decode cL_law 15 = .ok (.invokestatic 211, 3) := by decide +kernel
theorem dL_law_18 : decode cL_law 18 = .ok (.istore_n 3, 1) := by decide +kernel
theorem dL_law_19 : decode cL_law 19 = .ok (.iconst 1, 1) := by decide +kernel
theorem dL_law_20 : decode cL_law 20 = .ok (.iload_n 3, 1) := by decide +kernel
theorem dL_law_21 : decode cL_law 21 = .ok (.iconst 4, 1) := by decide +kernel
theorem dL_law_22 : decode cL_law 22 = .ok (.invokestatic 146, 3) := by decide +kernel
theorem dL_law_25 : decode cL_law 25 = .ok (.iadd, 1) := by decide +kernel
theorem dL_law_26 : decode cL_law 26 = .ok (.istore 4, 2) := by decide +kernel
theorem dL_law_28 : decode cL_law 28 = .ok (.iload_n 3, 1) := by decide +kernel
theorem dL_law_29 : decode cL_law 29 = .ok (.iconst 2, 1) := by decide +kernel
theorem dL_law_30 : decode cL_law 30 = .ok (.ishr, 1) := by decide +kernel
theorem dL_law_31 : decode cL_law 31 = .ok (.bipush 12, 2) := by decide +kernel
theorem dL_law_33 : decode cL_law 33 = .ok (.invokestatic 146, 3) := by decide +kernel
theorem dL_law_36 : decode cL_law 36 = .ok (.istore 5, 2) := by decide +kernel
theorem dL_law_38 : decode cL_law 38 = .ok (.new 152, 3) := by decide +kernel
theorem dL_law_41 : decode cL_law 41 = .ok (.dup, 1) := by decide +kernel
theorem dL_law_42 : decode cL_law 42 = .ok (.ldc 215, 2) := by decide +kernel
theorem dL_law_44 : decode cL_law 44 = .ok (.invokespecial 217, 3) := by decide +kernel
theorem dL_law_47 : decode cL_law 47 = .ok (.iload 4, 2) := by decide +kernel
theorem dL_law_49 : decode cL_law 49 = .ok (.invokevirtual 163, 3) := by decide +kernel
theorem dL_law_52 : decode cL_law 52 = .ok (.bipush 59, 2) := by decide +kernel
theorem dL_law_54 : decode cL_law 54 = .ok (.invokevirtual 220, 3) := by decide +kernel
theorem dL_law_57 : decode cL_law 57 = .ok (.astore 6, 2) := by decide +kernel
theorem dL_law_59 : decode cL_law 59 = .ok (.iconst 0, 1) := by decide +kernel
theorem dL_law_60 : decode cL_law 60 = .ok (.istore 7, 2) := by decide +kernel
theorem dL_law_62 : decode cL_law 62 = .ok (.iload 7, 2) := by decide +kernel
theorem dL_law_64 : decode cL_law 64 = .ok (.iload 5, 2) := by decide +kernel
theorem dL_law_66 : decode cL_law 66 = .ok (.if_icmp .ge 79, 3) := by decide +kernel
theorem dL_law_69 : decode cL_law 69 = .ok (.iconst 0, 1) := by decide +kernel
theorem dL_law_70 : decode cL_law 70 = .ok (.istore 8, 2) := by decide +kernel
theorem dL_law_72 : decode cL_law 72 = .ok (.iload 8, 2) := by decide +kernel
theorem dL_law_74 : decode cL_law 74 = .ok (.iload 4, 2) := by decide +kernel
theorem dL_law_76 : decode cL_law 76 = .ok (.if_icmp .ge 55, 3) := by decide +kernel
theorem dL_law_79 : decode cL_law 79 = .ok (.aload 6, 2) := by decide +kernel
theorem dL_law_81 : decode cL_law 81 = .ok (.iload 8, 2) := by decide +kernel
theorem dL_law_83 : decode cL_law 83 = .ok (.ifCond .le 8, 3) := by decide +kernel
theorem dL_law_86 : decode cL_law 86 = .ok (.ldc 155, 2) := by decide +kernel
theorem dL_law_88 : decode cL_law 88 = .ok (.goto 5, 3) := by decide +kernel
theorem dL_law_91 : decode cL_law 91 = .ok (.ldc 157, 2) := by decide +kernel
theorem dL_law_93 : decode cL_law 93 = .ok (.invokevirtual 159, 3) := by decide +kernel
theorem dL_law_96 : decode cL_law 96 = .ok (.aload_n 0, 1) := by decide +kernel
theorem dL_law_97 : decode cL_law 97 = .ok (.iconst 1, 1) := by decide +kernel
theorem dL_law_98 : decode cL_law 98 = .ok (.iload 7, 2) := by decide +kernel
theorem dL_law_100 : decode cL_law 100 = .ok (.iadd, 1) := by decide +kernel
theorem dL_law_101 : decode cL_law 101 = .ok (.invokestatic 211, 3) := by decide +kernel
theorem dL_law_104 : decode cL_law 104 = .ok (.iload 8, 2) := by decide +kernel
theorem dL_law_106 : decode cL_law 106 = .ok (.iconst 2, 1) := by decide +kernel
theorem dL_law_107 : decode cL_law 107 = .ok (.imul, 1) := by decide +kernel
theorem dL_law_108 : decode cL_law 108 = .ok (.ishr, 1) := by decide +kernel
theorem dL_law_109 : decode cL_law 109 = .ok (.iconst 3, 1) := by decide +kernel
theorem dL_law_110 : decode cL_law 110 = .ok (.iload 8, 2) := by decide +kernel
theorem dL_law_112 : decode cL_law 112 = .ok (.imul, 1) := by decide +kernel
theorem dL_law_113 : decode cL_law 113 = .ok (.iadd, 1) := by decide +kernel
theorem dL_law_114 : decode cL_law 114 = .ok (.bipush 9, 2) := by decide +kernel
theorem dL_law_116 : decode cL_law 116 = .ok (.invokestatic 146, 3) := by decide +kernel
theorem dL_law_119 : decode cL_law 119 = .ok (.iconst 4, 1) := by decide +kernel
theorem dL_law_120 : decode cL_law 120 = .ok (.isub, 1) := by decide +kernel
theorem dL_law_121 : decode cL_law 121 = .ok (.invokevirtual 163, 3) := by decide +kernel
theorem dL_law_124 : decode cL_law 124 = .ok (.pop, 1) := by decide +kernel
theorem dL_law_125 : decode cL_law 125 = .ok (.iinc 8 1, 3) := by decide +kernel
theorem dL_law_128 : decode cL_law 128 = .ok (.goto (-56), 3) := by decide +kernel
theorem dL_law_131 : decode cL_law 131 = .ok (.aload 6, 2) := by decide +kernel
theorem dL_law_133 : decode cL_law 133 = .ok (.bipush 59, 2) := by decide +kernel
theorem dL_law_135 : decode cL_law 135 = .ok (.invokevirtual 220, 3) := by decide +kernel
theorem dL_law_138 : decode cL_law 138 = .ok (.pop, 1) := by decide +kernel
theorem dL_law_139 : decode cL_law 139 = .ok (.iinc 7 1, 3) := by decide +kernel
theorem dL_law_142 : decode cL_law 142 = .ok (.goto (-80), 3) := by decide +kernel
theorem dL_law_145 : decode cL_law 145 = .ok (.aload_n 1, 1) := by decide +kernel
theorem dL_law_146 : decode cL_law 146 = .ok (.aload_n 2, 1) := by decide +kernel
theorem dL_law_147 : decode cL_law 147 = .ok (.aload 6, 2) := by decide +kernel
theorem dL_law_149 : decode cL_law 149 = .ok (.invokevirtual 166, 3) := by decide +kernel
theorem dL_law_152 : decode cL_law 152 = .ok (.invokestatic 170, 3) := by decide +kernel
theorem dL_law_155 : decode cL_law 155 = .ok (.aload_n 1, 1) := by decide +kernel
theorem dL_law_156 : decode cL_law 156 = .ok (.aload_n 1, 1) := by decide +kernel
theorem dL_law_157 : decode cL_law 157 = .ok (.aload_n 2, 1) := by decide +kernel
theorem dL_law_158 : decode cL_law 158 = .ok (.invokestatic 174, 3) := by decide +kernel
theorem dL_law_161 : decode cL_law 161 = .ok (.invokevirtual 223, 3) := by decide +kernel
theorem dL_law_164 : decode cL_law 164 = .ok (.iload 5, 2) := by decide +kernel
theorem dL_law_166 : decode cL_law 166 = .ok (.if_icmp .ne 10, 3) := by decide +kernel
theorem dL_law_169 : decode cL_law 169 = .ok (.aload_n 1, 1) := by decide +kernel
theorem dL_law_170 : decode cL_law 170 = .ok (.invokevirtual 226, 3) := by decide +kernel
theorem dL_law_173 : decode cL_law 173 = .ok (.ifCond .eq 5, 3) := by decide +kernel
theorem dL_law_176 : decode cL_law 176 = .ok (.iconst 0, 1) := by decide +kernel
theorem dL_law_177 : decode cL_law 177 = .ok (.ireturn, 1) := by decide +kernel
theorem dL_law_178 : decode cL_law 178 = .ok (.iconst 0, 1) := by decide +kernel
theorem dL_law_179 : decode cL_law 179 = .ok (.istore 7, 2) := by decide +kernel
theorem dL_law_181 : decode cL_law 181 = .ok (.iload 7, 2) := by decide +kernel
theorem dL_law_183 : decode cL_law 183 = .ok (.bipush 36, 2) := by decide +kernel
theorem dL_law_185 : decode cL_law 185 = .ok (.if_icmp .ge 175, 3) := by decide +kernel
theorem dL_law_188 : decode cL_law 188 = .ok (.aload_n 0, 1) := by decide +kernel
theorem dL_law_189 : decode cL_law 189 = .ok (.bipush 8, 2) := by decide +kernel
theorem dL_law_191 : decode cL_law 191 = .ok (.iload 7, 2) := by decide +kernel
theorem dL_law_193 : decode cL_law 193 = .ok (.bipush 28, 2) := by decide +kernel
theorem dL_law_195 : decode cL_law 195 = .ok (.irem, 1) := by decide +kernel
theorem dL_law_196 : decode cL_law 196 = .ok (.iadd, 1) := by decide +kernel
theorem dL_law_197 : decode cL_law 197 = .ok (.invokestatic 211, 3) := by decide +kernel
theorem dL_law_200 : decode cL_law 200 = .ok (.iload 7, 2) := by decide +kernel
theorem dL_law_202 : decode cL_law 202 = .ok (.bipush 28, 2) := by decide +kernel
theorem dL_law_204 : decode cL_law 204 = .ok (.idiv, 1) := by decide +kernel
theorem dL_law_205 : decode cL_law 205 = .ok (.iconst 2, 1) := by decide +kernel
theorem dL_law_206 : decode cL_law 206 = .ok (.imul, 1) := by decide +kernel
theorem dL_law_207 : decode cL_law 207 = .ok (.ishr, 1) := by decide +kernel
theorem dL_law_208 : decode cL_law 208 = .ok (.istore 8, 2) := by decide +kernel
theorem dL_law_210 : decode cL_law 210 = .ok (.iload 7, 2) := by decide +kernel
theorem dL_law_212 : decode cL_law 212 = .ok (.iconst 3, 1) := by decide +kernel
theorem dL_law_213 : decode cL_law 213 = .ok (.irem, 1) := by decide +kernel
theorem dL_law_214 : decode cL_law 214 = .ok (.ifCond .ne 10, 3) := by decide +kernel
theorem dL_law_217 : decode cL_law 217 = .ok (.aload_n 1, 1) := by decide +kernel
theorem dL_law_218 : decode cL_law 218 = .ok (.invokestatic 229, 3) := by decide +kernel
theorem dL_law_221 : decode cL_law 221 = .ok (.ifCond .eq 10, 3) := by decide +kernel
theorem dL_law_224 : decode cL_law 224 = .ok (.aload_n 1, 1) := by decide +kernel
theorem dL_law_225 : decode cL_law 225 = .ok (.invokestatic 233, 3) := by decide +kernel
theorem dL_law_228 : decode cL_law 228 = .ok (.ifCond .ne 5, 3) := by decide +kernel
theorem dL_law_231 : decode cL_law 231 = .ok (.iconst 0, 1) := by decide +kernel
theorem dL_law_232 : decode cL_law 232 = .ok (.ireturn, 1) := by decide +kernel
theorem dL_law_233 : decode cL_law 233 = .ok (.aload_n 1, 1) := by decide +kernel
theorem dL_law_234 : decode cL_law 234 = .ok (.invokestatic 236, 3) := by decide +kernel
theorem dL_law_237 : decode cL_law 237 = .ok (.astore 9, 2) := by decide +kernel
theorem dL_law_239 : decode cL_law 239 = .ok (.aload_n 1, 1) := by decide +kernel
theorem dL_law_240 : decode cL_law 240 = .ok (.invokevirtual 226, 3) := by decide +kernel
theorem dL_law_243 : decode cL_law 243 = .ok (.istore 10, 2) := by decide +kernel
theorem dL_law_245 : decode cL_law 245 = .ok (.aload_n 1, 1) := by decide +kernel
theorem dL_law_246 : decode cL_law 246 = .ok (.aload_n 2, 1) := by decide +kernel
theorem dL_law_247 : decode cL_law 247 = .ok (.iload 8, 2) := by decide +kernel
theorem dL_law_249 : decode cL_law 249 = .ok (.invokestatic 240, 3) := by decide +kernel
theorem dL_law_252 : decode cL_law 252 = .ok (.ifCond .ne 5, 3) := by decide +kernel
theorem dL_law_255 : decode cL_law 255 = .ok (.iconst 0, 1) := by decide +kernel
theorem dL_law_256 : decode cL_law 256 = .ok (.ireturn, 1) := by decide +kernel
theorem dL_law_257 : decode cL_law 257 = .ok (.aload_n 1, 1) := by decide +kernel
theorem dL_law_258 : decode cL_law 258 = .ok (.invokestatic 236, 3) := by decide +kernel
theorem dL_law_261 : decode cL_law 261 = .ok (.astore 11, 2) := by decide +kernel
theorem dL_law_263 : decode cL_law 263 = .ok (.aload_n 1, 1) := by decide +kernel
theorem dL_law_264 : decode cL_law 264 = .ok (.invokevirtual 226, 3) := by decide +kernel
theorem dL_law_267 : decode cL_law 267 = .ok (.iload 10, 2) := by decide +kernel
theorem dL_law_269 : decode cL_law 269 = .ok (.iconst 1, 1) := by decide +kernel
theorem dL_law_270 : decode cL_law 270 = .ok (.iadd, 1) := by decide +kernel
theorem dL_law_271 : decode cL_law 271 = .ok (.if_icmp .ne 55, 3) := by decide +kernel
theorem dL_law_274 : decode cL_law 274 = .ok (.iload 7, 2) := by decide +kernel
theorem dL_law_276 : decode cL_law 276 = .ok (.iconst 3, 1) := by decide +kernel
theorem dL_law_277 : decode cL_law 277 = .ok (.irem, 1) := by decide +kernel
theorem dL_law_278 : decode cL_law 278 = .ok (.ifCond .ne 48, 3) := by decide +kernel
theorem dL_law_281 : decode cL_law 281 = .ok (.aload_n 1, 1) := by decide +kernel
theorem dL_law_282 : decode cL_law 282 = .ok (.invokevirtual 244, 3) := by decide +kernel
theorem dL_law_285 : decode cL_law 285 = .ok (.iload 10, 2) := by decide +kernel
theorem dL_law_287 : decode cL_law 287 = .ok (.if_icmp .ne 37, 3) := by decide +kernel
theorem dL_law_290 : decode cL_law 290 = .ok (.aload_n 1, 1) := by decide +kernel
theorem dL_law_291 : decode cL_law 291 = .ok (.invokestatic 236, 3) := by decide +kernel
theorem dL_law_294 : decode cL_law 294 = .ok (.aload 9, 2) := by decide +kernel
theorem dL_law_296 : decode cL_law 296 = .ok (.invokestatic 247, 3) := by decide +kernel
theorem dL_law_299 : decode cL_law 299 = .ok (.ifCond .eq 25, 3) := by decide +kernel
theorem dL_law_302 : decode cL_law 302 = .ok (.aload_n 1, 1) := by decide +kernel
theorem dL_law_303 : decode cL_law 303 = .ok (.aload_n 2, 1) := by decide +kernel
theorem dL_law_304 : decode cL_law 304 = .ok (.iload 8, 2) := by decide +kernel
theorem dL_law_306 : decode cL_law 306 = .ok (.invokestatic 240, 3) := by decide +kernel
theorem dL_law_309 : decode cL_law 309 = .ok (.ifCond .eq 15, 3) := by decide +kernel
theorem dL_law_312 : decode cL_law 312 = .ok (.aload_n 1, 1) := by decide +kernel
theorem dL_law_313 : decode cL_law 313 = .ok (.invokestatic 236, 3) := by decide +kernel
theorem dL_law_316 : decode cL_law 316 = .ok (.aload 11, 2) := by decide +kernel
theorem dL_law_318 : decode cL_law 318 = .ok (.invokestatic 247, 3) := by decide +kernel
theorem dL_law_321 : decode cL_law 321 = .ok (.ifCond .ne 5, 3) := by decide +kernel
theorem dL_law_324 : decode cL_law 324 = .ok (.iconst 0, 1) := by decide +kernel
theorem dL_law_325 : decode cL_law 325 = .ok (.ireturn, 1) := by decide +kernel
theorem dL_law_326 : decode cL_law 326 = .ok (.aload_n 1, 1) := by decide +kernel
theorem dL_law_327 : decode cL_law 327 = .ok (.invokevirtual 226, 3) := by decide +kernel
theorem dL_law_330 : decode cL_law 330 = .ok (.iload 10, 2) := by decide +kernel
theorem dL_law_332 : decode cL_law 332 = .ok (.if_icmp .ne 22, 3) := by decide +kernel
theorem dL_law_335 : decode cL_law 335 = .ok (.iload 10, 2) := by decide +kernel
theorem dL_law_337 : decode cL_law 337 = .ok (.bipush 8, 2) := by decide +kernel
theorem dL_law_339 : decode cL_law 339 = .ok (.if_icmp .ge 15, 3) := by decide +kernel
theorem dL_law_342 : decode cL_law 342 = .ok (.aload 9, 2) := by decide +kernel
theorem dL_law_344 : decode cL_law 344 = .ok (.aload 11, 2) := by decide +kernel
theorem dL_law_346 : decode cL_law 346 = .ok (.invokestatic 247, 3) := by decide +kernel
theorem dL_law_349 : decode cL_law 349 = .ok (.ifCond .ne 5, 3) := by decide +kernel
theorem dL_law_352 : decode cL_law 352 = .ok (.iconst 0, 1) := by decide +kernel
theorem dL_law_353 : decode cL_law 353 = .ok (.ireturn, 1) := by decide +kernel
theorem dL_law_354 : decode cL_law 354 = .ok (.iinc 7 1, 3) := by decide +kernel
theorem dL_law_357 : decode cL_law 357 = .ok (.goto (-176), 3) := by decide +kernel
theorem dL_law_360 : decode cL_law 360 = .ok (.aload_n 1, 1) := by decide +kernel
theorem dL_law_361 : decode cL_law 361 = .ok (.invokevirtual 251, 3) := by decide +kernel
theorem dL_law_364 : decode cL_law 364 = .ok (.aload_n 1, 1) := by decide +kernel
theorem dL_law_365 : decode cL_law 365 = .ok (.invokestatic 236, 3) := by decide +kernel
theorem dL_law_368 : decode cL_law 368 = .ok (.astore 7, 2) := by decide +kernel
theorem dL_law_370 : decode cL_law 370 = .ok (.iconst 0, 1) := by decide +kernel
theorem dL_law_371 : decode cL_law 371 = .ok (.istore 8, 2) := by decide +kernel
theorem dL_law_373 : decode cL_law 373 = .ok (.iload 8, 2) := by decide +kernel
theorem dL_law_375 : decode cL_law 375 = .ok (.iconst 5, 1) := by decide +kernel
theorem dL_law_376 : decode cL_law 376 = .ok (.if_icmp .ge 28, 3) := by decide +kernel
theorem dL_law_379 : decode cL_law 379 = .ok (.aload_n 1, 1) := by decide +kernel
theorem dL_law_380 : decode cL_law 380 = .ok (.aload_n 2, 1) := by decide +kernel
theorem dL_law_381 : decode cL_law 381 = .ok (.aload_n 0, 1) := by decide +kernel
theorem dL_law_382 : decode cL_law 382 = .ok (.bipush 36, 2) := by decide +kernel
theorem dL_law_384 : decode cL_law 384 = .ok (.iload 8, 2) := by decide +kernel
theorem dL_law_386 : decode cL_law 386 = .ok (.iadd, 1) := by decide +kernel
theorem dL_law_387 : decode cL_law 387 = .ok (.invokestatic 211, 3) := by decide +kernel
theorem dL_law_390 : decode cL_law 390 = .ok (.invokestatic 240, 3) := by decide +kernel
theorem dL_law_393 : decode cL_law 393 = .ok (.ifCond .ne 5, 3) := by decide +kernel
theorem dL_law_396 : decode cL_law 396 = .ok (.iconst 0, 1) := by decide +kernel
theorem dL_law_397 : decode cL_law 397 = .ok (.ireturn, 1) := by decide +kernel
theorem dL_law_398 : decode cL_law 398 = .ok (.iinc 8 1, 3) := by decide +kernel
theorem dL_law_401 : decode cL_law 401 = .ok (.goto (-28), 3) := by decide +kernel
theorem dL_law_404 : decode cL_law 404 = .ok (.aload_n 1, 1) := by decide +kernel
theorem dL_law_405 : decode cL_law 405 = .ok (.invokevirtual 254, 3) := by decide +kernel
theorem dL_law_408 : decode cL_law 408 = .ok (.aload 7, 2) := by decide +kernel
theorem dL_law_410 : decode cL_law 410 = .ok (.iconst 1, 1) := by decide +kernel
theorem dL_law_411 : decode cL_law 411 = .ok (.iaload, 1) := by decide +kernel
theorem dL_law_412 : decode cL_law 412 = .ok (.if_icmp .ne 26, 3) := by decide +kernel
theorem dL_law_415 : decode cL_law 415 = .ok (.aload_n 1, 1) := by decide +kernel
theorem dL_law_416 : decode cL_law 416 = .ok (.invokestatic 236, 3) := by decide +kernel
theorem dL_law_419 : decode cL_law 419 = .ok (.aload 7, 2) := by decide +kernel
theorem dL_law_421 : decode cL_law 421 = .ok (.invokestatic 247, 3) := by decide +kernel
theorem dL_law_424 : decode cL_law 424 = .ok (.ifCond .eq 14, 3) := by decide +kernel
theorem dL_law_427 : decode cL_law 427 = .ok (.aload_n 1, 1) := by decide +kernel
theorem dL_law_428 : decode cL_law 428 = .ok (.invokevirtual 226, 3) := by decide +kernel
theorem dL_law_431 : decode cL_law 431 = .ok (.ifCond .ne 7, 3) := by decide +kernel
theorem dL_law_434 : decode cL_law 434 = .ok (.iconst 1, 1) := by decide +kernel
theorem dL_law_435 : decode cL_law 435 = .ok (.goto 4, 3) := by decide +kernel
theorem dL_law_438 : decode cL_law 438 = .ok (.iconst 0, 1) := by decide +kernel
theorem dL_law_439 : decode cL_law 439 = .ok (.ireturn, 1) := by decide +kernel
end
