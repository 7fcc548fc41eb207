section
-- ===== PART A: goes FIRST, ahead of the names: the tables' words, and 'selects' of the private methods out of them =====
/-- a private method of a class that the tables say can be made, by its rows of tables_1 -/
def lw_okq (q : MethodName × Nat) : Prop := (q.1.cls ≠ "java/lang/invoke/MethodHandle" ∧ q.1.cls ≠ "java/lang/invoke/VarHandle") ∧ Cond.instantiable q.1.cls q.2 ∈ tables_1 ∧ Cond.privateMethod q.1 ∈ tables_1 ∧ Cond.instanceMethod q.1 ∈ tables_1
theorem lw_p0 : lw_okq (⟨"java/lang/Throwable", "fillInStackTrace", "(I)Ljava/lang/Throwable;"⟩, 6) := ⟨⟨by decide +kernel, by decide +kernel⟩, List.mem_of_getElem? (i := 314) (by decide +kernel), List.mem_of_getElem? (i := 312) (by decide +kernel), List.mem_of_getElem? (i := 313) (by decide +kernel)⟩
theorem lw_p1 : lw_okq (⟨"TonePlates$Print", "takeTones", "(LTonePlates$Sheet;I)V"⟩, 8) := ⟨⟨by decide +kernel, by decide +kernel⟩, List.mem_of_getElem? (i := 42) (by decide +kernel), List.mem_of_getElem? (i := 347) (by decide +kernel), List.mem_of_getElem? (i := 348) (by decide +kernel)⟩
theorem lw_p2 : lw_okq (⟨"TonePlates$Print", "putDots", "(LTonePlates$Sheet;I)V"⟩, 8) := ⟨⟨by decide +kernel, by decide +kernel⟩, List.mem_of_getElem? (i := 42) (by decide +kernel), List.mem_of_getElem? (i := 379) (by decide +kernel), List.mem_of_getElem? (i := 380) (by decide +kernel)⟩
theorem lw_p3 : lw_okq (⟨"TonePlates$Screen", "measureAt", "(II)I"⟩, 5) := ⟨⟨by decide +kernel, by decide +kernel⟩, List.mem_of_getElem? (i := 51) (by decide +kernel), List.mem_of_getElem? (i := 392) (by decide +kernel), List.mem_of_getElem? (i := 393) (by decide +kernel)⟩
theorem lw_p4 : lw_okq (⟨"TonePlates", "requireCell", "(II)V"⟩, 9) := ⟨⟨by decide +kernel, by decide +kernel⟩, List.mem_of_getElem? (i := 32) (by decide +kernel), List.mem_of_getElem? (i := 457) (by decide +kernel), List.mem_of_getElem? (i := 458) (by decide +kernel)⟩
theorem lw_p5 : lw_okq (⟨"TonePlates", "startChange", "()V"⟩, 9) := ⟨⟨by decide +kernel, by decide +kernel⟩, List.mem_of_getElem? (i := 32) (by decide +kernel), List.mem_of_getElem? (i := 479) (by decide +kernel), List.mem_of_getElem? (i := 480) (by decide +kernel)⟩
theorem lw_p6 : lw_okq (⟨"TonePlates", "draftSheet", "()LTonePlates$Sheet;"⟩, 9) := ⟨⟨by decide +kernel, by decide +kernel⟩, List.mem_of_getElem? (i := 32) (by decide +kernel), List.mem_of_getElem? (i := 483) (by decide +kernel), List.mem_of_getElem? (i := 484) (by decide +kernel)⟩
theorem lw_p7 : lw_okq (⟨"TonePlates", "useDraft", "()V"⟩, 9) := ⟨⟨by decide +kernel, by decide +kernel⟩, List.mem_of_getElem? (i := 32) (by decide +kernel), List.mem_of_getElem? (i := 498) (by decide +kernel), List.mem_of_getElem? (i := 499) (by decide +kernel)⟩
theorem lw_p8 : lw_okq (⟨"TonePlates", "requirePlate", "(I)V"⟩, 9) := ⟨⟨by decide +kernel, by decide +kernel⟩, List.mem_of_getElem? (i := 32) (by decide +kernel), List.mem_of_getElem? (i := 518) (by decide +kernel), List.mem_of_getElem? (i := 519) (by decide +kernel)⟩
theorem lw_p9 : lw_okq (⟨"TonePlatesLaw$Screen", "measure", "(II)I"⟩, 7) := ⟨⟨by decide +kernel, by decide +kernel⟩, List.mem_of_getElem? (i := 538) (by decide +kernel), List.mem_of_getElem? (i := 572) (by decide +kernel), List.mem_of_getElem? (i := 573) (by decide +kernel)⟩
theorem lw_p10 : lw_okq (⟨"TonePlatesLaw$Screen", "comes", "(LTonePlatesLaw$Place;)V"⟩, 7) := ⟨⟨by decide +kernel, by decide +kernel⟩, List.mem_of_getElem? (i := 538) (by decide +kernel), List.mem_of_getElem? (i := 594) (by decide +kernel), List.mem_of_getElem? (i := 595) (by decide +kernel)⟩
theorem lw_p11 : lw_okq (⟨"java/util/ArrayList", "rangeCheckForAdd", "(I)V"⟩, 3) := ⟨⟨by decide +kernel, by decide +kernel⟩, List.mem_of_getElem? (i := 544) (by decide +kernel), List.mem_of_getElem? (i := 624) (by decide +kernel), List.mem_of_getElem? (i := 625) (by decide +kernel)⟩
theorem lw_p12 : lw_okq (⟨"java/util/ArrayList", "grow", "()[Ljava/lang/Object;"⟩, 3) := ⟨⟨by decide +kernel, by decide +kernel⟩, List.mem_of_getElem? (i := 544) (by decide +kernel), List.mem_of_getElem? (i := 628) (by decide +kernel), List.mem_of_getElem? (i := 629) (by decide +kernel)⟩
theorem lw_p13 : lw_okq (⟨"java/util/ArrayList", "grow", "(I)[Ljava/lang/Object;"⟩, 3) := ⟨⟨by decide +kernel, by decide +kernel⟩, List.mem_of_getElem? (i := 544) (by decide +kernel), List.mem_of_getElem? (i := 632) (by decide +kernel), List.mem_of_getElem? (i := 633) (by decide +kernel)⟩
theorem lw_p14 : lw_okq (⟨"TonePlates", "appendWord", "(I)V"⟩, 9) := ⟨⟨by decide +kernel, by decide +kernel⟩, List.mem_of_getElem? (i := 32) (by decide +kernel), List.mem_of_getElem? (i := 767) (by decide +kernel), List.mem_of_getElem? (i := 768) (by decide +kernel)⟩
theorem lw_p15 : lw_okq (⟨"TonePlates", "requireBuffered", "(I)V"⟩, 9) := ⟨⟨by decide +kernel, by decide +kernel⟩, List.mem_of_getElem? (i := 32) (by decide +kernel), List.mem_of_getElem? (i := 775) (by decide +kernel), List.mem_of_getElem? (i := 776) (by decide +kernel)⟩
def lw_privs_1 : List (MethodName × Nat) := [(⟨"java/lang/Throwable", "fillInStackTrace", "(I)Ljava/lang/Throwable;"⟩, 6), (⟨"TonePlates$Print", "takeTones", "(LTonePlates$Sheet;I)V"⟩, 8), (⟨"TonePlates$Print", "putDots", "(LTonePlates$Sheet;I)V"⟩, 8), (⟨"TonePlates$Screen", "measureAt", "(II)I"⟩, 5), (⟨"TonePlates", "requireCell", "(II)V"⟩, 9), (⟨"TonePlates", "startChange", "()V"⟩, 9), (⟨"TonePlates", "draftSheet", "()LTonePlates$Sheet;"⟩, 9), (⟨"TonePlates", "useDraft", "()V"⟩, 9), (⟨"TonePlates", "requirePlate", "(I)V"⟩, 9), (⟨"TonePlatesLaw$Screen", "measure", "(II)I"⟩, 7), (⟨"TonePlatesLaw$Screen", "comes", "(LTonePlatesLaw$Place;)V"⟩, 7), (⟨"java/util/ArrayList", "rangeCheckForAdd", "(I)V"⟩, 3), (⟨"java/util/ArrayList", "grow", "()[Ljava/lang/Object;"⟩, 3), (⟨"java/util/ArrayList", "grow", "(I)[Ljava/lang/Object;"⟩, 3), (⟨"TonePlates", "appendWord", "(I)V"⟩, 9), (⟨"TonePlates", "requireBuffered", "(I)V"⟩, 9)]
theorem lw_r1 : ∀ q ∈ lw_privs_1, lw_okq q := List.forall_mem_cons.mpr ⟨lw_p0, List.forall_mem_cons.mpr ⟨lw_p1, List.forall_mem_cons.mpr ⟨lw_p2, List.forall_mem_cons.mpr ⟨lw_p3, List.forall_mem_cons.mpr ⟨lw_p4, List.forall_mem_cons.mpr ⟨lw_p5, List.forall_mem_cons.mpr ⟨lw_p6, List.forall_mem_cons.mpr ⟨lw_p7, List.forall_mem_cons.mpr ⟨lw_p8, List.forall_mem_cons.mpr ⟨lw_p9, List.forall_mem_cons.mpr ⟨lw_p10, List.forall_mem_cons.mpr ⟨lw_p11, List.forall_mem_cons.mpr ⟨lw_p12, List.forall_mem_cons.mpr ⟨lw_p13, List.forall_mem_cons.mpr ⟨lw_p14, List.forall_mem_cons.mpr ⟨lw_p15, fun _ h => absurd h List.not_mem_nil⟩⟩⟩⟩⟩⟩⟩⟩⟩⟩⟩⟩⟩⟩⟩⟩
theorem lw_p16 : lw_okq (⟨"TonePlates$SetupReader", "advance", "()V"⟩, 13) := ⟨⟨by decide +kernel, by decide +kernel⟩, List.mem_of_getElem? (i := 102) (by decide +kernel), List.mem_of_getElem? (i := 785) (by decide +kernel), List.mem_of_getElem? (i := 786) (by decide +kernel)⟩
theorem lw_p17 : lw_okq (⟨"TonePlates$SetupReader", "takeRun", "(CCI)V"⟩, 13) := ⟨⟨by decide +kernel, by decide +kernel⟩, List.mem_of_getElem? (i := 102) (by decide +kernel), List.mem_of_getElem? (i := 789) (by decide +kernel), List.mem_of_getElem? (i := 790) (by decide +kernel)⟩
theorem lw_p18 : lw_okq (⟨"TonePlates$SetupReader", "readPicture", "()Z"⟩, 13) := ⟨⟨by decide +kernel, by decide +kernel⟩, List.mem_of_getElem? (i := 102) (by decide +kernel), List.mem_of_getElem? (i := 793) (by decide +kernel), List.mem_of_getElem? (i := 794) (by decide +kernel)⟩
theorem lw_p19 : lw_okq (⟨"TonePlates$SetupReader", "isWord", "(Ljava/lang/String;)Z"⟩, 13) := ⟨⟨by decide +kernel, by decide +kernel⟩, List.mem_of_getElem? (i := 102) (by decide +kernel), List.mem_of_getElem? (i := 798) (by decide +kernel), List.mem_of_getElem? (i := 799) (by decide +kernel)⟩
theorem lw_p20 : lw_okq (⟨"TonePlates$SetupReader", "fail", "(I)Z"⟩, 13) := ⟨⟨by decide +kernel, by decide +kernel⟩, List.mem_of_getElem? (i := 102) (by decide +kernel), List.mem_of_getElem? (i := 804) (by decide +kernel), List.mem_of_getElem? (i := 805) (by decide +kernel)⟩
theorem lw_p21 : lw_okq (⟨"TonePlates$SetupReader", "takeNumber", "(II)Z"⟩, 13) := ⟨⟨by decide +kernel, by decide +kernel⟩, List.mem_of_getElem? (i := 102) (by decide +kernel), List.mem_of_getElem? (i := 808) (by decide +kernel), List.mem_of_getElem? (i := 809) (by decide +kernel)⟩
theorem lw_p22 : lw_okq (⟨"TonePlates$SetupReader", "takeSign", "(C)Z"⟩, 13) := ⟨⟨by decide +kernel, by decide +kernel⟩, List.mem_of_getElem? (i := 102) (by decide +kernel), List.mem_of_getElem? (i := 818) (by decide +kernel), List.mem_of_getElem? (i := 819) (by decide +kernel)⟩
theorem lw_p23 : lw_okq (⟨"TonePlates$SetupReader", "isSign", "(C)Z"⟩, 13) := ⟨⟨by decide +kernel, by decide +kernel⟩, List.mem_of_getElem? (i := 102) (by decide +kernel), List.mem_of_getElem? (i := 822) (by decide +kernel), List.mem_of_getElem? (i := 823) (by decide +kernel)⟩
theorem lw_p24 : lw_okq (⟨"TonePlates$SetupReader", "readStatement", "()Z"⟩, 13) := ⟨⟨by decide +kernel, by decide +kernel⟩, List.mem_of_getElem? (i := 102) (by decide +kernel), List.mem_of_getElem? (i := 826) (by decide +kernel), List.mem_of_getElem? (i := 827) (by decide +kernel)⟩
theorem lw_p25 : lw_okq (⟨"TonePlates$SetupReader", "readTones", "()Z"⟩, 13) := ⟨⟨by decide +kernel, by decide +kernel⟩, List.mem_of_getElem? (i := 102) (by decide +kernel), List.mem_of_getElem? (i := 831) (by decide +kernel), List.mem_of_getElem? (i := 832) (by decide +kernel)⟩
theorem lw_p26 : lw_okq (⟨"TonePlates$SetupReader", "readPlate", "()Z"⟩, 13) := ⟨⟨by decide +kernel, by decide +kernel⟩, List.mem_of_getElem? (i := 102) (by decide +kernel), List.mem_of_getElem? (i := 837) (by decide +kernel), List.mem_of_getElem? (i := 838) (by decide +kernel)⟩
theorem lw_p27 : lw_okq (⟨"TonePlates$SetupReader", "isName", "()Z"⟩, 13) := ⟨⟨by decide +kernel, by decide +kernel⟩, List.mem_of_getElem? (i := 102) (by decide +kernel), List.mem_of_getElem? (i := 841) (by decide +kernel), List.mem_of_getElem? (i := 842) (by decide +kernel)⟩
theorem lw_p28 : lw_okq (⟨"TonePlates$SetupReader", "shapeHere", "()I"⟩, 13) := ⟨⟨by decide +kernel, by decide +kernel⟩, List.mem_of_getElem? (i := 102) (by decide +kernel), List.mem_of_getElem? (i := 853) (by decide +kernel), List.mem_of_getElem? (i := 854) (by decide +kernel)⟩
theorem lw_p29 : lw_okq (⟨"TonePlates$SetupReader", "readSum", "(I)Z"⟩, 13) := ⟨⟨by decide +kernel, by decide +kernel⟩, List.mem_of_getElem? (i := 102) (by decide +kernel), List.mem_of_getElem? (i := 862) (by decide +kernel), List.mem_of_getElem? (i := 863) (by decide +kernel)⟩
theorem lw_p30 : lw_okq (⟨"TonePlates$SetupReader", "readTerm", "(I)Z"⟩, 13) := ⟨⟨by decide +kernel, by decide +kernel⟩, List.mem_of_getElem? (i := 102) (by decide +kernel), List.mem_of_getElem? (i := 866) (by decide +kernel), List.mem_of_getElem? (i := 867) (by decide +kernel)⟩
theorem lw_p31 : lw_okq (⟨"TonePlates$SetupReader", "readFactor", "(I)Z"⟩, 13) := ⟨⟨by decide +kernel, by decide +kernel⟩, List.mem_of_getElem? (i := 102) (by decide +kernel), List.mem_of_getElem? (i := 870) (by decide +kernel), List.mem_of_getElem? (i := 871) (by decide +kernel)⟩
def lw_privs_2 : List (MethodName × Nat) := [(⟨"TonePlates$SetupReader", "advance", "()V"⟩, 13), (⟨"TonePlates$SetupReader", "takeRun", "(CCI)V"⟩, 13), (⟨"TonePlates$SetupReader", "readPicture", "()Z"⟩, 13), (⟨"TonePlates$SetupReader", "isWord", "(Ljava/lang/String;)Z"⟩, 13), (⟨"TonePlates$SetupReader", "fail", "(I)Z"⟩, 13), (⟨"TonePlates$SetupReader", "takeNumber", "(II)Z"⟩, 13), (⟨"TonePlates$SetupReader", "takeSign", "(C)Z"⟩, 13), (⟨"TonePlates$SetupReader", "isSign", "(C)Z"⟩, 13), (⟨"TonePlates$SetupReader", "readStatement", "()Z"⟩, 13), (⟨"TonePlates$SetupReader", "readTones", "()Z"⟩, 13), (⟨"TonePlates$SetupReader", "readPlate", "()Z"⟩, 13), (⟨"TonePlates$SetupReader", "isName", "()Z"⟩, 13), (⟨"TonePlates$SetupReader", "shapeHere", "()I"⟩, 13), (⟨"TonePlates$SetupReader", "readSum", "(I)Z"⟩, 13), (⟨"TonePlates$SetupReader", "readTerm", "(I)Z"⟩, 13), (⟨"TonePlates$SetupReader", "readFactor", "(I)Z"⟩, 13)]
theorem lw_r2 : ∀ q ∈ lw_privs_2, lw_okq q := List.forall_mem_cons.mpr ⟨lw_p16, List.forall_mem_cons.mpr ⟨lw_p17, List.forall_mem_cons.mpr ⟨lw_p18, List.forall_mem_cons.mpr ⟨lw_p19, List.forall_mem_cons.mpr ⟨lw_p20, List.forall_mem_cons.mpr ⟨lw_p21, List.forall_mem_cons.mpr ⟨lw_p22, List.forall_mem_cons.mpr ⟨lw_p23, List.forall_mem_cons.mpr ⟨lw_p24, List.forall_mem_cons.mpr ⟨lw_p25, List.forall_mem_cons.mpr ⟨lw_p26, List.forall_mem_cons.mpr ⟨lw_p27, List.forall_mem_cons.mpr ⟨lw_p28, List.forall_mem_cons.mpr ⟨lw_p29, List.forall_mem_cons.mpr ⟨lw_p30, List.forall_mem_cons.mpr ⟨lw_p31, fun _ h => absurd h List.not_mem_nil⟩⟩⟩⟩⟩⟩⟩⟩⟩⟩⟩⟩⟩⟩⟩⟩
theorem lw_p32 : lw_okq (⟨"TonePlates$SetupReader", "addItem", "(I)V"⟩, 13) := ⟨⟨by decide +kernel, by decide +kernel⟩, List.mem_of_getElem? (i := 102) (by decide +kernel), List.mem_of_getElem? (i := 874) (by decide +kernel), List.mem_of_getElem? (i := 875) (by decide +kernel)⟩
theorem lw_p33 : lw_okq (⟨"TonePlates$SetupReader", "variableHere", "()I"⟩, 13) := ⟨⟨by decide +kernel, by decide +kernel⟩, List.mem_of_getElem? (i := 102) (by decide +kernel), List.mem_of_getElem? (i := 878) (by decide +kernel), List.mem_of_getElem? (i := 879) (by decide +kernel)⟩
theorem lw_p34 : lw_okq (⟨"TonePlates$SetupReader", "readInk", "()Z"⟩, 13) := ⟨⟨by decide +kernel, by decide +kernel⟩, List.mem_of_getElem? (i := 102) (by decide +kernel), List.mem_of_getElem? (i := 910) (by decide +kernel), List.mem_of_getElem? (i := 911) (by decide +kernel)⟩
theorem lw_p35 : lw_okq (⟨"TonePlates$SetupReader", "readLimit", "()Z"⟩, 13) := ⟨⟨by decide +kernel, by decide +kernel⟩, List.mem_of_getElem? (i := 102) (by decide +kernel), List.mem_of_getElem? (i := 916) (by decide +kernel), List.mem_of_getElem? (i := 917) (by decide +kernel)⟩
theorem lw_p36 : lw_okq (⟨"TonePlates$Print", "isDotAt", "(LTonePlates$Sheet;III)Z"⟩, 8) := ⟨⟨by decide +kernel, by decide +kernel⟩, List.mem_of_getElem? (i := 42) (by decide +kernel), List.mem_of_getElem? (i := 954) (by decide +kernel), List.mem_of_getElem? (i := 955) (by decide +kernel)⟩
theorem lw_p37 : lw_okq (⟨"java/util/ArrayList", "add", "(Ljava/lang/Object;[Ljava/lang/Object;I)V"⟩, 3) := ⟨⟨by decide +kernel, by decide +kernel⟩, List.mem_of_getElem? (i := 544) (by decide +kernel), List.mem_of_getElem? (i := 1205) (by decide +kernel), List.mem_of_getElem? (i := 1206) (by decide +kernel)⟩
def lw_privs_3 : List (MethodName × Nat) := [(⟨"TonePlates$SetupReader", "addItem", "(I)V"⟩, 13), (⟨"TonePlates$SetupReader", "variableHere", "()I"⟩, 13), (⟨"TonePlates$SetupReader", "readInk", "()Z"⟩, 13), (⟨"TonePlates$SetupReader", "readLimit", "()Z"⟩, 13), (⟨"TonePlates$Print", "isDotAt", "(LTonePlates$Sheet;III)Z"⟩, 8), (⟨"java/util/ArrayList", "add", "(Ljava/lang/Object;[Ljava/lang/Object;I)V"⟩, 3)]
theorem lw_r3 : ∀ q ∈ lw_privs_3, lw_okq q := List.forall_mem_cons.mpr ⟨lw_p32, List.forall_mem_cons.mpr ⟨lw_p33, List.forall_mem_cons.mpr ⟨lw_p34, List.forall_mem_cons.mpr ⟨lw_p35, List.forall_mem_cons.mpr ⟨lw_p36, List.forall_mem_cons.mpr ⟨lw_p37, fun _ h => absurd h List.not_mem_nil⟩⟩⟩⟩⟩⟩
def lw_privs : List (MethodName × Nat) := lw_privs_1 ++ (lw_privs_2 ++ (lw_privs_3))
def lw_tbl : List Cond := k2_sels lw_privs ++ tables_1
theorem lw_privs_ok : ∀ q ∈ lw_privs, lw_okq q := by
  show ∀ q ∈ lw_privs_1 ++ (lw_privs_2 ++ (lw_privs_3)), lw_okq q
  exact List.forall_mem_append.mpr ⟨lw_r1, List.forall_mem_append.mpr ⟨lw_r2, lw_r3⟩⟩
end
section
/-! ===== BEGIN words of one list among another's, by their places ===== -/
theorem goodIn_r {big : List Cond} (ws : List Cond) (ps : List Nat) (hp : ws = ps.filterMap (fun i => big[i]?)) (h : ws.all goodWord = true) : GoodIn big ws := by
  intro w hw
  have h1 := List.all_eq_true.mp h w hw
  rw [hp] at hw
  obtain ⟨i, -, hi⟩ := List.mem_filterMap.mp hw
  have hm : w ∈ big := by first | exact List.mem_of_getElem? hi | exact List.getElem?_mem hi
  exact ⟨hm, good_of_word h1⟩
theorem goodIn_app {big a b : List Cond} (ha : GoodIn big a) (hb : GoodIn big b) : GoodIn big (a ++ b) := fun w h => (List.mem_append.mp h).elim (ha w) (hb w)
theorem goodIn_ca {big a b : List Cond} {c : Cond} (ha : GoodIn big (c :: a)) (hb : GoodIn big b) : GoodIn big (c :: (a ++ b)) := fun w h => (List.mem_cons.mp h).elim (fun e => ha w (List.mem_cons.mpr (Or.inl e))) (fun h => (List.mem_append.mp h).elim (fun h => ha w (List.mem_cons.mpr (Or.inr h))) (hb w))
theorem goodIn_sub {big ws : List Cond} (hm : ∀ w ∈ ws, w ∈ big) (h : ws.all goodWord = true) : GoodIn big ws := fun w hw => ⟨hm w hw, good_of_word (List.all_eq_true.mp h w hw)⟩
/-! ===== END ===== -/
/-! ===== BEGIN exceptions that leave a method, and their catching by the caller (launches without stack traces) ===== -/
section VXA
/-! The laws vx_back, vx_callV, vx_callS, vx_callSW, vx_throw0, vx_throwS follow proofs of the library, with one case more: JvmDerived/Free/Laws.lean (Back.of_free), Shelf42/LK1.lean (callV, callS), Shelf/KitTraced.lean (throwNew0V, throwNewS). -/
/-- where a method has thrown q: the class by its name, the cell, what was written, the world -/
def vx_T (XC : String → State → State → Prop) (st : State) (q : Addr) (t : State) (mc ms : Nat) (free : Addr → Prop) : Prop :=
  ∃ (E : String) (ce : Cell) (L : List Loc), XC E st t ∧ t.heap[q]? = some ce ∧ ce.vm = .none ∧ st.vm.findClass E = some ce.cls ∧ st.WarmedH t.vm ∧ st.sameButNew ({ t with vm := st.vm } : State) L mc ms ∧ ∀ z ∈ L, free z.base
def vx_Q (Qc : Array Value → State → Outcome → State → Prop) (XC : String → State → State → Prop) (mc ms : Nat) (free : Addr → Prop) : Array Value → State → Outcome → State → Prop := fun a st o t =>
  (Qc a st o t ∧ ∃ L, FrameEnd st o t L mc ms ∧ ∀ q ∈ L, free q.base) ∨ ∃ q, o = .threw q ∧ vx_T XC st q t mc ms free
/-- a callee that returns or throws -/
def vx_Met (l : Launch) (y : MethodName) (ws : List Cond) (rm : Room) (Pc : Array Value → State → Prop) (Qc : Array Value → State → Outcome → State → Prop) (XC : String → State → State → Prop) (mc ms : Nat) (free : Addr → Prop) : Prop :=
  MetFree l y (headSpec ws rm) Pc (fun _ _ _ _ _ => True) (vx_Q Qc XC mc ms free)
def vx_Post (XC : String → State → State → Prop) (mc ms : Nat) (free : Addr → Prop) : Pt → Array Value → Addr → Pt → Prop := fun A a q B =>
  ∃ (g : JFrame) (mk : MethodId) (t : State) (L : List Loc) (E : String) (ce : Cell), B.U.heap = t.heap ∧ B.U.vm = t.vm ∧ XC E (A.U.calling g mk a) t ∧ t.heap[q]? = some ce ∧ ce.vm = .none ∧ A.U.vm.findClass E = some ce.cls ∧ B.locs = A.locs ++ L ∧ (∀ z ∈ L, free z.base) ∧ B.cells = A.cells + mc ∧ B.slots = A.slots + ms
def vx_Back (l : Launch) (R : Room) (p : Program) (e : Env) (below : List Frame) (s : State) (sargs : Array Value) (y : MethodName) (len W9 : Nat)
    (Pre : Pt → Array Value → Prop) (Post : Pt → Array Value → Option Value → Pt → Prop) (PostX : Pt → Array Value → Addr → Pt → Prop) : Prop :=
  ∀ (m : MethodId) (meth : Method) (c : Code) (A : Pt) (g : JFrame) (ig : Instr) (mk : MethodId) (a : Array Value),
    Stand p l e R s m sargs below meth c A.U A.locs A.cells A.slots → g.method = m → g.locals.size = c.maxLocals → decode c.code g.pc = .ok (ig, len) →
    2 * g.monitorRoom + (g.stack.map fun v => v.category).sum ≤ W9 → A.U.methodNamed? y = some mk → Pre A a →
    (∃ (v : Option Value) (B : Pt), Stand p l e R s m sargs below meth c B.U B.locs B.cells B.slots ∧ Post A a v B ∧
      Steps p.tables e below (doInvoke e (A.U.setTop g) [] mk a).1 (B.U.setTop { g with pc := g.pc + len, stack := v.toList ++ g.stack })) ∨
    (∃ (q : Addr) (B : Pt), Stand p l e R s m sargs below meth c B.U B.locs B.cells B.slots ∧ PostX A a q B ∧
      Steps p.tables e below (doInvoke e (A.U.setTop g) [] mk a).1 ((B.U.setTop g).pushFrame (.throwing q)))
section Payer
variable {l : Launch} {R : Room} {p : Program} {e : Env} {below : List Frame} {s : State} {sargs : Array Value} {y : MethodName} {len W9 : Nat}
theorem vx_back {ws : List Cond} {rm : Room} {Pc : Array Value → State → Prop} {Qc : Array Value → State → Outcome → State → Prop} {XC : String → State → State → Prop} {mc ms : Nat} {free : Addr → Prop} {bytes : ByteArray} {maxL : Nat} {ret : Option FieldType}
    (hM : vx_Met l y ws rm Pc Qc XC mc ms free) (hblind : FrameBlind Pc) (hrc : rm.cells = mc) (hrs : rm.slots = ms)
    (hframes : rm.frames + 1 ≤ R.frames) (hlocals : W9 + (maxL + 11) + rm.locals ≤ R.locals)
    (hws : ∀ w ∈ ws, ∀ a' U, s.WarmedH U.vm → w.before a' U = true) (hcode : Cond.code y bytes maxL ret ∈ ws) (hinit : ∀ a' U, s.WarmedH U.vm → (Cond.initialized y.cls).before a' U = true) :
    vx_Back l R p e below s sargs y len W9 (PreOf R mc ms Pc) (PostOf Qc mc ms free) (vx_Post XC mc ms free) := by
  intro m meth c A g ig mk a X hg hsize hdg hW hn hp
  have h1 : (headSpec ws rm).pre.before a A.U = true := atoms_intro fun w hw => hws w hw _ _ X.warmed
  have h2 : (Cond.code y bytes maxL ret).before a A.U = true := hws _ hcode _ _ X.warmed
  have h3 : (Cond.initialized y.cls).before a A.U = true := hinit _ _ X.warmed
  have h4 : A.cells + (headSpec ws rm).room.cells ≤ R.cells := by rw [show (headSpec ws rm).room.cells = mc from hrc]; exact hp.1
  have h5 : A.slots + (headSpec ws rm).room.slots ≤ R.slots := by rw [show (headSpec ws rm).room.slots = ms from hrs]; exact hp.2.1
  have hPc : Pc a (A.U.calling g mk a) := hblind _ _ _ _ hp.2.2
  obtain ⟨U, Ls, c0, s0⟩ := A
  dsimp only [Pt.U, Pt.locs, Pt.cells, Pt.slots] at h1 h2 h3 h4 h5 X hn hPc ⊢
  obtain ⟨methY, cY, hmY, hcY, -, hlY, -, -, -, -⟩ := Cond.code_spec hn h2
  obtain ⟨kY, hkY, -⟩ := className_of_methodNamed hn
  have hinitY : kY.init = .initialized := Cond.initialized_spec (findClass_of_methodNamed hn) hkY h3
  have h : At U g.method c below := by rw [hg]; exact X.here
  have hlocals9 : W9 + (maxL + 11) + (headSpec ws rm).room.locals ≤ R.locals := hlocals
  have happ : (headSpec ws rm).appliesLoose y e.platform (U.calling g mk a) = true :=
    Spec.appliesLoose_calling (g := g) h hdg hn hkY hinitY
      (X.room_calling (g := g) (R' := (headSpec ws rm).room) hsize hmY hcY hframes (by rw [hlY]; omega) h4 h5) h1
  obtain ⟨mid, hmid⟩ := h.above
  have hfr : (U.setTop g).frames = (.java g :: mid) ++ below := by rw [State.frames_setTop' g h.top, hmid]; rfl
  obtain ⟨o, s₂, hsteps, -, hend, hq⟩ := Steps.callFree hM p X.admits X.cas X.clock (acts := []) hfr happ hPc trivial
  have hq' : vx_Q Qc XC mc ms free a (U.calling g mk a) o s₂ := hq
  rw [State.frames_setTop' g h.top] at hend
  obtain ⟨g₀, hg0⟩ := Option.isSome_iff_exists.mp h.top
  obtain ⟨r, hr⟩ := State.topJava?_eq_some.mp hg0
  have hr' : (({ U with heap := s₂.heap, slotsUsed := s₂.slotsUsed } : State).setVm s₂.vm).frames = .java g₀ :: r := hr
  rcases hq' with ⟨hqc, L, hfe, hL⟩ | ⟨q, rfl, E, ce, L, hx, hce, hcv, hcl, hW₂, hsm, hL⟩
  · obtain ⟨⟨v, rfl⟩, hW₂, e2, q2, q3, q4, q5, q6⟩ := id hfe
    have e3 : s₂ = ({ (U.calling g mk a).setFrames s₂.frames with heap := s₂.heap, slotsUsed := s₂.slotsUsed } : State).setVm s₂.vm := by
      have : s₂ = ({ s₂ with vm := (U.calling g mk a).vm } : State).setVm s₂.vm := rfl
      rw [e2] at this
      exact this
    obtain ⟨c₂, i₂, len₂, hc₂, hd₂, hf₂⟩ := hend
    have hW' : U.WarmedH s₂.vm := hW₂
    have hcc : c₂ = c := by
      have h1 : s₂.code? g.method = U.code? g.method := by
        rw [State.code?_eq, State.code?_eq, hW'.alike.method?]
      exact Option.some.inj (hc₂.symm.trans (h1.trans h.code))
    subst hcc
    have hlen : len₂ = len := by rw [hdg] at hd₂; cases hd₂; rfl
    subst hlen
    have hs₂ : s₂ = (({ U with heap := s₂.heap, slotsUsed := s₂.slotsUsed } : State).setVm s₂.vm).setTop { g with pc := g.pc + len₂, stack := v.toList ++ g.stack } := by
      refine e3.trans ?_
      rw [hf₂, State.calling_eq h.top, State.setFrames_setFrames, State.setTop_of_frames _ hr', hr]
      rfl
    have hsame : U.sameButNew ({ U with heap := s₂.heap, slotsUsed := s₂.slotsUsed } : State) L mc ms := by
      refine ⟨?_, q2, q3, q4, q5, q6⟩
      obtain ⟨t, ht, -⟩ := State.frames_cons hr
      show ({ U with heap := s₂.heap, slotsUsed := s₂.slotsUsed } : State) = { U.setFrames U.frames with heap := s₂.heap, slotsUsed := s₂.slotsUsed }
      rw [State.setFrames_self ht]
    subst hg
    refine Or.inl ⟨v, ⟨(({ U with heap := s₂.heap, slotsUsed := s₂.slotsUsed } : State).setVm s₂.vm), Ls ++ L, c0 + mc, s0 + ms⟩,
      ⟨X.admits, X.cas, X.clock, X.frames, X.room, X.hears, X.method, X.code, (X.here.setHeapUsed s₂.heap s₂.slotsUsed).setVm hW'.alike, X.tail, State.WarmedH.trans X.warmed hW', X.limits, X.bytes, X.same.trans (hsame.setVm s.vm)⟩,
      ⟨g, mk, s₂, L, rfl, rfl, hqc, rfl, hL, rfl, rfl⟩, ?_⟩
    show Steps p.tables e below _ ((({ U with heap := s₂.heap, slotsUsed := s₂.slotsUsed } : State).setVm s₂.vm).setTop { g with pc := g.pc + len₂, stack := v.toList ++ g.stack })
    rw [← hs₂]
    exact hsteps
  · obtain ⟨e2, q2, q3, q4, q5, q6⟩ := id hsm
    have e3 : s₂ = ({ (U.calling g mk a).setFrames s₂.frames with heap := s₂.heap, slotsUsed := s₂.slotsUsed } : State).setVm s₂.vm := by
      have : s₂ = ({ s₂ with vm := (U.calling g mk a).vm } : State).setVm s₂.vm := rfl
      rw [e2] at this
      exact this
    have hf₂ : s₂.frames = .throwing q :: .java g :: U.frames.tail := hend
    have hW' : U.WarmedH s₂.vm := hW₂
    have hs₂ : s₂ = ((({ U with heap := s₂.heap, slotsUsed := s₂.slotsUsed } : State).setVm s₂.vm).setTop g).pushFrame (.throwing q) := by
      refine e3.trans ?_
      rw [hf₂, State.calling_eq h.top, State.setFrames_setFrames, State.pushFrame, State.frames_setTop _ hr', State.setTop_of_frames _ hr', State.setFrames_setFrames, hr]
      rfl
    have hsame : U.sameButNew ({ U with heap := s₂.heap, slotsUsed := s₂.slotsUsed } : State) L mc ms := by
      refine ⟨?_, q2, q3, q4, q5, q6⟩
      obtain ⟨t, ht, -⟩ := State.frames_cons hr
      show ({ U with heap := s₂.heap, slotsUsed := s₂.slotsUsed } : State) = { U.setFrames U.frames with heap := s₂.heap, slotsUsed := s₂.slotsUsed }
      rw [State.setFrames_self ht]
    subst hg
    refine Or.inr ⟨q, ⟨(({ U with heap := s₂.heap, slotsUsed := s₂.slotsUsed } : State).setVm s₂.vm), Ls ++ L, c0 + mc, s0 + ms⟩,
      ⟨X.admits, X.cas, X.clock, X.frames, X.room, X.hears, X.method, X.code, (X.here.setHeapUsed s₂.heap s₂.slotsUsed).setVm hW'.alike, X.tail, State.WarmedH.trans X.warmed hW', X.limits, X.bytes, X.same.trans (hsame.setVm s.vm)⟩,
      ⟨g, mk, s₂, L, E, ce, rfl, rfl, hx, hce, hcv, hcl, rfl, hL, rfl, rfl⟩, ?_⟩
    show Steps p.tables e below _ (((({ U with heap := s₂.heap, slotsUsed := s₂.slotsUsed } : State).setVm s₂.vm).setTop g).pushFrame (.throwing q))
    rw [← hs₂]
    exact hsteps
end Payer
section Calls
variable {p : Program} {l : Launch} {e : Env} {R : Room} {s : State} {m : MethodId} {args : Array Value} {below : List Frame} {meth : Method} {c : Code} {T : State} {locs : List Loc} {cells slots : Nat}
theorem vx_callV (X : Stand p l e R s m args below meth c T locs cells slots) (hexec : p.tables.exec = Jvm.exec) {own C : String} {index : Nat} {y : MethodName} {bytes : ByteArray} {maxL : Nat} {ret : Option FieldType}
    (hown : s.vm.findClass own = some m.cls) (hlink : (Cond.methodLink own index y).before args s = true) (hinst : (Cond.instanceMethod y).before args s = true) (hsel : (Cond.selects C y y).before args s = true)
    (hcode : (Cond.code y bytes maxL ret).before args s = true) (hy : y.cls ≠ "java/lang/invoke/MethodHandle" ∧ y.cls ≠ "java/lang/invoke/VarHandle")
    {W9 : Nat} {Pre : Pt → Array Value → Prop} {Post : Pt → Array Value → Option Value → Pt → Prop} {PostX : Pt → Array Value → Addr → Pt → Prop} (hK : vx_Back l R p e below s args y 3 W9 Pre Post PostX)
    {b : Addr} {cellB : Cell} (hcell : T.heap[b]? = some cellB) (hobj : cellB.vm.isStatics = false) (hcls : s.vm.findClass C = some cellB.cls)
    {g : JFrame} (hg : g.method = m) (hsize : g.locals.size = c.maxLocals) {argsL rest : List Value} (hlen : ∀ sig, parseMethodDescriptor y.desc = some sig → argsL.length = sig.parameters.length)
    (hstack : g.stack = argsL.reverse ++ .ref b :: rest) (hW : 2 * g.monitorRoom + (rest.map fun v => v.category).sum ≤ W9) (hdg : decode c.code g.pc = .ok (.invokevirtual index, 3))
    (hpre : ∀ vm₁, s.WarmedH vm₁ → Pre ⟨T.setVm vm₁, locs, cells, slots⟩ (Value.ref b :: argsL).toArray) :
    (∃ (v : Option Value) (vm₁ : Vm) (B : Pt), s.WarmedH vm₁ ∧ Stand p l e R s m args below meth c B.U B.locs B.cells B.slots ∧ Post ⟨T.setVm vm₁, locs, cells, slots⟩ (Value.ref b :: argsL).toArray v B ∧
      ∀ target, Steps p.tables e below (B.U.setTop { g with pc := g.pc + 3, stack := v.toList ++ rest }) target → Steps p.tables e below (T.setTop g) target) ∨
    (∃ (q : Addr) (vm₁ : Vm) (B : Pt), s.WarmedH vm₁ ∧ Stand p l e R s m args below meth c B.U B.locs B.cells B.slots ∧ PostX ⟨T.setVm vm₁, locs, cells, slots⟩ (Value.ref b :: argsL).toArray q B ∧
      Steps p.tables e below (T.setTop g) ((B.U.setTop { g with stack := rest }).pushFrame (.throwing q))) := by
  obtain ⟨mk, methM, hnamed, hmethM, hstM, habM⟩ := Cond.instanceMethod_spec hinst
  obtain ⟨methM', cM, hmethM', -, -, -, -, -, -, hsigM⟩ := Cond.code_spec hnamed hcode
  cases hmethM.symm.trans hmethM'
  obtain ⟨c2, r2, m2, q1, q2, q3, q4, kP, hkP, hkPi⟩ := Cond.selects_spec hsel
  cases hcls.symm.trans q1
  cases (State.methodFound?_of_named hnamed hy).symm.trans q2
  cases hnamed.symm.trans q3
  have hselP : selectMethod e.platform s.vm cellB.cls mk = .method mk := by rw [Launch.admits_selectMethod X.admits]; exact q4
  obtain ⟨vm₁, X₁, hstep₁⟩ := X.invokevirtual hexec hown hlink hnamed hmethM hstM hkP hkPi hy (a := b) (cell := cellB) hcell
    (fun z h => by rw [h] at hobj; cases hobj) hselP hmethM habM hkP hkPi (g := g) hg (argsL := argsL) (rest := rest) (hlen _ hsigM) hstack hdg
  rcases hK m meth c ⟨T.setVm vm₁, locs, cells, slots⟩ { g with stack := rest } (.invokevirtual index) mk (Value.ref b :: argsL).toArray X₁ hg hsize hdg hW (X₁.named hnamed) (hpre vm₁ X₁.warmed) with ⟨v, B, X', hpost, hsteps⟩ | ⟨q, B, X', hpost, hsteps⟩
  · exact Or.inl ⟨v, vm₁, B, X₁.warmed, X', hpost, fun target h => hstep₁ _ fun acts => by rw [doInvoke_state]; exact hsteps.trans h⟩
  · exact Or.inr ⟨q, vm₁, B, X₁.warmed, X', hpost, hstep₁ _ fun acts => by rw [doInvoke_state]; exact hsteps⟩
theorem vx_callS (X : Stand p l e R s m args below meth c T locs cells slots) (hexec : p.tables.exec = Jvm.exec) {own : String} {index : Nat} {y : MethodName} {bytes : ByteArray} {maxL : Nat} {ret : Option FieldType}
    (hown : s.vm.findClass own = some m.cls) (hlink : (Cond.methodLink own index y).before args s = true) (hstat : (Cond.static y).before args s = true) (hinit : (Cond.initialized y.cls).before args s = true)
    (hcode : (Cond.code y bytes maxL ret).before args s = true) (hy : y.cls ≠ "java/lang/invoke/MethodHandle" ∧ y.cls ≠ "java/lang/invoke/VarHandle")
    {W9 : Nat} {Pre : Pt → Array Value → Prop} {Post : Pt → Array Value → Option Value → Pt → Prop} {PostX : Pt → Array Value → Addr → Pt → Prop} (hK : vx_Back l R p e below s args y 3 W9 Pre Post PostX)
    {g : JFrame} (hg : g.method = m) (hsize : g.locals.size = c.maxLocals) {argsL rest : List Value} (hlen : ∀ sig, parseMethodDescriptor y.desc = some sig → argsL.length = sig.parameters.length)
    (hstack : g.stack = argsL.reverse ++ rest) (hW : 2 * g.monitorRoom + (rest.map fun v => v.category).sum ≤ W9) (hdg : decode c.code g.pc = .ok (.invokestatic index, 3))
    (hpre : ∀ vm₁, s.WarmedH vm₁ → Pre ⟨T.setVm vm₁, locs, cells, slots⟩ argsL.toArray) :
    (∃ (v : Option Value) (vm₁ : Vm) (B : Pt), s.WarmedH vm₁ ∧ Stand p l e R s m args below meth c B.U B.locs B.cells B.slots ∧ Post ⟨T.setVm vm₁, locs, cells, slots⟩ argsL.toArray v B ∧
      ∀ target, Steps p.tables e below (B.U.setTop { g with pc := g.pc + 3, stack := v.toList ++ rest }) target → Steps p.tables e below (T.setTop g) target) ∨
    (∃ (q : Addr) (vm₁ : Vm) (B : Pt), s.WarmedH vm₁ ∧ Stand p l e R s m args below meth c B.U B.locs B.cells B.slots ∧ PostX ⟨T.setVm vm₁, locs, cells, slots⟩ argsL.toArray q B ∧
      Steps p.tables e below (T.setTop g) ((B.U.setTop { g with stack := rest }).pushFrame (.throwing q))) := by
  obtain ⟨mk, hnamed⟩ := Cond.code_named hcode
  obtain ⟨methM, cM, hmethM, -, -, -, -, -, -, hsigM⟩ := Cond.code_spec hnamed hcode
  have hstatic : methM.isStatic = true := Cond.static_spec hnamed hmethM hstat
  obtain ⟨kP, hkP, -⟩ := className_of_methodNamed hnamed
  have hinitP : kP.init = .initialized := Cond.initialized_spec (findClass_of_methodNamed hnamed) hkP hinit
  obtain ⟨vm₁, X₁, hstep₁⟩ := X.invokestatic hexec hown hlink hnamed hmethM hstatic hkP hinitP hy (g := g) hg (argsL := argsL) (rest := rest) (hlen _ hsigM) hstack hdg
  rcases hK m meth c ⟨T.setVm vm₁, locs, cells, slots⟩ { g with stack := rest } (.invokestatic index) mk argsL.toArray X₁ hg hsize hdg hW (X₁.named hnamed) (hpre vm₁ X₁.warmed) with ⟨v, B, X', hpost, hsteps⟩ | ⟨q, B, X', hpost, hsteps⟩
  · exact Or.inl ⟨v, vm₁, B, X₁.warmed, X', hpost, fun target h => hstep₁ _ fun acts => by rw [doInvoke_state]; exact hsteps.trans h⟩
  · exact Or.inr ⟨q, vm₁, B, X₁.warmed, X', hpost, hstep₁ _ fun acts => by rw [doInvoke_state]; exact hsteps⟩
end Calls
theorem vx_cls {s : State} {T : State} {vm₁ : Vm} {E : String} {k : ClassId} (hW : s.WarmedH vm₁) (h : (T.setVm vm₁).vm.findClass E = some k) : s.vm.findClass E = some k := by
  have h1 : vm₁.findClass E = some k := h
  rw [hW.alike.findClass] at h1
  exact h1
/-- the method's frame g, with q thrown over it -/
def vx_W (p : Program) (l : Launch) (e : Env) (R : Room) (s : State) (m : MethodId) (args : Array Value) (below : List Frame) (meth : Method) (c : Code) (H : Heap) (locs : List Loc) (cells slots : Nat) (Q : State → Prop) (g : JFrame) (q : Addr) : Prop :=
  ∀ T : State, T.heap = H → Stand p l e R s m args below meth c T locs cells slots → ∃ t, Steps p.tables e below ((T.setTop g).pushFrame (.throwing q)) t ∧ Q t
def vx_Run (p : Program) (l : Launch) (e : Env) (R : Room) (s : State) (m : MethodId) (args : Array Value) (below : List Frame) (meth : Method) (c : Code) (H : Heap) (locs : List Loc) (cells slots mc ms : Nat) (g : JFrame) (rest : List Value) (Qa : State → Outcome → State → Prop) (XC : String → State → State → Prop) (free : Addr → Prop) : Prop :=
  ∀ T : State, T.heap = H → Stand p l e R s m args below meth c T locs cells slots →
    (∃ (v : Option Value) (st₀ t T' : State) (L : List Loc), st₀.heap = H ∧ Stand p l e R s m args below meth c T' (locs ++ L) (cells + mc) (slots + ms) ∧ (∀ q ∈ L, free q.base) ∧ T'.heap = t.heap ∧ T'.vm = t.vm ∧ Qa st₀ (.returned v) t ∧
      Goes p e below T g T' { g with pc := g.pc + 3, stack := v.toList ++ rest }) ∨
    (∃ (q : Addr) (st₀ t T' : State) (L : List Loc) (E : String) (ce : Cell), st₀.heap = H ∧ Stand p l e R s m args below meth c T' (locs ++ L) (cells + mc) (slots + ms) ∧ (∀ z ∈ L, free z.base) ∧ T'.heap = t.heap ∧ T'.vm = t.vm ∧ XC E st₀ t ∧ t.heap[q]? = some ce ∧ ce.vm = .none ∧ s.vm.findClass E = some ce.cls ∧
      Steps p.tables e below (T.setTop g) ((T'.setTop { g with stack := rest }).pushFrame (.throwing q)))
def vx_X {S : Type} (px : S → Prop) (B : String → S → State → Prop) (A : Nat → Prop) : String → State → State → Prop := fun E st t => ∃ u : S, px u ∧ B E u t ∧ va_F A st t
section Runs
variable {p : Program} {l : Launch} {e : Env} {R : Room} {s : State} {m : MethodId} {args : Array Value} {below : List Frame} {meth : Method} {c : Code} {H : Heap} {locs : List Loc} {cells slots : Nat}
variable {y : MethodName} {bytes cc : ByteArray} {maxL nL mc ms n index : Nat} {ret : Option FieldType} {ws : List Cond} {rm : Room} {Pc : Array Value → State → Prop} {Qc : Array Value → State → Outcome → State → Prop} {XC : String → State → State → Prop} {free : Addr → Prop} {Ts : List Cond} {own C : String} {b : Addr} {As rest : List Value} {g : JFrame}
theorem vx_callBack (cb : CallB R s args own index y bytes maxL ret ws rm mc ms n) (hM : vx_Met l y ws rm Pc Qc XC mc ms free) (hbl : FrameBlind Pc) : vx_Back l R p e below s args y 3 8 (PreOf R mc ms Pc) (PostOf Qc mc ms free) (vx_Post XC mc ms free) := by
  obtain ⟨hrc, hrs, hfr, hlo, hws, hcw, -, hini, -⟩ := cb
  exact vx_back (bytes := bytes) (maxL := maxL) (ret := ret) hM hbl hrc hrs hfr hlo hws hcw (fun a' U hW => word_at hW (Or.inl (by first | rfl | simp [Cond.onTables, Cond.keeps, Cond.steady])) hini)
theorem vx_runV (S : CallFix p m c cc nL s args Ts own) (hM : vx_Met l y ws rm Pc Qc XC mc ms free) (cw : CallW R s args own C index y bytes maxL ret ws rm mc ms n) (hp : PreV s H C b Pc As)
    (hg : g.method = m) (hn : As.length = n) (hsize : g.locals.size = nL) (hstack : g.stack = As.reverse ++ .ref b :: rest) (hW : 2 * g.monitorRoom + (rest.map fun v => v.category).sum ≤ 8) (hdg : decode cc g.pc = .ok (.invokevirtual index, 3)) (hf : cells + mc ≤ R.cells ∧ slots + ms ≤ R.slots) :
    vx_Run p l e R s m args below meth c H locs cells slots mc ms g rest (Qc (Value.ref b :: As).toArray) XC free := by
  have hK : vx_Back l R p e below s args y 3 8 (PreOf R mc ms Pc) (PostOf Qc mc ms free) (vx_Post XC mc ms free) := vx_callBack cw.1 hM hp.1
  obtain ⟨⟨-, -, -, -, -, -, hcode, -, hy, hlen, hl⟩, hin, hse⟩ := cw
  obtain ⟨hx, hb, hml, ho, -⟩ := S
  obtain ⟨-, ⟨cellB, hcB, hoB, hclB⟩, hPc⟩ := hp
  intro T hT X
  rcases vx_callV X hx (C := C) (bytes := bytes) (maxL := maxL) (ret := ret) ho hl hin hse hcode hy hK (by rw [hT]; exact hcB) hoB hclB hg (hsize.trans hml.symm) (argsL := As) (rest := rest) (fun sig h => hn.trans (hlen sig h)) hstack hW (by rw [hb]; exact hdg)
    (fun vm₁ hW₁ => ⟨hf.1, hf.2, hPc (T.setVm vm₁) hT hW₁⟩) with ⟨v, vm₁, ⟨U', l2, c2, s2⟩, hW₁, X', ⟨g', mk, t, L, e1, e2, hq, h1, hL, h2, h3⟩, st⟩ | ⟨q, vm₁, ⟨U', l2, c2, s2⟩, hW₁, X', ⟨g', mk, t, L, E, ce, e1, e2, hq, hce, hcv, hcl, h1, hL, h2, h3⟩, st⟩
  · dsimp only [Pt.U, Pt.locs, Pt.cells, Pt.slots] at X' e1 e2 h1 h2 h3 st
    subst h1; subst h2; subst h3
    exact Or.inl ⟨v, (T.setVm vm₁).calling g' mk (Value.ref b :: As).toArray, t, U', L, hT, X', hL, e1, e2, hq, st⟩
  · dsimp only [Pt.U, Pt.locs, Pt.cells, Pt.slots] at X' e1 e2 h1 h2 h3 st hcl
    subst h1; subst h2; subst h3
    exact Or.inr ⟨q, (T.setVm vm₁).calling g' mk (Value.ref b :: As).toArray, t, U', L, E, ce, hT, X', hL, e1, e2, hq, hce, hcv, vx_cls hW₁ hcl, st⟩
theorem vx_runS (S : CallFix p m c cc nL s args Ts own) (hM : vx_Met l y ws rm Pc Qc XC mc ms free) (cw : CallB R s args own index y bytes maxL ret ws rm mc ms n ∧ (Cond.static y).before args s = true) (hp : PreS s H Pc As)
    (hg : g.method = m) (hn : As.length = n) (hsize : g.locals.size = nL) (hstack : g.stack = As.reverse ++ rest) (hW : 2 * g.monitorRoom + (rest.map fun v => v.category).sum ≤ 8) (hdg : decode cc g.pc = .ok (.invokestatic index, 3)) (hf : cells + mc ≤ R.cells ∧ slots + ms ≤ R.slots) :
    vx_Run p l e R s m args below meth c H locs cells slots mc ms g rest (Qc As.toArray) XC free := by
  have hK : vx_Back l R p e below s args y 3 8 (PreOf R mc ms Pc) (PostOf Qc mc ms free) (vx_Post XC mc ms free) := vx_callBack cw.1 hM hp.1
  obtain ⟨⟨-, -, -, -, -, -, hcode, hini, hy, hlen, hl⟩, hstt⟩ := cw
  obtain ⟨hx, hb, hml, ho, -⟩ := S
  intro T hT X
  rcases vx_callS X hx (bytes := bytes) (maxL := maxL) (ret := ret) ho hl hstt hini hcode hy hK hg (hsize.trans hml.symm) (argsL := As) (rest := rest) (fun sig h => hn.trans (hlen sig h)) hstack hW (by rw [hb]; exact hdg)
    (fun vm₁ hW₁ => ⟨hf.1, hf.2, hp.2 (T.setVm vm₁) hT hW₁⟩) with ⟨v, vm₁, ⟨U', l2, c2, s2⟩, hW₁, X', ⟨g', mk, t, L, e1, e2, hq, h1, hL, h2, h3⟩, st⟩ | ⟨q, vm₁, ⟨U', l2, c2, s2⟩, hW₁, X', ⟨g', mk, t, L, E, ce, e1, e2, hq, hce, hcv, hcl, h1, hL, h2, h3⟩, st⟩
  · dsimp only [Pt.U, Pt.locs, Pt.cells, Pt.slots] at X' e1 e2 h1 h2 h3 st
    subst h1; subst h2; subst h3
    exact Or.inl ⟨v, (T.setVm vm₁).calling g' mk As.toArray, t, U', L, hT, X', hL, e1, e2, hq, st⟩
  · dsimp only [Pt.U, Pt.locs, Pt.cells, Pt.slots] at X' e1 e2 h1 h2 h3 st hcl
    subst h1; subst h2; subst h3
    exact Or.inr ⟨q, (T.setVm vm₁).calling g' mk As.toArray, t, U', L, E, ce, hT, X', hL, e1, e2, hq, hce, hcv, vx_cls hW₁ hcl, st⟩
end Runs
section Rows
variable {p : Program} {l : Launch} {e : Env} {R : Room} {s : State} {m : MethodId} {args : Array Value} {below : List Frame} {meth : Method} {c : Code} {H : Heap} {locs : List Loc} {cells slots : Nat} {Q : State → Prop}
variable {mc ms : Nat} {free : Addr → Prop} {A0 A1 : Nat → Prop} {H0 : Heap} {a : Array Value} {pc : Nat} {ls : Array Slot} {st0 rest : List Value}
theorem vx_keep {st₀ t T' : State} {L : List Loc} (h0 : st₀.heap = H) (e1 : T'.heap = t.heap) (hS : va_S A0 H0 H locs) (hA : ∀ q, q < H.size → A1 q → A0 q) (hf : ∀ q, free q → A0 q) (hL : ∀ q ∈ L, free q.base) (hF : va_F A1 st₀ t) :
    H.size ≤ T'.heap.size ∧ (∀ q : Nat, q < H.size → ¬ A1 q → T'.heap[q]? = H[q]?) ∧ va_S A0 H0 T'.heap (locs ++ L) := by
  obtain ⟨hz, hk⟩ := hF
  rw [h0] at hz hk
  exact ⟨by rw [e1]; exact hz, fun q h1 h2 => by rw [e1]; exact hk q h1 h2,
    ⟨Nat.le_trans hS.1 (by rw [e1]; exact hz), fun q h1 h2 => by rw [e1, hk q (Nat.lt_of_lt_of_le h1 hS.1) (fun z => h2 (hA q (Nat.lt_of_lt_of_le h1 hS.1) z))]; exact hS.2.1 q h1 h2, fun q hq => by
      rcases List.mem_append.mp hq with h | h
      · exact hS.2.2 q h
      · exact hf _ (hL q h)⟩⟩
theorem vx_calli {S SX : Type} {post : Int32 → S → Prop} {px : SX → Prop} {B : S → State → Prop} {BX : String → SX → State → Prop} {AX : Nat → Prop} (hr : vx_Run p l e R s m args below meth c H locs cells slots mc ms (F0 m pc ls st0) rest (va_Qi post B A1 a) (vx_X px BX AX) free) (hS : va_S A0 H0 H locs) (hA : ∀ q, q < H.size → A1 q → A0 q) (hf : ∀ q, free q → A0 q) (hAX : ∀ q, q < H.size → AX q → A0 q)
    (kx : ∀ (E : String) (ce : Cell) (q9 : Addr) (u : SX) (t : State) (H1 : Heap) (locs1 : List Loc), t.heap = H1 → s.vm.Alike t.vm → px u → BX E u t → H.size ≤ H1.size → (∀ q : Nat, q < H.size → ¬ AX q → H1[q]? = H[q]?) → va_S A0 H0 H1 locs1 → H1[q9]? = some ce → ce.vm = .none → s.vm.findClass E = some ce.cls → vx_W p l e R s m args below meth c H1 locs1 (cells + mc) (slots + ms) Q (F0 m pc ls rest) q9)
    (kk : ∀ (r : Int32) (u : S) (t : State) (H1 : Heap) (locs1 : List Loc), t.heap = H1 → s.vm.Alike t.vm → post r u → B u t → H.size ≤ H1.size → (∀ q : Nat, q < H.size → ¬ A1 q → H1[q]? = H[q]?) → va_S A0 H0 H1 locs1 → W p l e R s m args below meth c H1 locs1 (cells + mc) (slots + ms) Q (F0 m (pc + 3) ls (.int r :: rest))) : W p l e R s m args below meth c H locs cells slots Q (F0 m pc ls st0) := by
  intro T hT X
  rcases hr T hT X with ⟨v, st₀, t, T', L, h0, X', hL, e1, e2, ⟨⟨r, u, hv, hp, hb⟩, hF⟩, st⟩ | ⟨q, st₀, t, T', L, E, ce, h0, X', hL, e1, e2, ⟨u, hp, hb, hF⟩, hce, hcv, hcl, st⟩
  · cases hv
    obtain ⟨k1, k2, k3⟩ := vx_keep h0 e1 hS hA hf hL hF
    obtain ⟨t2, a1, b1⟩ := kk r u t T'.heap (locs ++ L) e1.symm (by rw [← e2]; exact X'.warmed.alike) hp hb k1 k2 k3 T' rfl X'
    exact ⟨t2, st t2 a1, b1⟩
  · obtain ⟨k1, k2, k3⟩ := vx_keep h0 e1 hS hAX hf hL hF
    obtain ⟨t2, a1, b1⟩ := kx E ce q u t T'.heap (locs ++ L) e1.symm (by rw [← e2]; exact X'.warmed.alike) hp hb k1 k2 k3 (by rw [e1]; exact hce) hcv hcl T' rfl X'
    exact ⟨t2, st.trans a1, b1⟩
theorem vx_calll {S SX : Type} {post : Int64 → S → Prop} {px : SX → Prop} {B : S → State → Prop} {BX : String → SX → State → Prop} {AX : Nat → Prop} (hr : vx_Run p l e R s m args below meth c H locs cells slots mc ms (F0 m pc ls st0) rest (va_Ql post B A1 a) (vx_X px BX AX) free) (hS : va_S A0 H0 H locs) (hA : ∀ q, q < H.size → A1 q → A0 q) (hf : ∀ q, free q → A0 q) (hAX : ∀ q, q < H.size → AX q → A0 q)
    (kx : ∀ (E : String) (ce : Cell) (q9 : Addr) (u : SX) (t : State) (H1 : Heap) (locs1 : List Loc), t.heap = H1 → s.vm.Alike t.vm → px u → BX E u t → H.size ≤ H1.size → (∀ q : Nat, q < H.size → ¬ AX q → H1[q]? = H[q]?) → va_S A0 H0 H1 locs1 → H1[q9]? = some ce → ce.vm = .none → s.vm.findClass E = some ce.cls → vx_W p l e R s m args below meth c H1 locs1 (cells + mc) (slots + ms) Q (F0 m pc ls rest) q9)
    (kk : ∀ (r : Int64) (u : S) (t : State) (H1 : Heap) (locs1 : List Loc), t.heap = H1 → s.vm.Alike t.vm → post r u → B u t → H.size ≤ H1.size → (∀ q : Nat, q < H.size → ¬ A1 q → H1[q]? = H[q]?) → va_S A0 H0 H1 locs1 → W p l e R s m args below meth c H1 locs1 (cells + mc) (slots + ms) Q (F0 m (pc + 3) ls (.long r :: rest))) : W p l e R s m args below meth c H locs cells slots Q (F0 m pc ls st0) := by
  intro T hT X
  rcases hr T hT X with ⟨v, st₀, t, T', L, h0, X', hL, e1, e2, ⟨⟨r, u, hv, hp, hb⟩, hF⟩, st⟩ | ⟨q, st₀, t, T', L, E, ce, h0, X', hL, e1, e2, ⟨u, hp, hb, hF⟩, hce, hcv, hcl, st⟩
  · cases hv
    obtain ⟨k1, k2, k3⟩ := vx_keep h0 e1 hS hA hf hL hF
    obtain ⟨t2, a1, b1⟩ := kk r u t T'.heap (locs ++ L) e1.symm (by rw [← e2]; exact X'.warmed.alike) hp hb k1 k2 k3 T' rfl X'
    exact ⟨t2, st t2 a1, b1⟩
  · obtain ⟨k1, k2, k3⟩ := vx_keep h0 e1 hS hAX hf hL hF
    obtain ⟨t2, a1, b1⟩ := kx E ce q u t T'.heap (locs ++ L) e1.symm (by rw [← e2]; exact X'.warmed.alike) hp hb k1 k2 k3 (by rw [e1]; exact hce) hcv hcl T' rfl X'
    exact ⟨t2, st.trans a1, b1⟩
theorem vx_callf {S SX : Type} {post : UInt32 → S → Prop} {px : SX → Prop} {B : S → State → Prop} {BX : String → SX → State → Prop} {AX : Nat → Prop} (hr : vx_Run p l e R s m args below meth c H locs cells slots mc ms (F0 m pc ls st0) rest (va_Qf post B A1 a) (vx_X px BX AX) free) (hS : va_S A0 H0 H locs) (hA : ∀ q, q < H.size → A1 q → A0 q) (hf : ∀ q, free q → A0 q) (hAX : ∀ q, q < H.size → AX q → A0 q)
    (kx : ∀ (E : String) (ce : Cell) (q9 : Addr) (u : SX) (t : State) (H1 : Heap) (locs1 : List Loc), t.heap = H1 → s.vm.Alike t.vm → px u → BX E u t → H.size ≤ H1.size → (∀ q : Nat, q < H.size → ¬ AX q → H1[q]? = H[q]?) → va_S A0 H0 H1 locs1 → H1[q9]? = some ce → ce.vm = .none → s.vm.findClass E = some ce.cls → vx_W p l e R s m args below meth c H1 locs1 (cells + mc) (slots + ms) Q (F0 m pc ls rest) q9)
    (kk : ∀ (r : UInt32) (u : S) (t : State) (H1 : Heap) (locs1 : List Loc), t.heap = H1 → s.vm.Alike t.vm → post r u → B u t → H.size ≤ H1.size → (∀ q : Nat, q < H.size → ¬ A1 q → H1[q]? = H[q]?) → va_S A0 H0 H1 locs1 → W p l e R s m args below meth c H1 locs1 (cells + mc) (slots + ms) Q (F0 m (pc + 3) ls (.float r :: rest))) : W p l e R s m args below meth c H locs cells slots Q (F0 m pc ls st0) := by
  intro T hT X
  rcases hr T hT X with ⟨v, st₀, t, T', L, h0, X', hL, e1, e2, ⟨⟨r, u, hv, hp, hb⟩, hF⟩, st⟩ | ⟨q, st₀, t, T', L, E, ce, h0, X', hL, e1, e2, ⟨u, hp, hb, hF⟩, hce, hcv, hcl, st⟩
  · cases hv
    obtain ⟨k1, k2, k3⟩ := vx_keep h0 e1 hS hA hf hL hF
    obtain ⟨t2, a1, b1⟩ := kk r u t T'.heap (locs ++ L) e1.symm (by rw [← e2]; exact X'.warmed.alike) hp hb k1 k2 k3 T' rfl X'
    exact ⟨t2, st t2 a1, b1⟩
  · obtain ⟨k1, k2, k3⟩ := vx_keep h0 e1 hS hAX hf hL hF
    obtain ⟨t2, a1, b1⟩ := kx E ce q u t T'.heap (locs ++ L) e1.symm (by rw [← e2]; exact X'.warmed.alike) hp hb k1 k2 k3 (by rw [e1]; exact hce) hcv hcl T' rfl X'
    exact ⟨t2, st.trans a1, b1⟩
theorem vx_calld {S SX : Type} {post : UInt64 → S → Prop} {px : SX → Prop} {B : S → State → Prop} {BX : String → SX → State → Prop} {AX : Nat → Prop} (hr : vx_Run p l e R s m args below meth c H locs cells slots mc ms (F0 m pc ls st0) rest (va_Qd post B A1 a) (vx_X px BX AX) free) (hS : va_S A0 H0 H locs) (hA : ∀ q, q < H.size → A1 q → A0 q) (hf : ∀ q, free q → A0 q) (hAX : ∀ q, q < H.size → AX q → A0 q)
    (kx : ∀ (E : String) (ce : Cell) (q9 : Addr) (u : SX) (t : State) (H1 : Heap) (locs1 : List Loc), t.heap = H1 → s.vm.Alike t.vm → px u → BX E u t → H.size ≤ H1.size → (∀ q : Nat, q < H.size → ¬ AX q → H1[q]? = H[q]?) → va_S A0 H0 H1 locs1 → H1[q9]? = some ce → ce.vm = .none → s.vm.findClass E = some ce.cls → vx_W p l e R s m args below meth c H1 locs1 (cells + mc) (slots + ms) Q (F0 m pc ls rest) q9)
    (kk : ∀ (r : UInt64) (u : S) (t : State) (H1 : Heap) (locs1 : List Loc), t.heap = H1 → s.vm.Alike t.vm → post r u → B u t → H.size ≤ H1.size → (∀ q : Nat, q < H.size → ¬ A1 q → H1[q]? = H[q]?) → va_S A0 H0 H1 locs1 → W p l e R s m args below meth c H1 locs1 (cells + mc) (slots + ms) Q (F0 m (pc + 3) ls (.double r :: rest))) : W p l e R s m args below meth c H locs cells slots Q (F0 m pc ls st0) := by
  intro T hT X
  rcases hr T hT X with ⟨v, st₀, t, T', L, h0, X', hL, e1, e2, ⟨⟨r, u, hv, hp, hb⟩, hF⟩, st⟩ | ⟨q, st₀, t, T', L, E, ce, h0, X', hL, e1, e2, ⟨u, hp, hb, hF⟩, hce, hcv, hcl, st⟩
  · cases hv
    obtain ⟨k1, k2, k3⟩ := vx_keep h0 e1 hS hA hf hL hF
    obtain ⟨t2, a1, b1⟩ := kk r u t T'.heap (locs ++ L) e1.symm (by rw [← e2]; exact X'.warmed.alike) hp hb k1 k2 k3 T' rfl X'
    exact ⟨t2, st t2 a1, b1⟩
  · obtain ⟨k1, k2, k3⟩ := vx_keep h0 e1 hS hAX hf hL hF
    obtain ⟨t2, a1, b1⟩ := kx E ce q u t T'.heap (locs ++ L) e1.symm (by rw [← e2]; exact X'.warmed.alike) hp hb k1 k2 k3 (by rw [e1]; exact hce) hcv hcl T' rfl X'
    exact ⟨t2, st.trans a1, b1⟩
theorem vx_callv {S SX : Type} {post : S → Prop} {px : SX → Prop} {B : S → State → Prop} {BX : String → SX → State → Prop} {AX : Nat → Prop} (hr : vx_Run p l e R s m args below meth c H locs cells slots mc ms (F0 m pc ls st0) rest (va_Qv post B A1 a) (vx_X px BX AX) free) (hS : va_S A0 H0 H locs) (hA : ∀ q, q < H.size → A1 q → A0 q) (hf : ∀ q, free q → A0 q) (hAX : ∀ q, q < H.size → AX q → A0 q)
    (kx : ∀ (E : String) (ce : Cell) (q9 : Addr) (u : SX) (t : State) (H1 : Heap) (locs1 : List Loc), t.heap = H1 → s.vm.Alike t.vm → px u → BX E u t → H.size ≤ H1.size → (∀ q : Nat, q < H.size → ¬ AX q → H1[q]? = H[q]?) → va_S A0 H0 H1 locs1 → H1[q9]? = some ce → ce.vm = .none → s.vm.findClass E = some ce.cls → vx_W p l e R s m args below meth c H1 locs1 (cells + mc) (slots + ms) Q (F0 m pc ls rest) q9)
    (kk : ∀ (u : S) (t : State) (H1 : Heap) (locs1 : List Loc), t.heap = H1 → s.vm.Alike t.vm → post u → B u t → H.size ≤ H1.size → (∀ q : Nat, q < H.size → ¬ A1 q → H1[q]? = H[q]?) → va_S A0 H0 H1 locs1 → W p l e R s m args below meth c H1 locs1 (cells + mc) (slots + ms) Q (F0 m (pc + 3) ls (rest))) : W p l e R s m args below meth c H locs cells slots Q (F0 m pc ls st0) := by
  intro T hT X
  rcases hr T hT X with ⟨v, st₀, t, T', L, h0, X', hL, e1, e2, ⟨⟨u, hv, hp, hb⟩, hF⟩, st⟩ | ⟨q, st₀, t, T', L, E, ce, h0, X', hL, e1, e2, ⟨u, hp, hb, hF⟩, hce, hcv, hcl, st⟩
  · cases hv
    obtain ⟨k1, k2, k3⟩ := vx_keep h0 e1 hS hA hf hL hF
    obtain ⟨t2, a1, b1⟩ := kk u t T'.heap (locs ++ L) e1.symm (by rw [← e2]; exact X'.warmed.alike) hp hb k1 k2 k3 T' rfl X'
    exact ⟨t2, st t2 a1, b1⟩
  · obtain ⟨k1, k2, k3⟩ := vx_keep h0 e1 hS hAX hf hL hF
    obtain ⟨t2, a1, b1⟩ := kx E ce q u t T'.heap (locs ++ L) e1.symm (by rw [← e2]; exact X'.warmed.alike) hp hb k1 k2 k3 (by rw [e1]; exact hce) hcv hcl T' rfl X'
    exact ⟨t2, st.trans a1, b1⟩
/-- caught by the row x of this method's table; the rows ahead don't take it -/
theorem vx_catch {own name : String} {E : String} {ce : Cell} {q : Addr} (hown : s.vm.findClass own = some m.cls) (pre : List ExceptionTableEntry) (x : ExceptionTableEntry) (suf : List ExceptionTableEntry) (hsplit : c.exceptionTable.toList = pre ++ x :: suf)
    (hpass : ∀ z ∈ pre, covers z pc = false ∨ (z.catchType ≠ 0 ∧ ∃ nm : String, (Cond.classLink own z.catchType nm).before args s = true ∧ va_Nc E nm s)) (hx : covers x pc = true) (h0 : x.catchType ≠ 0)
    (hlink : (Cond.classLink own x.catchType name).before args s = true) (hcast : (Cond.castable E name).before args s = true) (hcell : H[q]? = some ce) (hv : ce.vm = .none) (hcl : s.vm.findClass E = some ce.cls)
    (kk : W p l e R s m args below meth c H locs cells slots Q (F0 m x.handlerPc ls [.ref q])) : vx_W p l e R s m args below meth c H locs cells slots Q (F0 m pc ls rest) q := by
  intro T hT X
  have hpl : e.platform.magicAccessors = ({} : Platform).magicAccessors := by rw [X.admits.platform]
  obtain ⟨c3, c4, hc3, hc4, hasg⟩ := Cond.castable_spec hcast
  cases Option.some.inj (hc3.symm.trans hcl)
  obtain ⟨c5, hc5, hcl5⟩ := Cond.classLink_spec hown hlink e.platform hpl
  cases Option.some.inj (hc4.symm.trans hc5)
  obtain ⟨vm', X', st⟩ := X.thenCaughtThrough q (g := F0 m pc ls rest) rfl (Steps.refl _) (by rw [hT]; exact hcell) (by rw [hv]; rfl) (by obtain ⟨k9, h9, -⟩ := Vm.findClass_spec hcl; exact ⟨k9, h9⟩) pre x suf hsplit
    (fun z hz => by
      rcases hpass z hz with h | ⟨hz0, nm, hl1, hn1⟩
      · exact Or.inl h
      · obtain ⟨c6, hc6, hcl6⟩ := Cond.classLink_spec hown hl1 e.platform hpl
        obtain ⟨a8, b8, h1, h2, h3⟩ := hn1
        cases Option.some.inj (h1.symm.trans hcl)
        cases Option.some.inj (h2.symm.trans hc6)
        exact Or.inr ⟨hz0, _, hcl6, h3⟩) hx (Or.inr ⟨h0, c4, hcl5, hasg⟩)
  obtain ⟨t, a1, b1⟩ := kk (T.setVm vm') hT X'
  exact ⟨t, st.trans a1, b1⟩
end Rows
section Ends
variable {p : Program} {l : Launch} {e : Env} {R : Room} {s : State} {m : MethodId} {args : Array Value} {below : List Frame} {meth : Method} {c : Code} {H : Heap} {locs : List Loc} {cells slots : Nat} {Q : State → Prop}
variable {mc ms : Nat} {free : Addr → Prop} {A0 A1 : Nat → Prop} {H0 : Heap} {a : Array Value} {ls : Array Slot} {st0 rest : List Value}
variable {Qc : Array Value → State → Outcome → State → Prop} {XC : String → State → State → Prop}
/-- what a body that may throw owes at its end -/
def vx_MQ (below : List Frame) (Qc : Array Value → State → Outcome → State → Prop) (XC : String → State → State → Prop) (a : Array Value) (s : State) (mc ms : Nat) (free : Addr → Prop) : State → Prop := fun t =>
  ∃ o, t.status = .running ∧ Ended t below o ∧ vx_Q Qc XC mc ms free a s o t
theorem vx_ret {g : JFrame} {mc ms : Nat} (k : W p l e R s m args below meth c H locs cells slots (MQ below Qc args s mc ms free) g) : W p l e R s m args below meth c H locs cells slots (vx_MQ below Qc XC args s mc ms free) g := by
  intro T hT X
  obtain ⟨t, a1, o, b1, b2, b3, b4⟩ := k T hT X
  exact ⟨t, a1, o, b1, b2, Or.inl ⟨b3, b4⟩⟩
/-- not caught here: it goes on to the caller -/
theorem vx_widen {g : JFrame} {q : Addr} {k n : Nat} (h1 : cells ≤ k) (h2 : slots ≤ n) (kk : vx_W p l e R s m args below meth c H locs k n Q g q) : vx_W p l e R s m args below meth c H locs cells slots Q g q := fun T hT X => kk T hT (stand_widen X h1 h2)
theorem vx_out {pc : Nat} {E : String} {ce : Cell} {q : Addr} {mc ms : Nat} (hout : ∀ x ∈ c.exceptionTable.toList, covers x pc = false) (hlocks : meth.locks = false) (hcell : H[q]? = some ce) (hv : ce.vm = .none) (hcl : s.vm.findClass E = some ce.cls)
    (hx : ∀ t : State, t.heap = H → s.vm.Alike t.vm → XC E s t) (hf : ∀ z ∈ locs, free z.base) (hc : cells ≤ mc) (hs : slots ≤ ms) :
    vx_W p l e R s m args below meth c H locs cells slots (vx_MQ below Qc XC args s mc ms free) (F0 m pc ls rest) q := by
  intro T hT X
  obtain ⟨st1, hrun, hend, hW, hsm⟩ := X.leaveThrown q (g := F0 m pc ls rest) rfl rfl rfl hout hlocks
  have hcell9 : (T.setFrames (.throwing q :: below)).heap[q]? = some ce := by
    show T.heap[q]? = some ce
    rw [hT]; exact hcell
  exact ⟨_, st1, .threw q, hrun, hend, Or.inr ⟨q, rfl, E, ce, locs, hx _ hT hW.alike, hcell9, hv, hcl, hW, hsm.mono hc hs, hf⟩⟩
theorem vx_frame {U : State} {k n : Nat} (h : s.sameButNew ({ U with vm := s.vm } : State) locs k n) : s.heap.size ≤ U.heap.size ∧ ∀ q : Nat, q < s.heap.size → (∀ z ∈ locs, z.base ≠ q) → U.heap[q]? = s.heap[q]? := by
  obtain ⟨-, h2, -, -, -, h6⟩ := h
  refine ⟨h2, fun q hq hz => ?_⟩
  obtain ⟨c9, e1, e2, e3, e4⟩ := h6 q _ (Array.getElem?_eq_getElem hq)
  have hs : c9.slots = (s.heap[q]).slots := Array.ext_getElem? fun i => e4 i fun hm => hz _ hm rfl
  have h9 : c9 = s.heap[q] := by
    rw [hs] at e2
    exact e2
  have e5 : U.heap[q]? = some c9 := e1
  rw [e5, h9, Array.getElem?_eq_getElem hq]
/-- the words of a throw but the four that speak of the heap -/
def vx_no (w : Cond) : Bool := decide (w ≠ .isRef (.static Bundle.tN "UNASSIGNED_STACK" Bundle.steD)) && decide (w ≠ .isRef (.static Bundle.tN "SUPPRESSED_SENTINEL" Bundle.listD)) && decide (w ≠ .laysStatic Bundle.tN "UNASSIGNED_STACK" Bundle.steD) && decide (w ≠ .laysStatic Bundle.tN "SUPPRESSED_SENTINEL" Bundle.listD)
def vx_at0 (own : String) (ic : Nat) (X : String) (names : List String) : List Cond := (Bundle.ownAtoms0 own ic X names).filter vx_no
def vx_atS (own : String) (ic : Nat) (X : String) (names : List String) : List Cond := (Bundle.ownAtoms own ic X names).filter vx_no
/-- a word that the tables alone decide, or a good one -/
def vx_ot (w : Cond) : Bool := w.onTables || goodWord w
theorem vx_ot_at {args a' : Array Value} {s U : State} {w : Cond} (hW : s.WarmedH U.vm) (hvm : s.vm = U.vm) (hg : vx_ot w = true) (h : w.before args s = true) : w.before a' U = true := by
  simp only [vx_ot, Bool.or_eq_true] at hg
  rcases hg with hg | hg
  · exact va_tabs hg hvm h
  · exact word_at hW (good_of_word hg) h
/-- a list's words: the good ones out of the method's own list, the others by premises of their own -/
theorem vx_hat {args : Array Value} {s : State} {L B : List Cond} (h1 : ∀ w ∈ L.filter goodWord, w.before args s = true) (h2 : ∀ w ∈ L.filter (fun w => !goodWord w), w ∈ B) (h3 : ∀ w ∈ B, w.before args s = true) : ∀ w ∈ L, w.before args s = true := by
  intro w hw
  by_cases g : goodWord w = true
  · exact h1 w (List.mem_filter.mpr ⟨hw, g⟩)
  · refine h3 w (h2 w (List.mem_filter.mpr ⟨hw, ?_⟩))
    show (!goodWord w) = true
    cases hgw : goodWord w
    · rfl
    · exact absurd hgw g
theorem vx_c {args : Array Value} {s : State} {w : Cond} {B : List Cond} (h : w.before args s = true) (t : ∀ w ∈ B, w.before args s = true) : ∀ w' ∈ w :: B, w'.before args s = true := fun w' h' => (List.mem_cons.mp h').elim (fun e => by rw [e]; exact h) (t w')
theorem vx_n {args : Array Value} {s : State} : ∀ w ∈ ([] : List Cond), w.before args s = true := fun _ h => nomatch h
theorem vx_own {args : Array Value} {s : State} {L : List Cond} (h1 : ∀ w ∈ L.filter vx_no, w.before args s = true)
    (hU : (Cond.isRef (.static Bundle.tN "UNASSIGNED_STACK" Bundle.steD)).before args s = true) (hN : (Cond.isRef (.static Bundle.tN "SUPPRESSED_SENTINEL" Bundle.listD)).before args s = true)
    (lU : (Cond.laysStatic Bundle.tN "UNASSIGNED_STACK" Bundle.steD).before args s = true) (lN : (Cond.laysStatic Bundle.tN "SUPPRESSED_SENTINEL" Bundle.listD).before args s = true) : ∀ w ∈ L, w.before args s = true := by
  intro w hw
  by_cases e1 : w = .isRef (.static Bundle.tN "UNASSIGNED_STACK" Bundle.steD)
  · rw [e1]; exact hU
  · by_cases e2 : w = .isRef (.static Bundle.tN "SUPPRESSED_SENTINEL" Bundle.listD)
    · rw [e2]; exact hN
    · by_cases e3 : w = .laysStatic Bundle.tN "UNASSIGNED_STACK" Bundle.steD
      · rw [e3]; exact lU
      · by_cases e4 : w = .laysStatic Bundle.tN "SUPPRESSED_SENTINEL" Bundle.listD
        · rw [e4]; exact lN
        · exact h1 w (List.mem_filter.mpr ⟨hw, by unfold vx_no; rw [decide_eq_true e1, decide_eq_true e2, decide_eq_true e3, decide_eq_true e4]; rfl⟩)
/-- where a static field lies, its class's statics cell in H -/
def vx_L (C n d : String) (A : Nat → Prop) (U : State) (H : Heap) : Prop := ∃ (c : ClassId) (k : Class) (i : Nat) (f : Field) (a : Nat) (cell : Cell), U.vm.findClass C = some c ∧ U.fieldFound? C n d = some (c, k, i, f) ∧ f.isStatic = true ∧ k.statics = some a ∧ H[a]? = some cell ∧ cell.vm.isStatics = true ∧ cell.cls = c ∧ f.slot < cell.slots.size ∧ k.staticTypes[f.slot]? = some f.type ∧ ¬ A a
theorem vx_L.moved {C n d : String} {A : Nat → Prop} {u U : State} {H : Heap} (hvm : u.vm.Alike U.vm) (h : vx_L C n d A u H) : vx_L C n d A U H := by
  obtain ⟨c, k, i, f, a, cell, h1, h2, h3, h4, h5, h6, h7, h8, h9, h10⟩ := h
  obtain ⟨k', hi', he⟩ := State.fieldFound?_setVm hvm h2
  exact ⟨c, k', i, f, a, cell, by rw [hvm.findClass]; exact h1, hi', h3, by rw [he]; exact h4, h5, h6, h7, h8, by rw [he]; exact h9, h10⟩
theorem vx_L.kept {C n d : String} {A : Nat → Prop} {U : State} {H H1 : Heap} (h : vx_L C n d A U H) (hq : ∀ a : Nat, a < H.size → ¬ A a → H1[a]? = H[a]?) : vx_L C n d A U H1 := by
  obtain ⟨c, k, i, f, a, cell, h1, h2, h3, h4, h5, h6, h7, h8, h9, h10⟩ := h
  exact ⟨c, k, i, f, a, cell, h1, h2, h3, h4, by rw [hq a (Array.getElem?_eq_some_iff.mp h5).1 h10]; exact h5, h6, h7, h8, h9, h10⟩
theorem vx_L.narrow {C n d : String} {A B : Nat → Prop} {U : State} {H : Heap} (h : vx_L C n d A U H) (hAB : ∀ q, B q → A q) : vx_L C n d B U H := by
  obtain ⟨c, k, i, f, a, cell, h1, h2, h3, h4, h5, h6, h7, h8, h9, h10⟩ := h
  exact ⟨c, k, i, f, a, cell, h1, h2, h3, h4, h5, h6, h7, h8, h9, fun z => h10 (hAB _ z)⟩
theorem vx_L.word {C n d : String} {A : Nat → Prop} {s : State} {args : Array Value} (h : vx_L C n d A s s.heap) : (Cond.laysStatic C n d).before args s = true := by
  obtain ⟨c, k, i, f, a, cell, h1, h2, h3, h4, h5, h6, h7, h8, h9, -⟩ := h
  show (Cond.laysStatic C n d).holds args s none s [] = true
  exact Cond.laysStatic_of h1 h2 h3 h4 h5 h6 h7 h8 h9
/-- .. and what it holds: null or some reference -/
def vx_Zq (C n d : String) (A : Nat → Prop) (U : State) (H : Heap) : Prop := va_Zq C n d A U H ∧ vx_L C n d A U H
theorem vx_Zq.moved {C n d : String} {A : Nat → Prop} {u U : State} {H : Heap} (hvm : u.vm.Alike U.vm) (h : vx_Zq C n d A u H) : vx_Zq C n d A U H := ⟨va_Zq.moved hvm h.1, vx_L.moved hvm h.2⟩
theorem vx_Zq.kept {C n d : String} {A : Nat → Prop} {U : State} {H H1 : Heap} (h : vx_Zq C n d A U H) (hq : ∀ a : Nat, a < H.size → ¬ A a → H1[a]? = H[a]?) : vx_Zq C n d A U H1 := ⟨va_Zq.kept h.1 hq, vx_L.kept h.2 hq⟩
theorem vx_Zq.narrow {C n d : String} {A B : Nat → Prop} {U : State} {H : Heap} (h : vx_Zq C n d A U H) (hAB : ∀ q, B q → A q) : vx_Zq C n d B U H := ⟨va_Zq.narrow h.1 hAB, vx_L.narrow h.2 hAB⟩
theorem vx_Zqof {args : Array Value} {s : State} {C n d : String} {A : Nat → Prop} (hl : (Cond.laysStatic C n d).before args s = true) (hini : (Cond.initialized C).before args s = true) (h : (Cond.isRef (.static C n d)).before args s = true) (hA : ∀ a : Nat, a < s.heap.size → ¬ A a) : vx_Zq C n d A s s.heap := by
  refine ⟨va_Zqof hl hini h hA, ?_⟩
  obtain ⟨c, k, i, f, a, cell, h1, h2, h3, h4, h5, h6, h7, h8, h9⟩ := Cond.laysStatic_spec hl
  exact ⟨c, k, i, f, a, cell, h1, h2, h3, h4, h5, h6, h7, h8, h9, hA a (Array.getElem?_eq_some_iff.mp h5).1⟩
theorem vx_isRef {C n d : String} {v : Value} {A : Nat → Prop} {s : State} {args : Array Value} (h : va_Z C n d v A s s.heap) (hv : v.isRef = true) : (Cond.isRef (.static C n d)).before args s = true := by
  obtain ⟨cf, kf, fi, f, a, cell, h1, h2, h3, h4, h5, h6, h7, -⟩ := h
  have he : (Term.static C n d).eval args s none [] s = some v := by
    simp [Term.eval, State.fieldNamed?, h1, h2, h4, h5, h6, h7]
  simp only [Cond.before, Cond.holds, Cond.value, he]
  cases v <;> simp_all [Value.isRef]
theorem vx_isRefq {C n d : String} {A : Nat → Prop} {s : State} {args : Array Value} (h : va_Zq C n d A s s.heap) : (Cond.isRef (.static C n d)).before args s = true := by
  rcases h with h | ⟨t, h⟩
  · exact vx_isRef h rfl
  · exact vx_isRef h rfl
/-- the same frame, seen from here: as if the method were called anew in this heap -/
theorem vx_rebase {T : State} (X : Stand p l e R s m args below meth c T locs cells slots) {R' : Room} (hf : R'.frames ≤ R.frames) (hl : R'.locals ≤ R.locals) (hc : cells + R'.cells ≤ R.cells) (hs : slots + R'.slots ≤ R.slots) :
    Stand p l e R' ((T.setVm s.vm).setFrames (.invoking m args :: below)) m args below meth c T [] 0 0 := by
  have htop : (T.setVm s.vm).topJava?.isSome := X.here.top
  have hF : ((T.setVm s.vm).setFrames (.invoking m args :: below)).frames = .invoking m args :: below := State.frames_setFrames _ (State.cur_lt_of_top htop)
  obtain ⟨g₀, hg0⟩ := Option.isSome_iff_exists.mp htop
  obtain ⟨r, hr⟩ := State.topJava?_eq_some.mp hg0
  have hl9 : e.platform.stackLimits (T.setVm s.vm).me = e.platform.stackLimits s.me := X.limits
  have hb9 : (T.setVm s.vm).me.stackBytes = s.me.stackBytes := X.bytes
  refine ⟨X.admits, X.cas, X.clock, hF, ?_, X.hears, X.method, X.code, X.here, X.tail, X.warmed, ?_, ?_, ?_⟩
  · have h := X.room
    have hU : ((T.setVm s.vm).setFrames (.invoking m args :: below)).localsInUse = s.localsInUse := by
      rw [State.localsInUse_invoking hF (meth := meth) (c := c) X.method X.code, State.localsInUse_invoking X.frames X.method X.code]
    simp only [State.hasRoom, Bool.and_eq_true, decide_eq_true_eq] at h ⊢
    obtain ⟨⟨⟨⟨h1, h2, h3, h4, h5, h6⟩, h7⟩, h8⟩, h9⟩ := h
    rw [X.frames, List.length_cons] at h2 h3
    have q1 := X.heapSize
    have q2 := X.used
    simp only [hF, hU, List.length_cons, State.stackLimits_setFrames, State.stackBytes_setFrames, hl9, hb9]
    refine ⟨⟨⟨⟨by omega, by omega, by omega, by omega, by omega, h6⟩, ?_⟩, ?_⟩, X.book⟩
    · show T.heap.size + R'.cells ≤ e.platform.maxCells
      omega
    · show T.slotsUsed + R'.slots ≤ e.platform.maxSlots
      omega
  · rw [State.stackLimits_setFrames]; rfl
  · rw [State.stackBytes_setFrames]; rfl
  · refine ⟨?_, Nat.le_refl _, Nat.le_refl _, ?_, ?_, fun a c9 h9 => ⟨c9, h9, rfl, rfl, fun _ _ => rfl⟩⟩
    · obtain ⟨t, ht, -⟩ := State.frames_cons hr
      show T.setVm s.vm = { ((T.setVm s.vm).setFrames (.invoking m args :: below)).setFrames (T.setVm s.vm).frames with heap := T.heap, slotsUsed := T.slotsUsed }
      rw [State.setFrames_setFrames, State.setFrames_self ht]
      rfl
    · show T.slotsUsed = T.slotsUsed + ((T.heap.toList.drop T.heap.size).map (·.slots.size)).sum
      rw [List.drop_eq_nil_of_le (Nat.le_of_eq Array.length_toList)]
      rfl
    · show ((T.heap.toList.drop T.heap.size).map (·.slots.size)).sum ≤ 0
      rw [List.drop_eq_nil_of_le (Nat.le_of_eq Array.length_toList)]
      exact Nat.le_refl _
/-- 'throw new E()': new; dup; invokespecial; athrow -/
theorem vx_throw0 {cc : ByteArray} {pc : Nat} (hexec : p.tables.exec = Jvm.exec) (hb : c.code = cc) (hl : l.stackTraces = false) {own cls : String} {names : List String} {ik ic mc ms : Nat} {A : Nat → Prop}
    (hown : s.vm.findClass own = some m.cls) (hcls : Bundle.fit cls = true) (hnames : ∀ n ∈ names, Bundle.fit n = true)
    (hk : (Cond.classLink own ik cls).before args s = true) (hini : (Cond.initialized cls).before args s = true) (hat : ∀ w ∈ vx_at0 own ic cls names, w.before args s = true)
    (hgood : ∀ w ∈ Cond.classLink own ik cls :: Cond.initialized cls :: vx_at0 own ic cls names, vx_ot w = true)
    (hU : vx_Zq Bundle.tN "UNASSIGNED_STACK" Bundle.steD A s s.heap) (hN : vx_Zq Bundle.tN "SUPPRESSED_SENTINEL" Bundle.listD A s s.heap) (hS : va_S A s.heap H locs) (hsize : ls.size = c.maxLocals)
    (d0 : decode cc pc = .ok (.new ik, 3)) (d3 : decode cc (pc + 3) = .ok (.dup, 1)) (d4 : decode cc (pc + 4) = .ok (.invokespecial ic, 3)) (d7 : decode cc (pc + 7) = .ok (.athrow, 1))
    (hout : ∀ x ∈ c.exceptionTable.toList, covers x (pc + 7) = false)
    (hRframes : names.length + 3 < R.frames) (hRlocals : (rest.map fun v => v.category).sum + (13 * (names.length + 1) + 42) ≤ R.locals) (hRcells : cells + 1 ≤ R.cells) (hRslots : slots + 6 ≤ R.slots) (hlocks : meth.locks = false)
    (hx : ∀ t : State, s.vm.Alike t.vm → H.size ≤ t.heap.size → (∀ q : Nat, q < H.size → t.heap[q]? = H[q]?) → XC cls s t)
    (hf : ∀ z ∈ locs, free z.base) (hc : cells + 1 ≤ mc) (hs : slots + 6 ≤ ms) :
    W p l e R s m args below meth c H locs cells slots (vx_MQ below Qc XC args s mc ms free) (F0 m pc ls rest) := by
  intro T hT X
  have htr : e.platform.stackTraces = false := (show e.platform.stackTraces = l.stackTraces by rw [X.admits.platform]).trans hl
  have Y := vx_rebase X (R' := { frames := R.frames, locals := R.locals, cells := 1, slots := 6 }) (Nat.le_refl _) (Nat.le_refl _) hRcells hRslots
  obtain ⟨s', hA⟩ : ∃ z, z = (T.setVm s.vm).setFrames (.invoking m args :: below) := ⟨_, rfl⟩
  rw [← hA] at Y
  have hvm : s'.vm = s.vm := by rw [hA]; rfl
  have hhp : s'.heap = H := by rw [hA]; exact hT
  have hW0 : s.WarmedH s'.vm := by rw [hvm]; exact State.WarmedH.refl s
  have hat' : ∀ w ∈ vx_at0 own ic cls names, w.before args s' = true := fun w hw => vx_ot_at hW0 hvm.symm (hgood w (List.mem_cons_of_mem _ (List.mem_cons_of_mem _ hw))) (hat w hw)
  have hk' : (Cond.classLink own ik cls).before args s' = true := vx_ot_at hW0 hvm.symm (hgood _ List.mem_cons_self) hk
  have hini' : (Cond.initialized cls).before args s' = true := vx_ot_at hW0 hvm.symm (hgood _ (List.mem_cons_of_mem _ List.mem_cons_self)) hini
  have hU' : vx_Zq Bundle.tN "UNASSIGNED_STACK" Bundle.steD A s' s'.heap := by rw [hhp]; exact vx_Zq.moved hW0.alike (hU.kept hS.2.1)
  have hN' : vx_Zq Bundle.tN "SUPPRESSED_SENTINEL" Bundle.listD A s' s'.heap := by rw [hhp]; exact vx_Zq.moved hW0.alike (hN.kept hS.2.1)
  have h : ∀ w ∈ Bundle.ownAtoms0 own ic cls names, w.before args s' = true := vx_own hat' (vx_isRefq hU'.1) (vx_isRefq hN'.1) hU'.2.word hN'.2.word
  have hown' : s'.vm.findClass own = some m.cls := by rw [hvm]; exact hown
  have hins : (Cond.instantiable cls 6).before args s' = true := h _ (by simp [Bundle.ownAtoms0])
  obtain ⟨vm₁, cX, kX, hfX, hkX, -, -, X₁, st1⟩ := Y.newCold hexec (own := own) (C := cls) (index := ik) (n := 6) hown' hk' hins hini'
    (g := F0 m pc ls rest) rfl (by rw [hb]; exact d0) (Nat.le_refl _) (Nat.le_refl _)
  generalize hT1 : (T.setVm vm₁).pushCell { cls := cX, slots := kX.instanceTypes.map defaultValue, vm := .none } = T1 at X₁ st1
  have hcat : (Value.ref T.heap.size).category = 1 := rfl
  have hcellA : T1.heap[T.heap.size]? = some (freshCell cX kX) := by rw [← hT1]; exact State.heap_pushCell_size _ _
  have d3' : decode c.code (pc + 3) = .ok (.dup, 1) := by rw [hb]; exact d3
  obtain ⟨U, hsteps, hrun, hend, hW, hsame, ce, hce, hO⟩ := X₁.ctorThrow0 hexec htr (own := own) (cls := cls) (names := names) (ic := ic) hown' hcls hnames h (fun x hx => nomatch hx) hfX hkX hcellA (by rw [hhp, hT]; exact Nat.le_refl _)
    (g := { method := m, pc := pc + 4, locals := ls, stack := .ref T.heap.size :: .ref T.heap.size :: rest, locked := none }) rfl hsize rfl rfl (rest := rest) rfl
    (by rw [hb]; exact d4) (by rw [hb]; exact d7) hout hRframes (by simp only [List.map_cons, List.sum_cons, hcat]; omega) hlocks
  obtain ⟨f1, f2⟩ := vx_frame hsame
  rw [hhp] at f1 f2
  have hWs : s.WarmedH U.vm := State.WarmedH.trans hW0 hW
  have hcl : s.vm.findClass cls = some ce.cls := by
    have h9 := hO.cls
    rw [hvm] at h9
    exact h9
  have hall : s.sameButNew ({ U with vm := s.vm } : State) locs mc ms := by
    subst hA
    obtain ⟨e1, e2⟩ := hsame
    rw [State.setFrames_setFrames] at e1
    have h2 : (T.setVm s.vm).sameButNew ({ U with vm := s.vm } : State) [] (0 + 1) (0 + 6) := ⟨e1, e2⟩
    have h3 := X.same.trans h2
    rw [List.append_nil] at h3
    exact h3.mono hc hs
  refine ⟨U, ?_, .threw T.heap.size, hrun, hend, Or.inr ⟨T.heap.size, rfl, cls, ce, locs, hx U hWs.alike f1 (fun q hq => f2 q hq (fun z hz => nomatch hz)), hce, hO.vm, hcl, hWs, hall, hf⟩⟩
  refine st1 _ ?_
  show Steps p.tables e below (T1.setTop { method := m, pc := pc + 3, locals := ls, stack := .ref T.heap.size :: rest, locked := none }) _
  jvm_step X₁.here [X₁.here.top, hexec, d3', Value.category]
  exact hsteps
/-- 'throw new E("text")': new; dup; ldc; invokespecial; athrow -/
theorem vx_throwS {cc : ByteArray} {pc : Nat} (hexec : p.tables.exec = Jvm.exec) (hb : c.code = cc) (hl : l.stackTraces = false) {own cls text : String} {names : List String} {ik is ic mc ms sa : Nat} {A : Nat → Prop}
    (hown : s.vm.findClass own = some m.cls) (hcls : Bundle.fit cls = true) (hnames : ∀ n ∈ names, Bundle.fit n = true)
    (hk : (Cond.classLink own ik cls).before args s = true) (hini : (Cond.initialized cls).before args s = true) (hstr : vk_R own is text sa s) (hat : ∀ w ∈ vx_atS own ic cls names, w.before args s = true)
    (hgood : ∀ w ∈ Cond.classLink own ik cls :: Cond.initialized cls :: vx_atS own ic cls names, vx_ot w = true)
    (hU : vx_Zq Bundle.tN "UNASSIGNED_STACK" Bundle.steD A s s.heap) (hN : vx_Zq Bundle.tN "SUPPRESSED_SENTINEL" Bundle.listD A s s.heap) (hS : va_S A s.heap H locs) (hsize : ls.size = c.maxLocals)
    (d0 : decode cc pc = .ok (.new ik, 3)) (d3 : decode cc (pc + 3) = .ok (.dup, 1)) (d4 : decode cc (pc + 4) = .ok (.ldc is, 2)) (d6 : decode cc (pc + 6) = .ok (.invokespecial ic, 3)) (d9 : decode cc (pc + 9) = .ok (.athrow, 1))
    (hout : ∀ x ∈ c.exceptionTable.toList, covers x (pc + 9) = false)
    (hRframes : names.length + 3 < R.frames) (hRlocals : (rest.map fun v => v.category).sum + (13 * (names.length + 1) + 43) ≤ R.locals) (hRcells : cells + 1 ≤ R.cells) (hRslots : slots + 6 ≤ R.slots) (hlocks : meth.locks = false)
    (hx : ∀ t : State, s.vm.Alike t.vm → H.size ≤ t.heap.size → (∀ q : Nat, q < H.size → t.heap[q]? = H[q]?) → XC cls s t)
    (hf : ∀ z ∈ locs, free z.base) (hc : cells + 1 ≤ mc) (hs : slots + 6 ≤ ms) :
    W p l e R s m args below meth c H locs cells slots (vx_MQ below Qc XC args s mc ms free) (F0 m pc ls rest) := by
  intro T hT X
  have htr : e.platform.stackTraces = false := (show e.platform.stackTraces = l.stackTraces by rw [X.admits.platform]).trans hl
  have Y := vx_rebase X (R' := { frames := R.frames, locals := R.locals, cells := 1, slots := 6 }) (Nat.le_refl _) (Nat.le_refl _) hRcells hRslots
  obtain ⟨s', hA⟩ : ∃ z, z = (T.setVm s.vm).setFrames (.invoking m args :: below) := ⟨_, rfl⟩
  rw [← hA] at Y
  have hvm : s'.vm = s.vm := by rw [hA]; rfl
  have hhp : s'.heap = H := by rw [hA]; exact hT
  have hW0 : s.WarmedH s'.vm := by rw [hvm]; exact State.WarmedH.refl s
  have hat' : ∀ w ∈ vx_atS own ic cls names, w.before args s' = true := fun w hw => vx_ot_at hW0 hvm.symm (hgood w (List.mem_cons_of_mem _ (List.mem_cons_of_mem _ hw))) (hat w hw)
  have hk' : (Cond.classLink own ik cls).before args s' = true := vx_ot_at hW0 hvm.symm (hgood _ List.mem_cons_self) hk
  have hini' : (Cond.initialized cls).before args s' = true := vx_ot_at hW0 hvm.symm (hgood _ (List.mem_cons_of_mem _ List.mem_cons_self)) hini
  have hU' : vx_Zq Bundle.tN "UNASSIGNED_STACK" Bundle.steD A s' s'.heap := by rw [hhp]; exact vx_Zq.moved hW0.alike (hU.kept hS.2.1)
  have hN' : vx_Zq Bundle.tN "SUPPRESSED_SENTINEL" Bundle.listD A s' s'.heap := by rw [hhp]; exact vx_Zq.moved hW0.alike (hN.kept hS.2.1)
  have h : ∀ w ∈ Bundle.ownAtoms own ic cls names, w.before args s' = true := vx_own hat' (vx_isRefq hU'.1) (vx_isRefq hN'.1) hU'.2.word hN'.2.word
  have hown' : s'.vm.findClass own = some m.cls := by rw [hvm]; exact hown
  have hins : (Cond.instantiable cls 6).before args s' = true := h _ (by simp [Bundle.ownAtoms])
  obtain ⟨vm₁, cX, kX, hfX, hkX, -, -, X₁, st1⟩ := Y.newCold hexec (own := own) (C := cls) (index := ik) (n := 6) hown' hk' hins hini'
    (g := F0 m pc ls rest) rfl (by rw [hb]; exact d0) (Nat.le_refl _) (Nat.le_refl _)
  generalize hT1 : (T.setVm vm₁).pushCell { cls := cX, slots := kX.instanceTypes.map defaultValue, vm := .none } = T1 at X₁ st1
  have hcat : (Value.ref T.heap.size).category = 1 := rfl
  have hcellA : T1.heap[T.heap.size]? = some (freshCell cX kX) := by rw [← hT1]; exact State.heap_pushCell_size _ _
  have d3' : decode c.code (pc + 3) = .ok (.dup, 1) := by rw [hb]; exact d3
  have d4' : decode c.code (pc + 4) = .ok (.ldc is, 2) := by rw [hb]; exact d4
  have hstr' : vk_R own is text sa s' := vk_R.warm hW0 hstr
  obtain ⟨U, hsteps, hrun, hend, hW, hsame, ce, hce, hO⟩ := X₁.ctorThrowS hexec htr (own := own) (cls := cls) (names := names) (ic := ic) hown' hcls hnames h (fun x hx => nomatch hx) hfX hkX hcellA (by rw [hhp, hT]; exact Nat.le_refl _) (msg := .ref sa) rfl
    (g := { method := m, pc := pc + 6, locals := ls, stack := .ref sa :: .ref T.heap.size :: .ref T.heap.size :: rest, locked := none }) rfl hsize rfl rfl (rest := rest) rfl
    (by rw [hb]; exact d6) (by rw [hb]; exact d9) hout hRframes (by simp only [List.map_cons, List.sum_cons, hcat]; omega) hlocks
  obtain ⟨f1, f2⟩ := vx_frame hsame
  rw [hhp] at f1 f2
  have hWs : s.WarmedH U.vm := State.WarmedH.trans hW0 hW
  have hcl : s.vm.findClass cls = some ce.cls := by
    have h9 := hO.cls
    rw [hvm] at h9
    exact h9
  have hall : s.sameButNew ({ U with vm := s.vm } : State) locs mc ms := by
    subst hA
    obtain ⟨e1, e2⟩ := hsame
    rw [State.setFrames_setFrames] at e1
    have h2 : (T.setVm s.vm).sameButNew ({ U with vm := s.vm } : State) [] (0 + 1) (0 + 6) := ⟨e1, e2⟩
    have h3 := X.same.trans h2
    rw [List.append_nil] at h3
    exact h3.mono hc hs
  refine ⟨U, ?_, .threw T.heap.size, hrun, hend, Or.inr ⟨T.heap.size, rfl, cls, ce, locs, hx U hWs.alike f1 (fun q hq => f2 q hq (fun z hz => nomatch hz)), hce, hO.vm, hcl, hWs, hall, hf⟩⟩
  refine st1 _ ?_
  show Steps p.tables e below (T1.setTop { method := m, pc := pc + 3, locals := ls, stack := .ref T.heap.size :: rest, locked := none }) _
  jvm_step X₁.here [X₁.here.top, hexec, d3', Value.category]
  exact X₁.ldcString hexec (own := own) (text := text) (index := is) (a := sa) hown' hstr'.1 hstr'.2
    (g := { method := m, pc := pc + 4, locals := ls, stack := .ref T.heap.size :: .ref T.heap.size :: rest, locked := none }) rfl d4' _ hsteps
/-- 'throw new E("text")', the text by a wide index -/
theorem vx_throwSW {cc : ByteArray} {pc : Nat} (hexec : p.tables.exec = Jvm.exec) (hb : c.code = cc) (hl : l.stackTraces = false) {own cls text : String} {names : List String} {ik is ic mc ms sa : Nat} {A : Nat → Prop}
    (hown : s.vm.findClass own = some m.cls) (hcls : Bundle.fit cls = true) (hnames : ∀ n ∈ names, Bundle.fit n = true)
    (hk : (Cond.classLink own ik cls).before args s = true) (hini : (Cond.initialized cls).before args s = true) (hstr : vk_R own is text sa s) (hat : ∀ w ∈ vx_atS own ic cls names, w.before args s = true)
    (hgood : ∀ w ∈ Cond.classLink own ik cls :: Cond.initialized cls :: vx_atS own ic cls names, vx_ot w = true)
    (hU : vx_Zq Bundle.tN "UNASSIGNED_STACK" Bundle.steD A s s.heap) (hN : vx_Zq Bundle.tN "SUPPRESSED_SENTINEL" Bundle.listD A s s.heap) (hS : va_S A s.heap H locs) (hsize : ls.size = c.maxLocals)
    (d0 : decode cc pc = .ok (.new ik, 3)) (d3 : decode cc (pc + 3) = .ok (.dup, 1)) (d4 : decode cc (pc + 4) = .ok (.ldc_w is, 3)) (d7 : decode cc (pc + 7) = .ok (.invokespecial ic, 3)) (d10 : decode cc (pc + 10) = .ok (.athrow, 1))
    (hout : ∀ x ∈ c.exceptionTable.toList, covers x (pc + 10) = false)
    (hRframes : names.length + 3 < R.frames) (hRlocals : (rest.map fun v => v.category).sum + (13 * (names.length + 1) + 43) ≤ R.locals) (hRcells : cells + 1 ≤ R.cells) (hRslots : slots + 6 ≤ R.slots) (hlocks : meth.locks = false)
    (hx : ∀ t : State, s.vm.Alike t.vm → H.size ≤ t.heap.size → (∀ q : Nat, q < H.size → t.heap[q]? = H[q]?) → XC cls s t)
    (hf : ∀ z ∈ locs, free z.base) (hc : cells + 1 ≤ mc) (hs : slots + 6 ≤ ms) :
    W p l e R s m args below meth c H locs cells slots (vx_MQ below Qc XC args s mc ms free) (F0 m pc ls rest) := by
  intro T hT X
  have htr : e.platform.stackTraces = false := (show e.platform.stackTraces = l.stackTraces by rw [X.admits.platform]).trans hl
  have Y := vx_rebase X (R' := { frames := R.frames, locals := R.locals, cells := 1, slots := 6 }) (Nat.le_refl _) (Nat.le_refl _) hRcells hRslots
  obtain ⟨s', hA⟩ : ∃ z, z = (T.setVm s.vm).setFrames (.invoking m args :: below) := ⟨_, rfl⟩
  rw [← hA] at Y
  have hvm : s'.vm = s.vm := by rw [hA]; rfl
  have hhp : s'.heap = H := by rw [hA]; exact hT
  have hW0 : s.WarmedH s'.vm := by rw [hvm]; exact State.WarmedH.refl s
  have hat' : ∀ w ∈ vx_atS own ic cls names, w.before args s' = true := fun w hw => vx_ot_at hW0 hvm.symm (hgood w (List.mem_cons_of_mem _ (List.mem_cons_of_mem _ hw))) (hat w hw)
  have hk' : (Cond.classLink own ik cls).before args s' = true := vx_ot_at hW0 hvm.symm (hgood _ List.mem_cons_self) hk
  have hini' : (Cond.initialized cls).before args s' = true := vx_ot_at hW0 hvm.symm (hgood _ (List.mem_cons_of_mem _ List.mem_cons_self)) hini
  have hU' : vx_Zq Bundle.tN "UNASSIGNED_STACK" Bundle.steD A s' s'.heap := by rw [hhp]; exact vx_Zq.moved hW0.alike (hU.kept hS.2.1)
  have hN' : vx_Zq Bundle.tN "SUPPRESSED_SENTINEL" Bundle.listD A s' s'.heap := by rw [hhp]; exact vx_Zq.moved hW0.alike (hN.kept hS.2.1)
  have h : ∀ w ∈ Bundle.ownAtoms own ic cls names, w.before args s' = true := vx_own hat' (vx_isRefq hU'.1) (vx_isRefq hN'.1) hU'.2.word hN'.2.word
  have hown' : s'.vm.findClass own = some m.cls := by rw [hvm]; exact hown
  have hins : (Cond.instantiable cls 6).before args s' = true := h _ (by simp [Bundle.ownAtoms])
  obtain ⟨vm₁, cX, kX, hfX, hkX, -, -, X₁, st1⟩ := Y.newCold hexec (own := own) (C := cls) (index := ik) (n := 6) hown' hk' hins hini'
    (g := F0 m pc ls rest) rfl (by rw [hb]; exact d0) (Nat.le_refl _) (Nat.le_refl _)
  generalize hT1 : (T.setVm vm₁).pushCell { cls := cX, slots := kX.instanceTypes.map defaultValue, vm := .none } = T1 at X₁ st1
  have hcat : (Value.ref T.heap.size).category = 1 := rfl
  have hcellA : T1.heap[T.heap.size]? = some (freshCell cX kX) := by rw [← hT1]; exact State.heap_pushCell_size _ _
  have d3' : decode c.code (pc + 3) = .ok (.dup, 1) := by rw [hb]; exact d3
  have d4' : decode c.code (pc + 4) = .ok (.ldc_w is, 3) := by rw [hb]; exact d4
  have hstr' : vk_R own is text sa s' := vk_R.warm hW0 hstr
  obtain ⟨U, hsteps, hrun, hend, hW, hsame, ce, hce, hO⟩ := X₁.ctorThrowS hexec htr (own := own) (cls := cls) (names := names) (ic := ic) hown' hcls hnames h (fun x hx => nomatch hx) hfX hkX hcellA (by rw [hhp, hT]; exact Nat.le_refl _) (msg := .ref sa) rfl
    (g := { method := m, pc := pc + 7, locals := ls, stack := .ref sa :: .ref T.heap.size :: .ref T.heap.size :: rest, locked := none }) rfl hsize rfl rfl (rest := rest) rfl
    (by rw [hb]; exact d7) (by rw [hb]; exact d10) hout hRframes (by simp only [List.map_cons, List.sum_cons, hcat]; omega) hlocks
  obtain ⟨f1, f2⟩ := vx_frame hsame
  rw [hhp] at f1 f2
  have hWs : s.WarmedH U.vm := State.WarmedH.trans hW0 hW
  have hcl : s.vm.findClass cls = some ce.cls := by
    have h9 := hO.cls
    rw [hvm] at h9
    exact h9
  have hall : s.sameButNew ({ U with vm := s.vm } : State) locs mc ms := by
    subst hA
    obtain ⟨e1, e2⟩ := hsame
    rw [State.setFrames_setFrames] at e1
    have h2 : (T.setVm s.vm).sameButNew ({ U with vm := s.vm } : State) [] (0 + 1) (0 + 6) := ⟨e1, e2⟩
    have h3 := X.same.trans h2
    rw [List.append_nil] at h3
    exact h3.mono hc hs
  refine ⟨U, ?_, .threw T.heap.size, hrun, hend, Or.inr ⟨T.heap.size, rfl, cls, ce, locs, hx U hWs.alike f1 (fun q hq => f2 q hq (fun z hz => nomatch hz)), hce, hO.vm, hcl, hWs, hall, hf⟩⟩
  refine st1 _ ?_
  show Steps p.tables e below (T1.setTop { method := m, pc := pc + 3, locals := ls, stack := .ref T.heap.size :: rest, locked := none }) _
  jvm_step X₁.here [X₁.here.top, hexec, d3', Value.category]
  exact X₁.ldcStringW hexec (own := own) (text := text) (index := is) (a := sa) hown' hstr'.1 hstr'.2
    (g := { method := m, pc := pc + 4, locals := ls, stack := .ref T.heap.size :: .ref T.heap.size :: rest, locked := none }) rfl d4' _ hsteps
end Ends
section Bodies
variable {l : Launch}
theorem vx_ofW {y : MethodName} {ws ws' : List Cond} {rm : Room} {Pc : Array Value → State → Prop} {Qc : Array Value → State → Outcome → State → Prop} {XC : String → State → State → Prop} {mc ms : Nat} {free : Addr → Prop} {cc : ByteArray} {maxL : Nat} {ret : Option FieldType}
    (hy : plainName y.cls = true) (hw : ws = Cond.code y cc maxL ret :: ws')
    (body : ∀ p e s m args below meth c s₁, BodyLoose p l y (headSpec ws rm) cc maxL ret e s m args below meth c s₁ → c.maxLocals = maxL → (∀ x ∈ c.exceptionTable.toList, False) → Pc args s →
      W p l e (headSpec ws rm).room s m args below meth c s.heap [] 0 0 (vx_MQ below Qc XC args s mc ms free) (entryFrame m args maxL)) : vx_Met l y ws rm Pc Qc XC mc ms free := by
  refine MetFree.of_bodyS (code := cc) (maxLocals := maxL) (ret := ret) hy ?_ ?_
  · intro args s m h hn
    obtain ⟨meth, c, h1, h2, h3, h4, h5, h6, -, -⟩ := Cond.code_spec hn (atoms_spec (ws := ws) h _ (by rw [hw]; exact List.mem_cons_self))
    exact ⟨meth, c, h1, h2, h3, h4, h5, h6⟩
  · intro p e s m args below meth c s₁ B hml hP _
    have hh0 : s₁.heap = s.heap := by rw [B.state]; rfl
    have ht : ∀ x ∈ c.exceptionTable.toList, False := by
      obtain ⟨meth9, c9, h1, h2, -, -, -, -, h7, -⟩ := Cond.code_spec B.named (atoms_spec (ws := ws) B.pre _ (by rw [hw]; exact List.mem_cons_self))
      cases Option.some.inj (h1.symm.trans B.method)
      cases Option.some.inj (h2.symm.trans (Stand.of_body B).code)
      intro x hx
      rw [Array.isEmpty_iff.mp h7] at hx
      cases hx
    obtain ⟨t, a1, o, b1, b2, b3⟩ := body p e s m args below meth c s₁ B hml ht hP s₁ hh0 (Stand.of_body B)
    exact ⟨t, o, a1, b1, b2, b3⟩
/-- the table of a body with handlers -/
theorem vx_table {p : Program} {x y : MethodName} {S : Spec} {cc bytes : ByteArray} {maxL maxL' : Nat} {ret ret' : Option FieldType} {e : Env} {s s₁ : State} {m : MethodId} {args : Array Value} {below : List Frame} {meth : Method} {c : Code} {hh : List (Nat × Nat × Nat × Nat)}
    (B : BodyLoose p l y S cc maxL ret e s m args below meth c s₁) (h : (Cond.codeWith y bytes maxL' ret' hh).before args s = true) : c.exceptionTable.toList = tableOf hh := by
  obtain ⟨m9, meth9, c9, hn9, h1, h2, -, -, h6, -⟩ := Cond.codeWith_spec h
  cases Option.some.inj (hn9.symm.trans B.named)
  cases Option.some.inj (h1.symm.trans B.method)
  cases Option.some.inj (h2.symm.trans (Stand.of_body B).code)
  rw [← h6, table_eq]
end Bodies
end VXA
/-! ===== END ===== -/
/-! ===== BEGIN a static call of a method with an exception table ===== -/
section VXS
variable {p : Program} {l : Launch} {e : Env} {R : Room} {s : State} {m : MethodId} {args : Array Value} {below : List Frame} {meth : Method} {c : Code} {T : State} {H : Heap} {locs : List Loc} {cells slots : Nat}
abbrev vx_CSW (R : Room) (s : State) (args : Array Value) (own : String) (index : Nat) (y : MethodName) (bytes : ByteArray) (maxL : Nat) (ret : Option FieldType) (hh : List (Nat × Nat × Nat × Nat)) (ws : List Cond) (rm : Room) (mc ms n : Nat) : Prop :=
  (rm.cells = mc ∧ rm.slots = ms ∧ rm.frames + 1 ≤ R.frames ∧ 8 + (maxL + 11) + rm.locals ≤ R.locals ∧ (∀ w ∈ ws, ∀ (a' : Array Value) (U : State), s.WarmedH U.vm → w.before a' U = true) ∧ Cond.codeWith y bytes maxL ret hh ∈ ws) ∧
  (Cond.codeWith y bytes maxL ret hh).before args s = true ∧ (Cond.initialized y.cls).before args s = true ∧ (y.cls ≠ "java/lang/invoke/MethodHandle" ∧ y.cls ≠ "java/lang/invoke/VarHandle") ∧
  (∀ sig, parseMethodDescriptor y.desc = some sig → n = sig.parameters.length) ∧ (Cond.methodLink own index y).before args s = true ∧ (Cond.static y).before args s = true
theorem vx_cwSW {own : String} {index maxL mc ms : Nat} {y : MethodName} {bytes : ByteArray} {ret : Option FieldType} {hh : List (Nat × Nat × Nat × Nat)} {Ts ws ws' : List Cond} {rm : Room} (n : Nat) (ht : ∀ w ∈ Ts, w.before args s = true) (hT : GoodIn Ts (va_wsS own index y ws)) (hw : ws = Cond.codeWith y bytes maxL ret hh :: ws') (hrc : rm.cells = mc) (hrs : rm.slots = ms)
    (hd : y.cls ≠ "java/lang/invoke/MethodHandle" ∧ y.cls ≠ "java/lang/invoke/VarHandle" ∧ (parseMethodDescriptor y.desc).map (fun d => d.parameters.length) = some n) (hR : rm.frames + 1 ≤ R.frames ∧ 8 + (maxL + 11) + rm.locals ≤ R.locals) :
    vx_CSW R s args own index y bytes maxL ret hh ws rm mc ms n := by
  have ok : ∀ w ∈ va_wsS own index y ws, w.before args s = true := fun w h => ht w (hT w h).1
  have hG : GoodIn Ts ws := fun w h => hT w (by unfold va_wsS; exact List.mem_append_right _ h)
  have hc : Cond.codeWith y bytes maxL ret hh ∈ ws := by rw [hw]; exact List.mem_cons_self
  refine ⟨⟨hrc, hrs, hR.1, hR.2, pay_in ht hG, hc⟩, ht _ (hG _ hc).1, ok _ (by simp [va_wsS]), ⟨hd.1, hd.2.1⟩, fun sig h => ?_, ok _ (by simp [va_wsS]), ok _ (by simp [va_wsS])⟩
  have h2 := hd.2.2
  rw [h] at h2
  exact (Option.some.inj h2).symm
theorem vx_callSW (X : Stand p l e R s m args below meth c T locs cells slots) (hexec : p.tables.exec = Jvm.exec) {own : String} {index : Nat} {y : MethodName} {bytes : ByteArray} {maxL : Nat} {ret : Option FieldType} {hh : List (Nat × Nat × Nat × Nat)}
    (hown : s.vm.findClass own = some m.cls) (hlink : (Cond.methodLink own index y).before args s = true) (hstat : (Cond.static y).before args s = true) (hinit : (Cond.initialized y.cls).before args s = true)
    (hcode : (Cond.codeWith y bytes maxL ret hh).before args s = true) (hy : y.cls ≠ "java/lang/invoke/MethodHandle" ∧ y.cls ≠ "java/lang/invoke/VarHandle")
    {W9 : Nat} {Pre : Pt → Array Value → Prop} {Post : Pt → Array Value → Option Value → Pt → Prop} (hK : Back l R p e below s args y 3 W9 Pre Post)
    {g : JFrame} (hg : g.method = m) (hsize : g.locals.size = c.maxLocals) {argsL rest : List Value} (hlen : ∀ sig, parseMethodDescriptor y.desc = some sig → argsL.length = sig.parameters.length)
    (hstack : g.stack = argsL.reverse ++ rest) (hW : 2 * g.monitorRoom + (rest.map fun v => v.category).sum ≤ W9) (hdg : decode c.code g.pc = .ok (.invokestatic index, 3))
    (hpre : ∀ vm₁, s.WarmedH vm₁ → Pre ⟨T.setVm vm₁, locs, cells, slots⟩ argsL.toArray) :
    ∃ (v : Option Value) (vm₁ : Vm) (B : Pt), s.WarmedH vm₁ ∧ Stand p l e R s m args below meth c B.U B.locs B.cells B.slots ∧ Post ⟨T.setVm vm₁, locs, cells, slots⟩ argsL.toArray v B ∧
      ∀ target, Steps p.tables e below (B.U.setTop { g with pc := g.pc + 3, stack := v.toList ++ rest }) target → Steps p.tables e below (T.setTop g) target := by
  obtain ⟨mk, methM, cM, hnamed, hmethM, -, -, -, -, -, -, hsigM⟩ := Cond.codeWith_spec hcode
  have hstatic : methM.isStatic = true := Cond.static_spec hnamed hmethM hstat
  obtain ⟨kP, hkP, -⟩ := className_of_methodNamed hnamed
  have hinitP : kP.init = .initialized := Cond.initialized_spec (findClass_of_methodNamed hnamed) hkP hinit
  obtain ⟨vm₁, X₁, hstep₁⟩ := X.invokestatic hexec hown hlink hnamed hmethM hstatic hkP hinitP hy (g := g) hg (argsL := argsL) (rest := rest) (hlen _ hsigM) hstack hdg
  obtain ⟨v, B, X', hpost, hsteps⟩ := hK m meth c ⟨T.setVm vm₁, locs, cells, slots⟩ { g with stack := rest } (.invokestatic index) mk argsL.toArray X₁ hg hsize hdg hW (X₁.named hnamed) (hpre vm₁ X₁.warmed)
  exact ⟨v, vm₁, B, X₁.warmed, X', hpost, fun target h => hstep₁ _ fun acts => by rw [doInvoke_state]; exact hsteps.trans h⟩
theorem vx_runSW {y : MethodName} {bytes cc : ByteArray} {maxL nL mc ms n index : Nat} {ret : Option FieldType} {hh : List (Nat × Nat × Nat × Nat)} {ws : List Cond} {rm : Room} {Pc : Array Value → State → Prop} {Qc : Array Value → State → Outcome → State → Prop} {free : Addr → Prop} {Ts : List Cond} {own : String} {As rest : List Value} {g : JFrame}
    (S : CallFix p m c cc nL s args Ts own) (hM : Met l y ws rm Pc Qc mc ms free) (cw : vx_CSW R s args own index y bytes maxL ret hh ws rm mc ms n) (hp : PreS s H Pc As)
    (hg : g.method = m) (hn : As.length = n) (hsize : g.locals.size = nL) (hstack : g.stack = As.reverse ++ rest) (hW : 2 * g.monitorRoom + (rest.map fun v => v.category).sum ≤ 8) (hdg : decode cc g.pc = .ok (.invokestatic index, 3)) (hf : cells + mc ≤ R.cells ∧ slots + ms ≤ R.slots) :
    va_Run p l e R s m args below meth c H locs cells slots mc ms g rest (Qc As.toArray) (free) := by
  obtain ⟨⟨hrc, hrs, hfr, hlo, hws, hcw⟩, hcode, hini, hy, hlen, hl, hstt⟩ := cw
  have hK : Back l R p e below s args y 3 8 (PreOf R mc ms Pc) (PostOf Qc mc ms free) := va_backW (hh := hh) (bytes := bytes) (maxL := maxL) (ret := ret) hM hp.1 hrc hrs hfr hlo hws hcw (fun a' U hW => word_at hW (Or.inl (by first | rfl | simp [Cond.onTables, Cond.keeps, Cond.steady])) hini)
  obtain ⟨hx, hb, hml, ho, -⟩ := S
  intro T hT X
  obtain ⟨v, vm₁, ⟨U', l2, c2, s2⟩, hW₁, X', ⟨g', mk, t, L, e1, e2, hq, h1, hL, h2, h3⟩, st⟩ := vx_callSW X hx (hh := hh) (bytes := bytes) (maxL := maxL) (ret := ret) ho hl hstt hini hcode hy hK hg (hsize.trans hml.symm) (argsL := As) (rest := rest) (fun sig h => hn.trans (hlen sig h)) hstack hW (by rw [hb]; exact hdg)
    (fun vm₁ hW₁ => ⟨hf.1, hf.2, hp.2 (T.setVm vm₁) hT hW₁⟩)
  dsimp only [Pt.U, Pt.locs, Pt.cells, Pt.slots] at X' e1 e2 h1 h2 h3 st
  subst h1; subst h2; subst h3
  exact ⟨v, (T.setVm vm₁).calling g' mk As.toArray, t, U', L, hT, X', hL, e1, e2, hq, st⟩
/-- not caught here, past rows that name other classes: it goes on to the caller -/
theorem vx_outP {p : Program} {l : Launch} {e : Env} {R : Room} {s : State} {m : MethodId} {args : Array Value} {below : List Frame} {meth : Method} {c : Code} {H : Heap} {locs : List Loc} {cells slots : Nat} {free : Addr → Prop} {ls : Array Slot} {rest : List Value} {Qc : Array Value → State → Outcome → State → Prop} {XC : String → State → State → Prop}
    {pc : Nat} {own E : String} {ce : Cell} {q : Addr} {mc ms : Nat} (hown : s.vm.findClass own = some m.cls) (hlocks : meth.locks = false)
    (hpass : ∀ z ∈ c.exceptionTable.toList, covers z pc = false ∨ (z.catchType ≠ 0 ∧ ∃ nm : String, (Cond.classLink own z.catchType nm).before args s = true ∧ va_Nc E nm s)) (hcell : H[q]? = some ce) (hv : ce.vm = .none) (hcl : s.vm.findClass E = some ce.cls)
    (hx : ∀ t : State, t.heap = H → s.vm.Alike t.vm → XC E s t) (hf : ∀ z ∈ locs, free z.base) (hc : cells ≤ mc) (hs : slots ≤ ms) :
    vx_W p l e R s m args below meth c H locs cells slots (vx_MQ below Qc XC args s mc ms free) (F0 m pc ls rest) q := by
  intro T hT X
  have hpl : e.platform.magicAccessors = ({} : Platform).magicAccessors := by rw [X.admits.platform]
  obtain ⟨vm', hW', X', st⟩ := X.outThrough hlocks q (g := F0 m pc ls rest) rfl rfl rfl (cell := ce) (by rw [hT]; exact hcell) (by rw [hv]; rfl)
    (by obtain ⟨k9, h9, -⟩ := Vm.findClass_spec hcl; exact ⟨k9, h9⟩) (fun z hz => by
      rcases hpass z hz with h | ⟨hz0, nm, hl1, hn1⟩
      · exact Or.inl h
      · obtain ⟨c6, hc6, hcl6⟩ := Cond.classLink_spec hown hl1 e.platform hpl
        obtain ⟨a8, b8, h1, h2, h3⟩ := hn1
        cases Option.some.inj (h1.symm.trans hcl)
        cases Option.some.inj (h2.symm.trans hc6)
        exact Or.inr ⟨hz0, _, hcl6, h3⟩)
  obtain ⟨g₀, hfr⟩ := X'.frames_eq
  have hcell9 : ((T.setVm vm').setFrames (.throwing q :: below)).heap[q]? = some ce := by
    show T.heap[q]? = some ce
    rw [hT]; exact hcell
  have hend : Ended ((T.setVm vm').setFrames (.throwing q :: below)) below (.threw q) := State.frames_setFrames _ (State.cur_lt_of_frames hfr)
  refine ⟨(T.setVm vm').setFrames (.throwing q :: below), ?_, .threw q, X'.here.running, hend, Or.inr ⟨q, rfl, E, ce, locs, hx _ hT (X'.ends _).1.alike, hcell9, hv, hcl, (X'.ends _).1, (X'.ends _).2.mono hc hs, hf⟩⟩
  rw [X.pushThrowing_eq]
  exact st
/-- a thing of a world lies in the heap -/
theorem vx_lt {D : va_G} {cl : List vw_C} {ws : va_W} {H1 : Heap} (h : va_P D cl ws H1) {k : Nat} {q : Nat × va_E} (hk : ws[k]? = some q) : q.1 < H1.size := (h k q hk).lt
end VXS
/-! ===== END ===== -/
/-! ===== BEGIN methods with a table of their own: called by a name, returning or throwing ===== -/
section VXH
/-! vx_backW, vx_callVX, vx_callSX, vx_callVW, vx_runVW, vx_runVX, vx_runSX, vx_ofWH follow the same proofs as their sisters above (Free/Laws.lean, Shelf42/LK1.lean); vx_outP calls Shelf42/NT130.lean (outThrough). -/
section
variable {l : Launch} {R : Room} {p : Program} {e : Env} {below : List Frame} {s : State} {sargs : Array Value} {y : MethodName} {len W9 : Nat}
theorem vx_backW {ws : List Cond} {rm : Room} {Pc : Array Value → State → Prop} {Qc : Array Value → State → Outcome → State → Prop} {XC : String → State → State → Prop} {mc ms : Nat} {free : Addr → Prop} {bytes : ByteArray} {maxL : Nat} {ret : Option FieldType} {hh : List (Nat × Nat × Nat × Nat)}
    (hM : vx_Met l y ws rm Pc Qc XC mc ms free) (hblind : FrameBlind Pc) (hrc : rm.cells = mc) (hrs : rm.slots = ms)
    (hframes : rm.frames + 1 ≤ R.frames) (hlocals : W9 + (maxL + 11) + rm.locals ≤ R.locals)
    (hws : ∀ w ∈ ws, ∀ a' U, s.WarmedH U.vm → w.before a' U = true) (hcode : Cond.codeWith y bytes maxL ret hh ∈ ws) (hinit : ∀ a' U, s.WarmedH U.vm → (Cond.initialized y.cls).before a' U = true) :
    vx_Back l R p e below s sargs y len W9 (PreOf R mc ms Pc) (PostOf Qc mc ms free) (vx_Post XC mc ms free) := by
  intro m meth c A g ig mk a X hg hsize hdg hW hn hp
  have h1 : (headSpec ws rm).pre.before a A.U = true := atoms_intro fun w hw => hws w hw _ _ X.warmed
  have h2 : (Cond.codeWith y bytes maxL ret hh).before a A.U = true := hws _ hcode _ _ X.warmed
  have h3 : (Cond.initialized y.cls).before a A.U = true := hinit _ _ X.warmed
  have h4 : A.cells + (headSpec ws rm).room.cells ≤ R.cells := by rw [show (headSpec ws rm).room.cells = mc from hrc]; exact hp.1
  have h5 : A.slots + (headSpec ws rm).room.slots ≤ R.slots := by rw [show (headSpec ws rm).room.slots = ms from hrs]; exact hp.2.1
  have hPc : Pc a (A.U.calling g mk a) := hblind _ _ _ _ hp.2.2
  obtain ⟨U, Ls, c0, s0⟩ := A
  dsimp only [Pt.U, Pt.locs, Pt.cells, Pt.slots] at h1 h2 h3 h4 h5 X hn hPc ⊢
  obtain ⟨m9, methY, cY, hn9, hmY, hcY, -, hlY, -⟩ := Cond.codeWith_spec h2
  cases Option.some.inj (hn9.symm.trans hn)
  obtain ⟨kY, hkY, -⟩ := className_of_methodNamed hn
  have hinitY : kY.init = .initialized := Cond.initialized_spec (findClass_of_methodNamed hn) hkY h3
  have h : At U g.method c below := by rw [hg]; exact X.here
  have hlocals9 : W9 + (maxL + 11) + (headSpec ws rm).room.locals ≤ R.locals := hlocals
  have happ : (headSpec ws rm).appliesLoose y e.platform (U.calling g mk a) = true :=
    Spec.appliesLoose_calling (g := g) h hdg hn hkY hinitY
      (X.room_calling (g := g) (R' := (headSpec ws rm).room) hsize hmY hcY hframes (by rw [hlY]; omega) h4 h5) h1
  obtain ⟨mid, hmid⟩ := h.above
  have hfr : (U.setTop g).frames = (.java g :: mid) ++ below := by rw [State.frames_setTop' g h.top, hmid]; rfl
  obtain ⟨o, s₂, hsteps, -, hend, hq⟩ := Steps.callFree hM p X.admits X.cas X.clock (acts := []) hfr happ hPc trivial
  have hq' : vx_Q Qc XC mc ms free a (U.calling g mk a) o s₂ := hq
  rw [State.frames_setTop' g h.top] at hend
  obtain ⟨g₀, hg0⟩ := Option.isSome_iff_exists.mp h.top
  obtain ⟨r, hr⟩ := State.topJava?_eq_some.mp hg0
  have hr' : (({ U with heap := s₂.heap, slotsUsed := s₂.slotsUsed } : State).setVm s₂.vm).frames = .java g₀ :: r := hr
  rcases hq' with ⟨hqc, L, hfe, hL⟩ | ⟨q, rfl, E, ce, L, hx, hce, hcv, hcl, hW₂, hsm, hL⟩
  · obtain ⟨⟨v, rfl⟩, hW₂, e2, q2, q3, q4, q5, q6⟩ := id hfe
    have e3 : s₂ = ({ (U.calling g mk a).setFrames s₂.frames with heap := s₂.heap, slotsUsed := s₂.slotsUsed } : State).setVm s₂.vm := by
      have : s₂ = ({ s₂ with vm := (U.calling g mk a).vm } : State).setVm s₂.vm := rfl
      rw [e2] at this
      exact this
    obtain ⟨c₂, i₂, len₂, hc₂, hd₂, hf₂⟩ := hend
    have hW' : U.WarmedH s₂.vm := hW₂
    have hcc : c₂ = c := by
      have h1 : s₂.code? g.method = U.code? g.method := by
        rw [State.code?_eq, State.code?_eq, hW'.alike.method?]
      exact Option.some.inj (hc₂.symm.trans (h1.trans h.code))
    subst hcc
    have hlen : len₂ = len := by rw [hdg] at hd₂; cases hd₂; rfl
    subst hlen
    have hs₂ : s₂ = (({ U with heap := s₂.heap, slotsUsed := s₂.slotsUsed } : State).setVm s₂.vm).setTop { g with pc := g.pc + len₂, stack := v.toList ++ g.stack } := by
      refine e3.trans ?_
      rw [hf₂, State.calling_eq h.top, State.setFrames_setFrames, State.setTop_of_frames _ hr', hr]
      rfl
    have hsame : U.sameButNew ({ U with heap := s₂.heap, slotsUsed := s₂.slotsUsed } : State) L mc ms := by
      refine ⟨?_, q2, q3, q4, q5, q6⟩
      obtain ⟨t, ht, -⟩ := State.frames_cons hr
      show ({ U with heap := s₂.heap, slotsUsed := s₂.slotsUsed } : State) = { U.setFrames U.frames with heap := s₂.heap, slotsUsed := s₂.slotsUsed }
      rw [State.setFrames_self ht]
    subst hg
    refine Or.inl ⟨v, ⟨(({ U with heap := s₂.heap, slotsUsed := s₂.slotsUsed } : State).setVm s₂.vm), Ls ++ L, c0 + mc, s0 + ms⟩,
      ⟨X.admits, X.cas, X.clock, X.frames, X.room, X.hears, X.method, X.code, (X.here.setHeapUsed s₂.heap s₂.slotsUsed).setVm hW'.alike, X.tail, State.WarmedH.trans X.warmed hW', X.limits, X.bytes, X.same.trans (hsame.setVm s.vm)⟩,
      ⟨g, mk, s₂, L, rfl, rfl, hqc, rfl, hL, rfl, rfl⟩, ?_⟩
    show Steps p.tables e below _ ((({ U with heap := s₂.heap, slotsUsed := s₂.slotsUsed } : State).setVm s₂.vm).setTop { g with pc := g.pc + len₂, stack := v.toList ++ g.stack })
    rw [← hs₂]
    exact hsteps
  · obtain ⟨e2, q2, q3, q4, q5, q6⟩ := id hsm
    have e3 : s₂ = ({ (U.calling g mk a).setFrames s₂.frames with heap := s₂.heap, slotsUsed := s₂.slotsUsed } : State).setVm s₂.vm := by
      have : s₂ = ({ s₂ with vm := (U.calling g mk a).vm } : State).setVm s₂.vm := rfl
      rw [e2] at this
      exact this
    have hf₂ : s₂.frames = .throwing q :: .java g :: U.frames.tail := hend
    have hW' : U.WarmedH s₂.vm := hW₂
    have hs₂ : s₂ = ((({ U with heap := s₂.heap, slotsUsed := s₂.slotsUsed } : State).setVm s₂.vm).setTop g).pushFrame (.throwing q) := by
      refine e3.trans ?_
      rw [hf₂, State.calling_eq h.top, State.setFrames_setFrames, State.pushFrame, State.frames_setTop _ hr', State.setTop_of_frames _ hr', State.setFrames_setFrames, hr]
      rfl
    have hsame : U.sameButNew ({ U with heap := s₂.heap, slotsUsed := s₂.slotsUsed } : State) L mc ms := by
      refine ⟨?_, q2, q3, q4, q5, q6⟩
      obtain ⟨t, ht, -⟩ := State.frames_cons hr
      show ({ U with heap := s₂.heap, slotsUsed := s₂.slotsUsed } : State) = { U.setFrames U.frames with heap := s₂.heap, slotsUsed := s₂.slotsUsed }
      rw [State.setFrames_self ht]
    subst hg
    refine Or.inr ⟨q, ⟨(({ U with heap := s₂.heap, slotsUsed := s₂.slotsUsed } : State).setVm s₂.vm), Ls ++ L, c0 + mc, s0 + ms⟩,
      ⟨X.admits, X.cas, X.clock, X.frames, X.room, X.hears, X.method, X.code, (X.here.setHeapUsed s₂.heap s₂.slotsUsed).setVm hW'.alike, X.tail, State.WarmedH.trans X.warmed hW', X.limits, X.bytes, X.same.trans (hsame.setVm s.vm)⟩,
      ⟨g, mk, s₂, L, E, ce, rfl, rfl, hx, hce, hcv, hcl, rfl, hL, rfl, rfl⟩, ?_⟩
    show Steps p.tables e below _ (((({ U with heap := s₂.heap, slotsUsed := s₂.slotsUsed } : State).setVm s₂.vm).setTop g).pushFrame (.throwing q))
    rw [← hs₂]
    exact hsteps
end
variable {p : Program} {l : Launch} {e : Env} {R : Room} {s : State} {m : MethodId} {args : Array Value} {below : List Frame} {meth : Method} {c : Code} {T : State} {H : Heap} {locs : List Loc} {cells slots : Nat}
theorem vx_callVX (X : Stand p l e R s m args below meth c T locs cells slots) (hexec : p.tables.exec = Jvm.exec) {own C : String} {index : Nat} {y : MethodName} {bytes : ByteArray} {maxL : Nat} {ret : Option FieldType} {hh : List (Nat × Nat × Nat × Nat)}
    (hown : s.vm.findClass own = some m.cls) (hlink : (Cond.methodLink own index y).before args s = true) (hinst : (Cond.instanceMethod y).before args s = true) (hsel : (Cond.selects C y y).before args s = true)
    (hcode : (Cond.codeWith y bytes maxL ret hh).before args s = true) (hy : y.cls ≠ "java/lang/invoke/MethodHandle" ∧ y.cls ≠ "java/lang/invoke/VarHandle")
    {W9 : Nat} {Pre : Pt → Array Value → Prop} {Post : Pt → Array Value → Option Value → Pt → Prop} {PostX : Pt → Array Value → Addr → Pt → Prop} (hK : vx_Back l R p e below s args y 3 W9 Pre Post PostX)
    {b : Addr} {cellB : Cell} (hcell : T.heap[b]? = some cellB) (hobj : cellB.vm.isStatics = false) (hcls : s.vm.findClass C = some cellB.cls)
    {g : JFrame} (hg : g.method = m) (hsize : g.locals.size = c.maxLocals) {argsL rest : List Value} (hlen : ∀ sig, parseMethodDescriptor y.desc = some sig → argsL.length = sig.parameters.length)
    (hstack : g.stack = argsL.reverse ++ .ref b :: rest) (hW : 2 * g.monitorRoom + (rest.map fun v => v.category).sum ≤ W9) (hdg : decode c.code g.pc = .ok (.invokevirtual index, 3))
    (hpre : ∀ vm₁, s.WarmedH vm₁ → Pre ⟨T.setVm vm₁, locs, cells, slots⟩ (Value.ref b :: argsL).toArray) :
    (∃ (v : Option Value) (vm₁ : Vm) (B : Pt), s.WarmedH vm₁ ∧ Stand p l e R s m args below meth c B.U B.locs B.cells B.slots ∧ Post ⟨T.setVm vm₁, locs, cells, slots⟩ (Value.ref b :: argsL).toArray v B ∧
      ∀ target, Steps p.tables e below (B.U.setTop { g with pc := g.pc + 3, stack := v.toList ++ rest }) target → Steps p.tables e below (T.setTop g) target) ∨
    (∃ (q : Addr) (vm₁ : Vm) (B : Pt), s.WarmedH vm₁ ∧ Stand p l e R s m args below meth c B.U B.locs B.cells B.slots ∧ PostX ⟨T.setVm vm₁, locs, cells, slots⟩ (Value.ref b :: argsL).toArray q B ∧
      Steps p.tables e below (T.setTop g) ((B.U.setTop { g with stack := rest }).pushFrame (.throwing q))) := by
  obtain ⟨mk, methM, hnamed, hmethM, hstM, habM⟩ := Cond.instanceMethod_spec hinst
  obtain ⟨m8, methM', cM, hn8, hmethM', -, -, -, -, -, -, hsigM⟩ := Cond.codeWith_spec hcode
  cases Option.some.inj (hn8.symm.trans hnamed)
  cases hmethM.symm.trans hmethM'
  obtain ⟨c2, r2, m2, q1, q2, q3, q4, kP, hkP, hkPi⟩ := Cond.selects_spec hsel
  cases hcls.symm.trans q1
  cases (State.methodFound?_of_named hnamed hy).symm.trans q2
  cases hnamed.symm.trans q3
  have hselP : selectMethod e.platform s.vm cellB.cls mk = .method mk := by rw [Launch.admits_selectMethod X.admits]; exact q4
  obtain ⟨vm₁, X₁, hstep₁⟩ := X.invokevirtual hexec hown hlink hnamed hmethM hstM hkP hkPi hy (a := b) (cell := cellB) hcell
    (fun z h => by rw [h] at hobj; cases hobj) hselP hmethM habM hkP hkPi (g := g) hg (argsL := argsL) (rest := rest) (hlen _ hsigM) hstack hdg
  rcases hK m meth c ⟨T.setVm vm₁, locs, cells, slots⟩ { g with stack := rest } (.invokevirtual index) mk (Value.ref b :: argsL).toArray X₁ hg hsize hdg hW (X₁.named hnamed) (hpre vm₁ X₁.warmed) with ⟨v, B, X', hpost, hsteps⟩ | ⟨q, B, X', hpost, hsteps⟩
  · exact Or.inl ⟨v, vm₁, B, X₁.warmed, X', hpost, fun target h => hstep₁ _ fun acts => by rw [doInvoke_state]; exact hsteps.trans h⟩
  · exact Or.inr ⟨q, vm₁, B, X₁.warmed, X', hpost, hstep₁ _ fun acts => by rw [doInvoke_state]; exact hsteps⟩
theorem vx_callSX (X : Stand p l e R s m args below meth c T locs cells slots) (hexec : p.tables.exec = Jvm.exec) {own : String} {index : Nat} {y : MethodName} {bytes : ByteArray} {maxL : Nat} {ret : Option FieldType} {hh : List (Nat × Nat × Nat × Nat)}
    (hown : s.vm.findClass own = some m.cls) (hlink : (Cond.methodLink own index y).before args s = true) (hstat : (Cond.static y).before args s = true) (hinit : (Cond.initialized y.cls).before args s = true)
    (hcode : (Cond.codeWith y bytes maxL ret hh).before args s = true) (hy : y.cls ≠ "java/lang/invoke/MethodHandle" ∧ y.cls ≠ "java/lang/invoke/VarHandle")
    {W9 : Nat} {Pre : Pt → Array Value → Prop} {Post : Pt → Array Value → Option Value → Pt → Prop} {PostX : Pt → Array Value → Addr → Pt → Prop} (hK : vx_Back l R p e below s args y 3 W9 Pre Post PostX)
    {g : JFrame} (hg : g.method = m) (hsize : g.locals.size = c.maxLocals) {argsL rest : List Value} (hlen : ∀ sig, parseMethodDescriptor y.desc = some sig → argsL.length = sig.parameters.length)
    (hstack : g.stack = argsL.reverse ++ rest) (hW : 2 * g.monitorRoom + (rest.map fun v => v.category).sum ≤ W9) (hdg : decode c.code g.pc = .ok (.invokestatic index, 3))
    (hpre : ∀ vm₁, s.WarmedH vm₁ → Pre ⟨T.setVm vm₁, locs, cells, slots⟩ argsL.toArray) :
    (∃ (v : Option Value) (vm₁ : Vm) (B : Pt), s.WarmedH vm₁ ∧ Stand p l e R s m args below meth c B.U B.locs B.cells B.slots ∧ Post ⟨T.setVm vm₁, locs, cells, slots⟩ argsL.toArray v B ∧
      ∀ target, Steps p.tables e below (B.U.setTop { g with pc := g.pc + 3, stack := v.toList ++ rest }) target → Steps p.tables e below (T.setTop g) target) ∨
    (∃ (q : Addr) (vm₁ : Vm) (B : Pt), s.WarmedH vm₁ ∧ Stand p l e R s m args below meth c B.U B.locs B.cells B.slots ∧ PostX ⟨T.setVm vm₁, locs, cells, slots⟩ argsL.toArray q B ∧
      Steps p.tables e below (T.setTop g) ((B.U.setTop { g with stack := rest }).pushFrame (.throwing q))) := by
  obtain ⟨mk, methM, cM, hnamed, hmethM, -, -, -, -, -, -, hsigM⟩ := Cond.codeWith_spec hcode
  have hstatic : methM.isStatic = true := Cond.static_spec hnamed hmethM hstat
  obtain ⟨kP, hkP, -⟩ := className_of_methodNamed hnamed
  have hinitP : kP.init = .initialized := Cond.initialized_spec (findClass_of_methodNamed hnamed) hkP hinit
  obtain ⟨vm₁, X₁, hstep₁⟩ := X.invokestatic hexec hown hlink hnamed hmethM hstatic hkP hinitP hy (g := g) hg (argsL := argsL) (rest := rest) (hlen _ hsigM) hstack hdg
  rcases hK m meth c ⟨T.setVm vm₁, locs, cells, slots⟩ { g with stack := rest } (.invokestatic index) mk argsL.toArray X₁ hg hsize hdg hW (X₁.named hnamed) (hpre vm₁ X₁.warmed) with ⟨v, B, X', hpost, hsteps⟩ | ⟨q, B, X', hpost, hsteps⟩
  · exact Or.inl ⟨v, vm₁, B, X₁.warmed, X', hpost, fun target h => hstep₁ _ fun acts => by rw [doInvoke_state]; exact hsteps.trans h⟩
  · exact Or.inr ⟨q, vm₁, B, X₁.warmed, X', hpost, hstep₁ _ fun acts => by rw [doInvoke_state]; exact hsteps⟩
theorem vx_callVW (X : Stand p l e R s m args below meth c T locs cells slots) (hexec : p.tables.exec = Jvm.exec) {own C : String} {index : Nat} {y : MethodName} {bytes : ByteArray} {maxL : Nat} {ret : Option FieldType} {hh : List (Nat × Nat × Nat × Nat)}
    (hown : s.vm.findClass own = some m.cls) (hlink : (Cond.methodLink own index y).before args s = true) (hinst : (Cond.instanceMethod y).before args s = true) (hsel : (Cond.selects C y y).before args s = true)
    (hcode : (Cond.codeWith y bytes maxL ret hh).before args s = true) (hy : y.cls ≠ "java/lang/invoke/MethodHandle" ∧ y.cls ≠ "java/lang/invoke/VarHandle")
    {W9 : Nat} {Pre : Pt → Array Value → Prop} {Post : Pt → Array Value → Option Value → Pt → Prop} (hK : Back l R p e below s args y 3 W9 Pre Post)
    {b : Addr} {cellB : Cell} (hcell : T.heap[b]? = some cellB) (hobj : cellB.vm.isStatics = false) (hcls : s.vm.findClass C = some cellB.cls)
    {g : JFrame} (hg : g.method = m) (hsize : g.locals.size = c.maxLocals) {argsL rest : List Value} (hlen : ∀ sig, parseMethodDescriptor y.desc = some sig → argsL.length = sig.parameters.length)
    (hstack : g.stack = argsL.reverse ++ .ref b :: rest) (hW : 2 * g.monitorRoom + (rest.map fun v => v.category).sum ≤ W9) (hdg : decode c.code g.pc = .ok (.invokevirtual index, 3))
    (hpre : ∀ vm₁, s.WarmedH vm₁ → Pre ⟨T.setVm vm₁, locs, cells, slots⟩ (Value.ref b :: argsL).toArray) :
    ∃ (v : Option Value) (vm₁ : Vm) (B : Pt), s.WarmedH vm₁ ∧ Stand p l e R s m args below meth c B.U B.locs B.cells B.slots ∧ Post ⟨T.setVm vm₁, locs, cells, slots⟩ (Value.ref b :: argsL).toArray v B ∧
      ∀ target, Steps p.tables e below (B.U.setTop { g with pc := g.pc + 3, stack := v.toList ++ rest }) target → Steps p.tables e below (T.setTop g) target := by
  obtain ⟨mk, methM, hnamed, hmethM, hstM, habM⟩ := Cond.instanceMethod_spec hinst
  obtain ⟨m8, methM', cM, hn8, hmethM', -, -, -, -, -, -, hsigM⟩ := Cond.codeWith_spec hcode
  cases Option.some.inj (hn8.symm.trans hnamed)
  cases hmethM.symm.trans hmethM'
  obtain ⟨c2, r2, m2, q1, q2, q3, q4, kP, hkP, hkPi⟩ := Cond.selects_spec hsel
  cases hcls.symm.trans q1
  cases (State.methodFound?_of_named hnamed hy).symm.trans q2
  cases hnamed.symm.trans q3
  have hselP : selectMethod e.platform s.vm cellB.cls mk = .method mk := by rw [Launch.admits_selectMethod X.admits]; exact q4
  obtain ⟨vm₁, X₁, hstep₁⟩ := X.invokevirtual hexec hown hlink hnamed hmethM hstM hkP hkPi hy (a := b) (cell := cellB) hcell
    (fun z h => by rw [h] at hobj; cases hobj) hselP hmethM habM hkP hkPi (g := g) hg (argsL := argsL) (rest := rest) (hlen _ hsigM) hstack hdg
  obtain ⟨v, B, X', hpost, hsteps⟩ := hK m meth c ⟨T.setVm vm₁, locs, cells, slots⟩ { g with stack := rest } (.invokevirtual index) mk (Value.ref b :: argsL).toArray X₁ hg hsize hdg hW (X₁.named hnamed) (hpre vm₁ X₁.warmed)
  exact ⟨v, vm₁, B, X₁.warmed, X', hpost, fun target h => hstep₁ _ fun acts => by rw [doInvoke_state]; exact hsteps.trans h⟩
abbrev vx_CVW (R : Room) (s : State) (args : Array Value) (own C : String) (index : Nat) (y : MethodName) (bytes : ByteArray) (maxL : Nat) (ret : Option FieldType) (hh : List (Nat × Nat × Nat × Nat)) (ws : List Cond) (rm : Room) (mc ms n : Nat) : Prop :=
  (rm.cells = mc ∧ rm.slots = ms ∧ rm.frames + 1 ≤ R.frames ∧ 8 + (maxL + 11) + rm.locals ≤ R.locals ∧ (∀ w ∈ ws, ∀ (a' : Array Value) (U : State), s.WarmedH U.vm → w.before a' U = true) ∧ Cond.codeWith y bytes maxL ret hh ∈ ws) ∧
  (Cond.codeWith y bytes maxL ret hh).before args s = true ∧ (Cond.initialized y.cls).before args s = true ∧ (y.cls ≠ "java/lang/invoke/MethodHandle" ∧ y.cls ≠ "java/lang/invoke/VarHandle") ∧
  (∀ sig, parseMethodDescriptor y.desc = some sig → n = sig.parameters.length) ∧ (Cond.methodLink own index y).before args s = true ∧ (Cond.instanceMethod y).before args s = true ∧ (Cond.selects C y y).before args s = true
theorem vx_cwVW {own C : String} {index maxL mc ms : Nat} {y : MethodName} {bytes : ByteArray} {ret : Option FieldType} {hh : List (Nat × Nat × Nat × Nat)} {Ts ws ws' : List Cond} {rm : Room} (n : Nat) (ht : ∀ w ∈ Ts, w.before args s = true) (hT : GoodIn Ts (wsV own index C y ws)) (hw : ws = Cond.codeWith y bytes maxL ret hh :: ws') (hrc : rm.cells = mc) (hrs : rm.slots = ms)
    (hd : y.cls = C ∧ y.cls ≠ "java/lang/invoke/MethodHandle" ∧ y.cls ≠ "java/lang/invoke/VarHandle" ∧ (parseMethodDescriptor y.desc).map (fun d => d.parameters.length) = some n) (hR : rm.frames + 1 ≤ R.frames ∧ 8 + (maxL + 11) + rm.locals ≤ R.locals) :
    vx_CVW R s args own C index y bytes maxL ret hh ws rm mc ms n := by
  obtain ⟨hC, hd⟩ := hd
  subst hC
  have ok : ∀ w ∈ wsV own index y.cls y ws, w.before args s = true := fun w h => ht w (hT w h).1
  have hG : GoodIn Ts ws := fun w h => hT w (by unfold wsV; exact List.mem_append_right _ h)
  have hc : Cond.codeWith y bytes maxL ret hh ∈ ws := by rw [hw]; exact List.mem_cons_self
  refine ⟨⟨hrc, hrs, hR.1, hR.2, pay_in ht hG, hc⟩, ht _ (hG _ hc).1, ok _ (by simp [wsV]), ⟨hd.1, hd.2.1⟩, fun sig h => ?_, ok _ (by simp [wsV]), ok _ (by simp [wsV]), ok _ (by simp [wsV])⟩
  have h2 := hd.2.2
  rw [h] at h2
  exact (Option.some.inj h2).symm
theorem vx_runVW {y : MethodName} {bytes cc : ByteArray} {maxL nL mc ms n index : Nat} {ret : Option FieldType} {hh : List (Nat × Nat × Nat × Nat)} {ws : List Cond} {rm : Room} {Pc : Array Value → State → Prop} {Qc : Array Value → State → Outcome → State → Prop} {free : Addr → Prop} {Ts : List Cond} {own C : String} {b : Addr} {As rest : List Value} {g : JFrame}
    (S : CallFix p m c cc nL s args Ts own) (hM : Met l y ws rm Pc Qc mc ms free) (cw : vx_CVW R s args own C index y bytes maxL ret hh ws rm mc ms n) (hp : PreV s H C b Pc As)
    (hg : g.method = m) (hn : As.length = n) (hsize : g.locals.size = nL) (hstack : g.stack = As.reverse ++ .ref b :: rest) (hW : 2 * g.monitorRoom + (rest.map fun v => v.category).sum ≤ 8) (hdg : decode cc g.pc = .ok (.invokevirtual index, 3)) (hf : cells + mc ≤ R.cells ∧ slots + ms ≤ R.slots) :
    va_Run p l e R s m args below meth c H locs cells slots mc ms g rest (Qc (Value.ref b :: As).toArray) free := by
  obtain ⟨⟨hrc, hrs, hfr, hlo, hws, hcw⟩, hcode, hini, hy, hlen, hl, hin, hse⟩ := cw
  have hK : Back l R p e below s args y 3 8 (PreOf R mc ms Pc) (PostOf Qc mc ms free) := va_backW (hh := hh) (bytes := bytes) (maxL := maxL) (ret := ret) hM hp.1 hrc hrs hfr hlo hws hcw (fun a' U hW => word_at hW (Or.inl (by first | rfl | simp [Cond.onTables, Cond.keeps, Cond.steady])) hini)
  obtain ⟨hx, hb, hml, ho, -⟩ := S
  obtain ⟨-, ⟨cellB, hcB, hoB, hclB⟩, hPc⟩ := hp
  intro T hT X
  obtain ⟨v, vm₁, ⟨U', l2, c2, s2⟩, hW₁, X', ⟨g', mk, t, L, e1, e2, hq, h1, hL, h2, h3⟩, st⟩ := vx_callVW X hx (C := C) (hh := hh) (bytes := bytes) (maxL := maxL) (ret := ret) ho hl hin hse hcode hy hK (by rw [hT]; exact hcB) hoB hclB hg (hsize.trans hml.symm) (argsL := As) (rest := rest) (fun sig h => hn.trans (hlen sig h)) hstack hW (by rw [hb]; exact hdg)
    (fun vm₁ hW₁ => ⟨hf.1, hf.2, hPc (T.setVm vm₁) hT hW₁⟩)
  dsimp only [Pt.U, Pt.locs, Pt.cells, Pt.slots] at X' e1 e2 h1 h2 h3 st
  subst h1; subst h2; subst h3
  exact ⟨v, (T.setVm vm₁).calling g' mk (Value.ref b :: As).toArray, t, U', L, hT, X', hL, e1, e2, hq, st⟩
section
variable {y : MethodName} {bytes cc : ByteArray} {maxL nL mc ms n index : Nat} {ret : Option FieldType} {ws : List Cond} {rm : Room} {Pc : Array Value → State → Prop} {Qc : Array Value → State → Outcome → State → Prop} {XC : String → State → State → Prop} {free : Addr → Prop} {Ts : List Cond} {own C : String} {b : Addr} {As rest : List Value} {g : JFrame}
theorem vx_runVX {hh : List (Nat × Nat × Nat × Nat)} (S : CallFix p m c cc nL s args Ts own) (hM : vx_Met l y ws rm Pc Qc XC mc ms free) (cw : vx_CVW R s args own C index y bytes maxL ret hh ws rm mc ms n) (hp : PreV s H C b Pc As)
    (hg : g.method = m) (hn : As.length = n) (hsize : g.locals.size = nL) (hstack : g.stack = As.reverse ++ .ref b :: rest) (hW : 2 * g.monitorRoom + (rest.map fun v => v.category).sum ≤ 8) (hdg : decode cc g.pc = .ok (.invokevirtual index, 3)) (hf : cells + mc ≤ R.cells ∧ slots + ms ≤ R.slots) :
    vx_Run p l e R s m args below meth c H locs cells slots mc ms g rest (Qc (Value.ref b :: As).toArray) XC free := by
  obtain ⟨⟨hrc, hrs, hfr, hlo, hws, hcw⟩, hcode, hini, hy, hlen, hl, hin, hse⟩ := cw
  have hK : vx_Back l R p e below s args y 3 8 (PreOf R mc ms Pc) (PostOf Qc mc ms free) (vx_Post XC mc ms free) := vx_backW (hh := hh) (bytes := bytes) (maxL := maxL) (ret := ret) hM hp.1 hrc hrs hfr hlo hws hcw (fun a' U hW => word_at hW (Or.inl (by first | rfl | simp [Cond.onTables, Cond.keeps, Cond.steady])) hini)
  obtain ⟨hx, hb, hml, ho, -⟩ := S
  obtain ⟨-, ⟨cellB, hcB, hoB, hclB⟩, hPc⟩ := hp
  intro T hT X
  rcases vx_callVX X hx (C := C) (hh := hh) (bytes := bytes) (maxL := maxL) (ret := ret) ho hl hin hse hcode hy hK (by rw [hT]; exact hcB) hoB hclB hg (hsize.trans hml.symm) (argsL := As) (rest := rest) (fun sig h => hn.trans (hlen sig h)) hstack hW (by rw [hb]; exact hdg)
    (fun vm₁ hW₁ => ⟨hf.1, hf.2, hPc (T.setVm vm₁) hT hW₁⟩) with ⟨v, vm₁, ⟨U', l2, c2, s2⟩, hW₁, X', ⟨g', mk, t, L, e1, e2, hq, h1, hL, h2, h3⟩, st⟩ | ⟨q, vm₁, ⟨U', l2, c2, s2⟩, hW₁, X', ⟨g', mk, t, L, E, ce, e1, e2, hq, hce, hcv, hcl, h1, hL, h2, h3⟩, st⟩
  · dsimp only [Pt.U, Pt.locs, Pt.cells, Pt.slots] at X' e1 e2 h1 h2 h3 st
    subst h1; subst h2; subst h3
    exact Or.inl ⟨v, (T.setVm vm₁).calling g' mk (Value.ref b :: As).toArray, t, U', L, hT, X', hL, e1, e2, hq, st⟩
  · dsimp only [Pt.U, Pt.locs, Pt.cells, Pt.slots] at X' e1 e2 h1 h2 h3 st hcl
    subst h1; subst h2; subst h3
    exact Or.inr ⟨q, (T.setVm vm₁).calling g' mk (Value.ref b :: As).toArray, t, U', L, E, ce, hT, X', hL, e1, e2, hq, hce, hcv, vx_cls hW₁ hcl, st⟩
theorem vx_runSX {hh : List (Nat × Nat × Nat × Nat)} (S : CallFix p m c cc nL s args Ts own) (hM : vx_Met l y ws rm Pc Qc XC mc ms free) (cw : vx_CSW R s args own index y bytes maxL ret hh ws rm mc ms n) (hp : PreS s H Pc As)
    (hg : g.method = m) (hn : As.length = n) (hsize : g.locals.size = nL) (hstack : g.stack = As.reverse ++ rest) (hW : 2 * g.monitorRoom + (rest.map fun v => v.category).sum ≤ 8) (hdg : decode cc g.pc = .ok (.invokestatic index, 3)) (hf : cells + mc ≤ R.cells ∧ slots + ms ≤ R.slots) :
    vx_Run p l e R s m args below meth c H locs cells slots mc ms g rest (Qc As.toArray) XC free := by
  obtain ⟨⟨hrc, hrs, hfr, hlo, hws, hcw⟩, hcode, hini, hy, hlen, hl, hstt⟩ := cw
  have hK : vx_Back l R p e below s args y 3 8 (PreOf R mc ms Pc) (PostOf Qc mc ms free) (vx_Post XC mc ms free) := vx_backW (hh := hh) (bytes := bytes) (maxL := maxL) (ret := ret) hM hp.1 hrc hrs hfr hlo hws hcw (fun a' U hW => word_at hW (Or.inl (by first | rfl | simp [Cond.onTables, Cond.keeps, Cond.steady])) hini)
  obtain ⟨hx, hb, hml, ho, -⟩ := S
  intro T hT X
  rcases vx_callSX X hx (hh := hh) (bytes := bytes) (maxL := maxL) (ret := ret) ho hl hstt hini hcode hy hK hg (hsize.trans hml.symm) (argsL := As) (rest := rest) (fun sig h => hn.trans (hlen sig h)) hstack hW (by rw [hb]; exact hdg)
    (fun vm₁ hW₁ => ⟨hf.1, hf.2, hp.2 (T.setVm vm₁) hT hW₁⟩) with ⟨v, vm₁, ⟨U', l2, c2, s2⟩, hW₁, X', ⟨g', mk, t, L, e1, e2, hq, h1, hL, h2, h3⟩, st⟩ | ⟨q, vm₁, ⟨U', l2, c2, s2⟩, hW₁, X', ⟨g', mk, t, L, E, ce, e1, e2, hq, hce, hcv, hcl, h1, hL, h2, h3⟩, st⟩
  · dsimp only [Pt.U, Pt.locs, Pt.cells, Pt.slots] at X' e1 e2 h1 h2 h3 st
    subst h1; subst h2; subst h3
    exact Or.inl ⟨v, (T.setVm vm₁).calling g' mk As.toArray, t, U', L, hT, X', hL, e1, e2, hq, st⟩
  · dsimp only [Pt.U, Pt.locs, Pt.cells, Pt.slots] at X' e1 e2 h1 h2 h3 st hcl
    subst h1; subst h2; subst h3
    exact Or.inr ⟨q, (T.setVm vm₁).calling g' mk As.toArray, t, U', L, E, ce, hT, X', hL, e1, e2, hq, hce, hcv, vx_cls hW₁ hcl, st⟩
end
end VXH
theorem vx_ofWH {l : Launch} {y : MethodName} {ws ws' : List Cond} {rm : Room} {Pc : Array Value → State → Prop} {Qc : Array Value → State → Outcome → State → Prop} {XC : String → State → State → Prop} {mc ms : Nat} {free : Addr → Prop} {cc : ByteArray} {maxL : Nat} {ret : Option FieldType} {hh : List (Nat × Nat × Nat × Nat)}
    (hy : plainName y.cls = true) (hw : ws = Cond.codeWith y cc maxL ret hh :: ws')
    (body : ∀ p e s m args below meth c s₁, BodyLoose p l y (headSpec ws rm) cc maxL ret e s m args below meth c s₁ → c.maxLocals = maxL → Pc args s →
      W p l e (headSpec ws rm).room s m args below meth c s.heap [] 0 0 (vx_MQ below Qc XC args s mc ms free) (entryFrame m args maxL)) : vx_Met l y ws rm Pc Qc XC mc ms free := by
  refine MetFree.of_bodyS (code := cc) (maxLocals := maxL) (ret := ret) hy ?_ ?_
  · intro args s m h hn
    obtain ⟨m9, meth, c, hn9, h1, h2, h3, h4, -, h5, h6, -⟩ := Cond.codeWith_spec (atoms_spec (ws := ws) h _ (by rw [hw]; exact List.mem_cons_self))
    cases hn.symm.trans hn9
    exact ⟨meth, c, h1, h2, h3, h4, h5, h6⟩
  · intro p e s m args below meth c s₁ B hml hP _
    have hh0 : s₁.heap = s.heap := by rw [B.state]; rfl
    obtain ⟨t, a1, o, b1, b2, b3⟩ := body p e s m args below meth c s₁ B hml hP s₁ hh0 (Stand.of_body B)
    exact ⟨t, o, a1, b1, b2, b3⟩
/-! ===== END ===== -/
/-! ===== BEGIN what the machine throws by itself, no traces kept ===== -/
section VXM
set_option maxHeartbeats 1000000 in
/-- the machine throws cls with the message text, no traces kept: from its note over the frame g to 'throwing' over the same frame (follows the proofs of Stand.vmThrowsMessage, Shelf/KitTracedVmS.lean, and Stand.throwsMessageColdBareV, StandMessageColdV.lean, without the step out of the frame) -/
theorem vx_vmAt {p : Program} {l : Launch} {e : Env} {R : Room} {s : State} {m₀ : MethodId} {args : Array Value} {below : List Frame} {meth : Method} {c : Code} {W : State} {locs : List Loc} {cells slots : Nat}
    (X : Stand p l e R s m₀ args below meth c W locs cells slots) (hexec : p.tables.exec = Jvm.exec) (htr : e.platform.stackTraces = false) {cls : String} {names : List String} {text : String}
    (hcls : Bundle.fit cls = true) (hnames : ∀ n ∈ names, Bundle.fit n = true) (hsoe : (cls == "java/lang/StackOverflowError") = false) (hoom : (cls == "java/lang/OutOfMemoryError") = false)
    (h : ∀ a ∈ Bundle.messageArmAtoms cls names, a.before args s = true)
    (hlocs : ∀ x ∈ locs, ∀ cell, s.heap[x.base]? = some cell → cell.vm.isStatics = false)
    (htext : (text == notModelled) = false) (hlimit : ¬ (stringBytes (stringToUtf16 text)).size > e.platform.arrayLengthLimit) (hheap : ¬ (stringBytes (stringToUtf16 text)).size * componentBytes .byte > e.platform.maxHeapBytes)
    {g : JFrame} (hg : g.method = m₀) (hsize : g.locals.size = c.maxLocals)
    (hRframes : names.length + 4 < R.frames) (hRlocals : 2 * g.monitorRoom + (g.stack.map fun v => v.category).sum + 10240 ≤ R.locals) (hshort : 13 * names.length + 55 ≤ 10240)
    (hRcells : cells + 3 ≤ R.cells) (hRslots : slots + ((stringBytes (stringToUtf16 text)).size + 4 + 6) ≤ R.slots) (hlocks : meth.locks = false) :
    ∃ (S : State) (q : Addr) (ce : Cell), (∀ target, Steps p.tables e below ((S.setTop g).pushFrame (.throwing q)) target → Steps p.tables e below ((W.setTop g).pushFrame (.throwNew cls (some text) none)) target) ∧
      Stand p l e R s m₀ args below meth c S locs (cells + 3) (slots + ((stringBytes (stringToUtf16 text)).size + 4 + 6)) ∧ S.heap[q]? = some ce ∧ s.vm.findClass cls = some ce.cls ∧ ce.vm = .none := by
  have howns : e.platform.frameOwnsMonitors = true := by rw [X.admits.platform]
  have hfin : e.platform.finalization = false := by rw [X.admits.platform]
  have hpl : e.platform.magicAccessors = ({} : Platform).magicAccessors := by rw [X.admits.platform]
  have a : ∀ x, x ∈ Bundle.messageArmAtoms cls names → x.holds args s none s [] = true := fun x hx => h x hx
  obtain ⟨T, Z0, L, -, Y⟩ := ThrowableC.of_atoms (args := args) howns hfin hpl (fun x hx => h x (by simp [Bundle.messageArmAtoms, hx]))
  obtain ⟨Z, M, LZ, LM, hnZ⟩ := Init0T.ofS_atoms (args := args) hpl L Y (fun x hx => h x (by simp [Bundle.messageArmAtoms, hx]))
  obtain ⟨P1, Ps, hlen, L1, hL, hP1m, hlink1, hlink⟩ := Bundle.chainS (args := args) hpl hnZ names cls hcls hnames (fun x hx => h x (by simp [Bundle.messageArmAtoms, hx]))
  obtain ⟨Zs, LZs, hn4, hfitv, hfitc⟩ := StringT.of_atoms (args := args) (fun x hx => h x (by simp [Bundle.messageArmAtoms, hx]))
  have hfound : s.vm.findClass cls = some P1.m.cls := findClass_of_methodNamed hP1m
  obtain ⟨c1, kX, hc1, hk, hord, -, -, hn6⟩ := Cond.instantiable_spec (a (.instantiable cls 6) (by simp [Bundle.messageArmAtoms]))
  cases Option.some.inj (hc1.symm.trans hfound)
  have hinit := Cond.initialized_spec hfound hk (a (.initialized cls) (by simp [Bundle.messageArmAtoms]))
  have hctor : kX.findMethod "<init>" "(Ljava/lang/String;)V" = some P1.m.idx := findMethod_of_methodNamed hP1m hk
  have hsel0 : selectMethod e.platform s.vm P1.m.cls T.fill0 = .method T.fill0 := by
    obtain ⟨c2, r2, m2, q1, q2, q3, q4, -⟩ := Cond.selects_spec (a (.selects cls Bundle.tFill0 Bundle.tFill0) (by simp [Bundle.messageArmAtoms]))
    cases Option.some.inj (q1.symm.trans hfound)
    cases Option.some.inj (q2.symm.trans (State.methodFound?_of_named Y.fill0 (by decide)))
    cases Option.some.inj (q3.symm.trans Y.fill0)
    rw [Launch.admits_selectMethod X.admits]; exact q4
  have hselF : selectMethod e.platform s.vm P1.m.cls T.fill = .method T.fill := by
    obtain ⟨c2, r2, m2, q1, q2, q3, q4, -⟩ := Cond.selects_spec (a (.selects cls Bundle.tFill Bundle.tFill) (by simp [Bundle.messageArmAtoms]))
    cases Option.some.inj (q1.symm.trans hfound)
    cases Option.some.inj (q2.symm.trans (State.methodFound?_of_named Y.fill (by decide)))
    cases Option.some.inj (q3.symm.trans Y.fill)
    rw [Launch.admits_selectMethod X.admits]; exact q4
  obtain ⟨cellS0, hcS0, hiss⟩ := Y.statics
  obtain ⟨u0, hu0⟩ := Cond.staticRefV Y.unassigned L.unassignedStatic L.statics hcS0 hiss (a (.isRef (.static Bundle.tN "UNASSIGNED_STACK" Bundle.steD)) (by simp [Bundle.messageArmAtoms]))
  obtain ⟨sen, hsen⟩ := Cond.staticRefV Y.sentinel L.sentinelStatic L.statics hcS0 hiss (a (.isRef (.static Bundle.tN "SUPPRESSED_SENTINEL" Bundle.listD)) (by simp [Bundle.messageArmAtoms]))
  obtain ⟨ci198, i198, fB, hk198, hg198, ha198, hsB, -, hnB, htB, hffB⟩ := Cond.ownField (t := .object "java/lang/Object") Y.found L.cls (by decide +kernel) (a (.fieldLink Bundle.tN 198 Bundle.tN "backtrace" "Ljava/lang/Object;") (by simp [Bundle.messageArmAtoms])) (a (.lays Bundle.tN Bundle.tN "backtrace" "Ljava/lang/Object;") (by simp [Bundle.messageArmAtoms])) e.platform hpl
  obtain ⟨cellS, hcS', heS, -, hkeep⟩ := X.same.2.2.2.2.2 T.aS cellS0 hcS0
  have hcellS : W.heap[T.aS]? = some cellS := hcS'
  have hout' : ∀ i, (⟨T.aS, i⟩ : Loc) ∉ locs := fun i hmem => by
    have := hlocs _ hmem cellS0 hcS0
    rw [hiss] at this; cases this
  have hknownS : cellS.vm ≠ .unknown := by
    rw [heS]; intro hu
    rw [show cellS0.vm = .unknown from hu] at hiss
    cases hiss
  have hvU : cellS.slots[T.fUnassigned.slot]? = some u0.v := by rw [hkeep _ (hout' _)]; exact hu0
  have hvSen : cellS.slots[T.fSentinel.slot]? = some sen.v := by rw [hkeep _ (hout' _)]; exact hsen
  obtain ⟨iM, hffM⟩ := Y.msg
  obtain ⟨tyC, dC, hdC, hdnC⟩ := Cond.laysAt hfound hk Y.cause (a (.lays cls Bundle.tN "cause" "Ljava/lang/Throwable;") (by simp [Bundle.messageArmAtoms]))
  obtain ⟨tyS, dS, hdS, hdnS⟩ := Cond.laysAt hfound hk Y.stack (a (.lays cls Bundle.tN "stackTrace" Bundle.steD) (by simp [Bundle.messageArmAtoms]))
  obtain ⟨tyP, dP, hdP, hdnP⟩ := Cond.laysAt hfound hk Y.supp (a (.lays cls Bundle.tN "suppressedExceptions" Bundle.listD) (by simp [Bundle.messageArmAtoms]))
  obtain ⟨tyM, dM, hdM, hdnM⟩ := Cond.laysAt hfound hk hffM (a (.lays cls Bundle.tN "detailMessage" "Ljava/lang/String;") (by simp [Bundle.messageArmAtoms]))
  obtain ⟨tyB, dB, hdB, hdnB⟩ := Cond.laysAt hfound hk hffB (a (.lays cls Bundle.tN "backtrace" "Ljava/lang/Object;") (by simp [Bundle.messageArmAtoms]))
  have bC := Cond.laysApart hdB hdC hdnB hdnC (by rw [hnB, Y.causeName]; decide)
  have bS := Cond.laysApart hdB hdS hdnB hdnS (by rw [hnB, Y.stackName]; decide)
  have bP := Cond.laysApart hdB hdP hdnB hdnP (by rw [hnB, Y.suppName]; decide)
  have hbk : ((preparedCellV T.toThrowableT (freshCell P1.m.cls kX) (W.heap.size + 2) u0 sen).withEntry W.cur).slots[fB.slot]? = some .null := by
    have := fresh_default (c := P1.m.cls) tyB
    rw [htB] at this
    simpa [preparedCellV, Cell.setSlot, Cell.withEntry, Array.getElem?_setIfInBounds, bC, bS, bP, bC.symm, bS.symm, bP.symm, defaultValue] using this
  have tkC := Takes.of_laid (v := .ref (W.heap.size + 2)) hk hord tyC (by rw [Y.causeType]; rfl)
  have tkS := Takes.of_laid (v := u0.v) hk hord tyS (by rw [Y.stackType]; exact fits_refV_array _ u0)
  have tkP := Takes.of_laid (v := sen.v) hk hord tyP (by rw [Y.suppType]; exact fits_refV_object _ sen)
  have tkM := Takes.of_laid (v := .ref (W.heap.size + 1)) hk hord tyM (by rw [Y.msgType]; rfl)
  have hskip : SkipFacts T e.platform s (fun u => u) u0 ((preparedCellV T.toThrowableT (freshCell P1.m.cls kX) (W.heap.size + 2) u0 sen).withEntry W.cur) := ⟨{ ci198 := ci198, i198 := i198, fBack := fB }, ⟨hk198, hg198, ha198, hsB⟩, hbk, fun _ _ => rfl⟩
  have h0 : At W g.method c below := by rw [hg]; exact X.here
  obtain ⟨hbeyond, hfreeW⟩ := X.vmMayThrow hsize (.throwNew cls (some text) none) (fun f hf => by cases hf) rfl hRlocals
  have hfr' : W.frames.length + Ps.length + 4 < (e.platform.stackLimits W.me).1 := by have := X.framesAbove hRframes; omega
  have hwd' : (stackUse (.java g :: W.frames.tail)).2 + 13 * Ps.length + 55 ≤ (e.platform.stackLimits W.me).2 := by have := X.stackAbove hsize (K := 13 * Ps.length + 55) (by omega); omega
  have hslots : W.slotsUsed + (stringBytes (stringToUtf16 text)).size + Zs.kS.instanceTypes.size + kX.instanceTypes.size ≤ e.platform.maxSlots := by
    have := X.slotsAbove hRslots
    rw [hn4, hn6]
    omega
  obtain ⟨vm', hW', st⟩ := Steps.vmThrowsMessageColdByV p (s₀ := s) (S := W) (g := g) h0 hexec T L Z LZ M LM X.warmed (t := W.cur) rfl Zs LZs P1 L1 Ps hL hlink1 hlink hsoe hoom hfound hk hinit hord hctor
    (Launch.admits_hotImplicitExceptions X.admits) hbeyond hfreeW htext hlimit hheap (X.cellsAbove hRcells) hslots (hfitv _) (hfitc _)
    (Nn := fun u => u) heapOnly_id (fun _ _ => rfl) (fun _ => rfl) (fun u x y => setCell_twice _ _ _ _) (fun _ => Nat.le_refl _) (cN := ((preparedCellV T.toThrowableT (freshCell P1.m.cls kX) (W.heap.size + 2) u0 sen).withEntry W.cur))
    hsel0 hcellS hknownS hvU tkS (fun _ hu => hu) (fun _ hu => hu) rfl rfl rfl (by simp [preparedCellV, Cell.setSlot, Cell.withEntry]) hskip (fun _ _ hA hW _ hroom _ hrest => L.nativeOff p htr hA hW hroom hrest) hselF hvSen tkC tkP tkM Y.objLocals rfl hfr' hwd'
  rw [plainBareV_eq T.toThrowableT (W.heap.size + 2) u0 sen (.ref (W.heap.size + 1)) W.cur rfl rfl] at st
  obtain ⟨-, -, w3, w4, -, -, -⟩ := withThrown_facts e.platform W Zs text P1.m.cls kX
  have X3 := ((X.pushed (bytesOf Zs.cB (stringToUtf16 text))).pushed (stringAt Zs.cS Zs.kS Zs.fv Zs.fc (stringToUtf16 text) W.heap.size)).pushed (freshCell P1.m.cls kX)
  rw [← withString_eq] at X3
  have X4 := X3.noted hW'
  have ha : (W.heap.size + 2) < ((withThrown W Zs text P1.m.cls kX).setVm vm').heap.size := by show _ < (withThrown W Zs text P1.m.cls kX).heap.size; rw [w3]; omega
  have hcell : ((withThrown W Zs text P1.m.cls kX).setVm vm').heap[(W.heap.size + 2)]? = some (freshCell P1.m.cls kX) := w4
  have X5 := ((((X4.stored hcell T.fCause.slot (.ref (W.heap.size + 2))).storedAgain ha T.fStack.slot u0.v).storedAgain ha T.fSupp.slot sen.v).storedAgain ha T.fStack.slot u0.v).storedAgain ha T.fMsg.slot (.ref (W.heap.size + 1))
  obtain ⟨g₁, hfrM⟩ := X5.frames_eq
  have hU : ((((withThrown W Zs text P1.m.cls kX).setVm vm').setCell (W.heap.size + 2) (plainBareV T.toThrowableT (freshCell P1.m.cls kX) (W.heap.size + 2) u0 sen (.ref (W.heap.size + 1)))).setTop g).pushFrame (.throwing (W.heap.size + 2)) = (((withThrown W Zs text P1.m.cls kX).setVm vm').setCell (W.heap.size + 2) (plainBareV T.toThrowableT (freshCell P1.m.cls kX) (W.heap.size + 2) u0 sen (.ref (W.heap.size + 1)))).setFrames (.throwing (W.heap.size + 2) :: .java g :: below) := by
    rw [State.pushFrame, State.frames_setTop _ hfrM, State.setTop_of_frames _ hfrM, State.setFrames_setFrames]
  have b1 : (bytesOf Zs.cB (stringToUtf16 text)).slots.size = (stringBytes (stringToUtf16 text)).size := by
    rw [(Cell.writeAll_facts _ _).2.2]; simp [bytes0]
  have b2 : (stringAt Zs.cS Zs.kS Zs.fv Zs.fc (stringToUtf16 text) W.heap.size).slots.size = 4 := by simp [string0, Cell.setSlot, hn4]
  have b3 : (freshCell P1.m.cls kX).slots.size = 6 := by simp [hn6]
  rw [b1, b2, b3] at X5
  have e9 : slots + (stringBytes (stringToUtf16 text)).size + 4 + 6 = slots + ((stringBytes (stringToUtf16 text)).size + 4 + 6) := by omega
  rw [e9] at X5
  simp only [List.append_assoc, List.cons_append, List.nil_append] at X5
  refine ⟨((withThrown W Zs text P1.m.cls kX).setVm vm').setCell (W.heap.size + 2) (plainBareV T.toThrowableT (freshCell P1.m.cls kX) (W.heap.size + 2) u0 sen (.ref (W.heap.size + 1))), W.heap.size + 2, _, fun target ht => st _ (by rw [X.tail, ← hU]; exact ht),
    X5.forget (fun y hy => ?_), heapAt_setCell_self _ ha, hfound, rfl⟩
  simp only [List.mem_cons, List.not_mem_nil, or_false] at hy
  have hge : s.heap.size ≤ W.heap.size := X.same.2.1
  rcases hy with rfl | rfl | rfl | rfl | rfl <;> exact Nat.le_trans hge (Nat.le_add_right _ 2)
set_option maxHeartbeats 1000000 in
/-- the machine throws NullPointerException, no traces kept: from its note over the frame g to 'throwing' over the same frame (follows the proof of Stand.vmThrowsNpe, Shelf42/KT2.lean; throwsNpeColdBareVAt, Shelf42/NT91.lean, called) -/
theorem vx_npeAt {p : Program} {l : Launch} {e : Env} {R : Room} {s : State} {m₀ : MethodId} {args : Array Value} {below : List Frame} {meth : Method} {c : Code} {W : State} {locs : List Loc} {cells slots : Nat}
    (X : Stand p l e R s m₀ args below meth c W locs cells slots) (hexec : p.tables.exec = Jvm.exec) (htr : e.platform.stackTraces = false) {n : Nat}
    (h : ∀ a ∈ Bundle.npeArmAtoms n, a.before args s = true)
    (hlocs : ∀ x ∈ locs, ∀ cell, s.heap[x.base]? = some cell → cell.vm.isStatics = false)
    {g : JFrame} (hg : g.method = m₀) (hsize : g.locals.size = c.maxLocals)
    (hRframes : 7 < R.frames) (hRlocals : 2 * g.monitorRoom + (g.stack.map fun v => v.category).sum + 10240 ≤ R.locals)
    (hRcells : cells + 1 ≤ R.cells) (hRslots : slots + n ≤ R.slots) (hlocks : meth.locks = false) :
    ∃ (S : State) (q : Addr) (ce : Cell), (∀ target, Steps p.tables e below ((S.setTop g).pushFrame (.throwing q)) target → Steps p.tables e below ((W.setTop g).pushFrame (.throwNew "java/lang/NullPointerException" none none)) target) ∧
      Stand p l e R s m₀ args below meth c S locs (cells + 1) (slots + n) ∧ S.heap[q]? = some ce ∧ s.vm.findClass "java/lang/NullPointerException" = some ce.cls ∧ ce.vm = .none := by
  have howns : e.platform.frameOwnsMonitors = true := by rw [X.admits.platform]
  have hfin : e.platform.finalization = false := by rw [X.admits.platform]
  have hpl : e.platform.magicAccessors = ({} : Platform).magicAccessors := by rw [X.admits.platform]
  have hpl2 : e.platform.arrayCloneIsPublic = true := by rw [X.admits.platform]
  have a' : ∀ x, x ∈ Bundle.npeArmAtoms n → x.holds args s none s [] = true := fun x hx => h x hx
  obtain ⟨T, Z, L, LZ, Y⟩ := ThrowableC.of_atoms (args := args) howns hfin hpl (fun x hx => h x (by simp [Bundle.npeArmAtoms, hx]))
  obtain ⟨N, LN, hcN, hnNF, hordN, hffS⟩ := NpeC.of_atoms (args := args) hpl hpl2 L Y (fun x hx => h x (by simp [Bundle.npeArmAtoms, hx]))
  obtain ⟨P1, L1, hP1m, hP1s⟩ := PassC.of_atoms (args := args) (s := s) hpl (X := Bundle.nN) (Y := Bundle.rN) (by decide) (by decide) LibCode.NullPointerException.Init0.at_0 LibCode.NullPointerException.Init0.at_1 LibCode.NullPointerException.Init0.at_4 (fun x hx => h x (by simp [Bundle.npeArmAtoms, hx]))
  obtain ⟨PR, LR, hPRm, hPRs⟩ := PassC.of_atoms (args := args) (s := s) hpl (X := Bundle.rN) (Y := Bundle.eN) (by decide) (by decide) LibCode.RuntimeException.Init0.at_0 LibCode.RuntimeException.Init0.at_1 LibCode.RuntimeException.Init0.at_4 (fun x hx => h x (by simp [Bundle.npeArmAtoms, hx]))
  obtain ⟨PE, LEx, hPEm, hPEs⟩ := PassC.of_atoms (args := args) (s := s) hpl (X := Bundle.eN) (Y := Bundle.tN) (by decide) (by decide) LibCode.Exception.Init0.at_0 LibCode.Exception.Init0.at_1 LibCode.Exception.Init0.at_4 (fun x hx => h x (by simp [Bundle.npeArmAtoms, hx]))
  have hfound : s.vm.findClass Bundle.nN = some P1.m.cls := findClass_of_methodNamed hP1m
  have ecls : N.cN = P1.m.cls := Option.some.inj (hcN.symm.trans hfound)
  have hk : s.vm.classes[P1.m.cls]? = some N.kN := by rw [← ecls]; exact LN.cls
  have hinit := Cond.initialized_spec hfound hk (a' (.initialized Bundle.nN) (by simp [Bundle.npeArmAtoms]))
  have hctor : N.kN.findMethod "<init>" "()V" = some P1.m.idx := findMethod_of_methodNamed hP1m hk
  obtain ⟨c1, k1, hc1, hk1, -, -, -, hn⟩ := Cond.instantiable_spec (a' (.instantiable Bundle.nN n) (by simp [Bundle.npeArmAtoms]))
  cases Option.some.inj (hc1.symm.trans hfound)
  cases Option.some.inj (hk1.symm.trans hk)
  have hfsz : (freshCell P1.m.cls N.kN).slots.size = n := by simp [hn]
  have hlink1 : P1.sup = PR.m := Option.some.inj (hP1s.symm.trans hPRm)
  have hlinkR : PR.sup = PE.m := Option.some.inj (hPRs.symm.trans hPEm)
  have hlinkE : PE.sup = Z.m T.toThrowableT := Option.some.inj (hPEs.symm.trans Y.init0)
  have hLs : ∀ P, P ∈ [PR, PE] → P.Links0 e.platform s := fun P hP => by
    simp only [List.mem_cons, List.not_mem_nil, or_false] at hP
    rcases hP with rfl | rfl
    · exact LR
    · exact LEx
  have hsel0 : selectMethod e.platform s.vm P1.m.cls T.fill0 = .method T.fill0 := by
    obtain ⟨c2, r2, m2, q1, q2, q3, q4, -⟩ := Cond.selects_spec (a' (.selects Bundle.nN Bundle.tFill0 Bundle.tFill0) (by simp [Bundle.npeArmAtoms]))
    cases Option.some.inj (q1.symm.trans hfound)
    cases Option.some.inj (q2.symm.trans (State.methodFound?_of_named Y.fill0 (by decide)))
    cases Option.some.inj (q3.symm.trans Y.fill0)
    rw [Launch.admits_selectMethod X.admits]; exact q4
  have hselF : selectMethod e.platform s.vm P1.m.cls T.fill = .method N.fill := by
    obtain ⟨c2, r2, m2, q1, q2, q3, q4, -⟩ := Cond.selects_spec (a' (.selects Bundle.nN Bundle.tFill Bundle.nFill) (by simp [Bundle.npeArmAtoms]))
    cases Option.some.inj (q1.symm.trans hfound)
    cases Option.some.inj (q2.symm.trans (State.methodFound?_of_named Y.fill (by decide)))
    cases Option.some.inj (q3.symm.trans hnNF)
    rw [Launch.admits_selectMethod X.admits]; exact q4
  obtain ⟨cellS0, hcS0, hiss⟩ := Y.statics
  obtain ⟨u0, hu0⟩ := Cond.staticRefV Y.unassigned L.unassignedStatic L.statics hcS0 hiss (a' (.isRef (.static Bundle.tN "UNASSIGNED_STACK" Bundle.steD)) (by simp [Bundle.npeArmAtoms]))
  obtain ⟨sen, hsen⟩ := Cond.staticRefV Y.sentinel L.sentinelStatic L.statics hcS0 hiss (a' (.isRef (.static Bundle.tN "SUPPRESSED_SENTINEL" Bundle.listD)) (by simp [Bundle.npeArmAtoms]))
  obtain ⟨ci198, i198, fB, hk198, hg198, ha198, hsB, -, hnB, htB, hffB⟩ := Cond.ownField (t := .object "java/lang/Object") Y.found L.cls (by decide +kernel) (a' (.fieldLink Bundle.tN 198 Bundle.tN "backtrace" Bundle.objD) (by simp [Bundle.npeArmAtoms])) (a' (.lays Bundle.tN Bundle.tN "backtrace" Bundle.objD) (by simp [Bundle.npeArmAtoms])) e.platform hpl
  obtain ⟨cellS, hcS', heS, -, hkeep⟩ := X.same.2.2.2.2.2 T.aS cellS0 hcS0
  have hcellS : W.heap[T.aS]? = some cellS := hcS'
  have hout' : ∀ i, (⟨T.aS, i⟩ : Loc) ∉ locs := fun i hmem => by
    have := hlocs _ hmem cellS0 hcS0
    rw [hiss] at this; cases this
  have hknownS : cellS.vm ≠ .unknown := by
    rw [heS]; intro hu
    rw [show cellS0.vm = .unknown from hu] at hiss
    cases hiss
  have hvU : cellS.slots[T.fUnassigned.slot]? = some u0.v := by rw [hkeep _ (hout' _)]; exact hu0
  have hvSen : cellS.slots[T.fSentinel.slot]? = some sen.v := by rw [hkeep _ (hout' _)]; exact hsen
  obtain ⟨tyC, dC, hdC, hdnC⟩ := Cond.laysAt hfound hk Y.cause (a' (.lays Bundle.nN Bundle.tN "cause" "Ljava/lang/Throwable;") (by simp [Bundle.npeArmAtoms]))
  obtain ⟨tyS, dS, hdS, hdnS⟩ := Cond.laysAt hfound hk Y.stack (a' (.lays Bundle.nN Bundle.tN "stackTrace" Bundle.steD) (by simp [Bundle.npeArmAtoms]))
  obtain ⟨tyP, dP, hdP, hdnP⟩ := Cond.laysAt hfound hk Y.supp (a' (.lays Bundle.nN Bundle.tN "suppressedExceptions" Bundle.listD) (by simp [Bundle.npeArmAtoms]))
  obtain ⟨tyX, dX, hdX, hdnX⟩ := Cond.laysAt hfound hk hffS (a' (.lays Bundle.nN Bundle.nN "extendedMessageState" "I") (by simp [Bundle.npeArmAtoms, Bundle.npeAtoms]))
  obtain ⟨hnX, htX⟩ := State.fieldFound?_type hffS (t := .int) (by decide +kernel)
  have xC := Cond.laysApart hdC hdX hdnC hdnX (by rw [hnX, Y.causeName]; decide)
  have xS := Cond.laysApart hdS hdX hdnS hdnX (by rw [hnX, Y.stackName]; decide)
  have xP := Cond.laysApart hdP hdX hdnP hdnX (by rw [hnX, Y.suppName]; decide)
  have hv0 : (freshCell P1.m.cls N.kN).slots[N.fState.slot]? = some (.int 0) := by
    have := fresh_default (c := P1.m.cls) tyX
    rw [htX] at this; exact this
  obtain ⟨tyB, dB, hdB, hdnB⟩ := Cond.laysAt hfound hk hffB (a' (.lays Bundle.nN Bundle.tN "backtrace" Bundle.objD) (by simp [Bundle.npeArmAtoms]))
  have bC := Cond.laysApart hdB hdC hdnB hdnC (by rw [hnB, Y.causeName]; decide)
  have bS := Cond.laysApart hdB hdS hdnB hdnS (by rw [hnB, Y.stackName]; decide)
  have bP := Cond.laysApart hdB hdP hdnB hdnP (by rw [hnB, Y.suppName]; decide)
  have bX := Cond.laysApart hdB hdX hdnB hdnX (by rw [hnB, hnX]; decide)
  have hbk : ((npeCell N.toNpeT (preparedCellV T.toThrowableT (freshCell P1.m.cls N.kN) W.heap.size u0 sen) W.cur).withEntry W.cur).slots[fB.slot]? = some .null := by
    have := fresh_default (c := P1.m.cls) tyB
    rw [htB] at this
    simpa [npeCell, preparedCellV, Cell.setSlot, Cell.withEntry, Array.getElem?_setIfInBounds, bC, bS, bP, bX, bC.symm, bS.symm, bP.symm, bX.symm, defaultValue] using this
  have tkC := Takes.of_laid (v := .ref W.heap.size) hk hordN tyC (by rw [Y.causeType]; rfl)
  have tkS := Takes.of_laid (v := u0.v) hk hordN tyS (by rw [Y.stackType]; exact fits_refV_array _ u0)
  have tkP := Takes.of_laid (v := sen.v) hk hordN tyP (by rw [Y.suppType]; exact fits_refV_object _ sen)
  have tkX := Takes.of_laid (v := .int 1) hk hordN tyX (by rw [htX]; rfl)
  have hskip : SkipFacts T e.platform s (fun u => u) u0 ((npeCell N.toNpeT (preparedCellV T.toThrowableT (freshCell P1.m.cls N.kN) W.heap.size u0 sen) W.cur).withEntry W.cur) := ⟨{ ci198 := ci198, i198 := i198, fBack := fB }, ⟨hk198, hg198, ha198, hsB⟩, hbk, fun _ _ => rfl⟩
  obtain ⟨vm', X3, st, -⟩ := X.throwsNpeColdBareVAt hexec hg hsize T L Z LZ N LN P1 L1 [PR, PE] hLs hlink1 ⟨hlinkR, hlinkE, trivial⟩ hfound hk hinit hordN hctor hsel0 hselF hcellS hknownS hvU hvSen
    hv0 xC xS xP tkC tkS tkP tkX Y.objLocals hskip (fun _ _ hA hW _ hroom _ hrest => L.nativeOff p htr hA hW hroom hrest) (by simpa using hRframes) hRlocals (by simp) hRcells (by rw [hn]; exact hRslots)
  have hlt : W.heap.size < ((W.pushCell (freshCell P1.m.cls N.kN)).setVm vm').heap.size := by
    show W.heap.size < (W.pushCell (freshCell P1.m.cls N.kN)).heap.size
    rw [State.heap_size_pushCell]; omega
  rw [hfsz] at X3
  obtain ⟨g₁, hfrM⟩ := X3.frames_eq
  have hU : ((((W.pushCell (freshCell P1.m.cls N.kN)).setVm vm').setCell W.heap.size (npeBareV T.toThrowableT N.toNpeT (freshCell P1.m.cls N.kN) W.heap.size u0 sen)).setTop g).pushFrame (.throwing W.heap.size) = (((W.pushCell (freshCell P1.m.cls N.kN)).setVm vm').setCell W.heap.size (npeBareV T.toThrowableT N.toNpeT (freshCell P1.m.cls N.kN) W.heap.size u0 sen)).setFrames (.throwing W.heap.size :: .java g :: below) := by
    rw [State.pushFrame, State.frames_setTop _ hfrM, State.setTop_of_frames _ hfrM, State.setFrames_setFrames]
  refine ⟨_, W.heap.size, _, fun target ht => st.trans (by rw [← hU]; exact ht), X3.forget (fun y hy => ?_), heapAt_setCell_self _ hlt, hfound, rfl⟩
  simp only [List.mem_cons, List.not_mem_nil, or_false] at hy
  have hge : s.heap.size ≤ W.heap.size := X.same.2.1
  rcases hy with rfl | rfl | rfl | rfl | rfl <;> exact hge
/-- the words of a machine's NullPointerException, but the four that speak of the heap -/
def vx_atN (n : Nat) : List Cond := (Bundle.npeArmAtoms n).filter vx_no
/-- the words of a machine's throw with a message, but the four that speak of the heap -/
def vx_atM (X : String) (names : List String) : List Cond := (Bundle.messageArmAtoms X names).filter vx_no
section
variable {p : Program} {l : Launch} {e : Env} {R : Room} {s : State} {m : MethodId} {args : Array Value} {below : List Frame} {meth : Method} {c : Code} {H : Heap} {locs : List Loc} {cells slots : Nat}
/-- a frame seen from a rebased start, seen from the first start again -/
theorem vx_back9 {T S : State} {R' : Room} {k n : Nat} (X : Stand p l e R s m args below meth c T locs cells slots) (Y : Stand p l e R' ((T.setVm s.vm).setFrames (.invoking m args :: below)) m args below meth c T [] 0 0) (Z : Stand p l e R' ((T.setVm s.vm).setFrames (.invoking m args :: below)) m args below meth c S [] k n) :
    Stand p l e R s m args below meth c S locs (cells + k) (slots + n) := by
  have hW0 : s.WarmedH ((T.setVm s.vm).setFrames (.invoking m args :: below)).vm := State.WarmedH.refl s
  refine { admits := X.admits, cas := X.cas, clock := X.clock, frames := X.frames, room := X.room, hears := X.hears, method := X.method, code := X.code, here := Z.here, tail := Z.tail, warmed := State.WarmedH.trans hW0 Z.warmed, limits := Z.limits.trans (Y.limits.symm.trans X.limits), bytes := Z.bytes.trans (Y.bytes.symm.trans X.bytes), same := ?_ }
  obtain ⟨e1, e2⟩ := Z.same
  rw [State.setFrames_setFrames] at e1
  have h2 : (T.setVm s.vm).sameButNew (S.setVm s.vm) [] k n := ⟨e1, e2⟩
  have h3 := X.same.trans h2
  rw [List.append_nil] at h3
  exact h3
/-- from the machine's note that E is thrown here with this text -/
def vx_Note (p : Program) (l : Launch) (e : Env) (R : Room) (s : State) (m : MethodId) (args : Array Value) (below : List Frame) (meth : Method) (c : Code) (H : Heap) (locs : List Loc) (cells slots : Nat) (Q : State → Prop) (g : JFrame) (E text : String) : Prop :=
  ∀ T : State, T.heap = H → Stand p l e R s m args below meth c T locs cells slots → ∃ t, Steps p.tables e below ((T.setTop g).pushFrame (.throwNew E (some text) none)) t ∧ Q t
theorem vx_vm {pc : Nat} {ls : Array Slot} {rest : List Value} {Q : State → Prop} (hexec : p.tables.exec = Jvm.exec) (hl : l.stackTraces = false) {cls text : String} {names : List String} {nb : Nat} {A : Nat → Prop}
    (hcls : Bundle.fit cls = true) (hnames : ∀ n ∈ names, Bundle.fit n = true) (hsoe : (cls == "java/lang/StackOverflowError") = false) (hoom : (cls == "java/lang/OutOfMemoryError") = false)
    (hat : ∀ w ∈ vx_atM cls names, w.before args s = true) (hgood : ∀ w ∈ vx_atM cls names, vx_ot w = true)
    (hU : vx_Zq Bundle.tN "UNASSIGNED_STACK" Bundle.steD A s s.heap) (hN : vx_Zq Bundle.tN "SUPPRESSED_SENTINEL" Bundle.listD A s s.heap) (hS : va_S A s.heap H locs) (hsize : ls.size = c.maxLocals)
    (htext : (text == notModelled) = false) (hnb : (stringBytes (stringToUtf16 text)).size ≤ nb) (hnb1 : nb ≤ 1000)
    (hRframes : names.length + 4 < R.frames) (hRlocals : (rest.map fun v => v.category).sum + 10240 ≤ R.locals) (hshort : 13 * names.length + 55 ≤ 10240) (hRcells : cells + 3 ≤ R.cells) (hRslots : slots + (nb + 10) ≤ R.slots) (hlocks : meth.locks = false)
    (k : ∀ (H1 : Heap) (q9 : Addr) (ce : Cell), H.size ≤ H1.size → (∀ q : Nat, q < H.size → H1[q]? = H[q]?) → va_S A s.heap H1 locs → H1[q9]? = some ce → ce.vm = .none → s.vm.findClass cls = some ce.cls → vx_W p l e R s m args below meth c H1 locs (cells + 3) (slots + (nb + 10)) Q (F0 m pc ls rest) q9) :
    vx_Note p l e R s m args below meth c H locs cells slots Q (F0 m pc ls rest) cls text := by
  intro T hT X
  have htr : e.platform.stackTraces = false := (show e.platform.stackTraces = l.stackTraces by rw [X.admits.platform]).trans hl
  have Y := vx_rebase X (R' := { frames := R.frames, locals := R.locals, cells := 3, slots := nb + 10 }) (Nat.le_refl _) (Nat.le_refl _) hRcells hRslots
  have hhp : ((T.setVm s.vm).setFrames (.invoking m args :: below)).heap = H := hT
  have hW0 : s.WarmedH ((T.setVm s.vm).setFrames (.invoking m args :: below)).vm := State.WarmedH.refl s
  have hat' : ∀ w ∈ vx_atM cls names, w.before args ((T.setVm s.vm).setFrames (.invoking m args :: below)) = true := fun w hw => vx_ot_at hW0 rfl (hgood w hw) (hat w hw)
  have hU' : vx_Zq Bundle.tN "UNASSIGNED_STACK" Bundle.steD A ((T.setVm s.vm).setFrames (.invoking m args :: below)) ((T.setVm s.vm).setFrames (.invoking m args :: below)).heap := by rw [hhp]; exact vx_Zq.moved hW0.alike (hU.kept hS.2.1)
  have hN' : vx_Zq Bundle.tN "SUPPRESSED_SENTINEL" Bundle.listD A ((T.setVm s.vm).setFrames (.invoking m args :: below)) ((T.setVm s.vm).setFrames (.invoking m args :: below)).heap := by rw [hhp]; exact vx_Zq.moved hW0.alike (hN.kept hS.2.1)
  obtain ⟨S, q, ce, st, Z, hce, hcl', hv⟩ := vx_vmAt Y hexec htr (cls := cls) (names := names) (text := text) hcls hnames hsoe hoom (vx_own hat' (vx_isRefq hU'.1) (vx_isRefq hN'.1) hU'.2.word hN'.2.word) (fun x hx => nomatch hx) htext
    (by rw [Launch.admits_arrayLengthLimit X.admits]; omega) (by rw [Launch.admits_maxHeapBytes X.admits]; simp only [componentBytes]; omega)
    (g := F0 m pc ls rest) rfl hsize hRframes (by show 2 * 0 + (rest.map fun v => v.category).sum + 10240 ≤ R.locals; omega) hshort (by show 0 + 3 ≤ 3; omega) (by show 0 + (_ + 4 + 6) ≤ nb + 10; omega) hlocks
  obtain ⟨f1, f2⟩ := vx_frame Z.same
  have f1' : H.size ≤ S.heap.size := by rw [← hT]; exact f1
  have f2' : ∀ q : Nat, q < H.size → S.heap[q]? = H[q]? := fun q hq => by
    rw [← hT]
    exact f2 q (by rw [← hT] at hq; exact hq) (fun z hz => nomatch hz)
  have X5 := vx_back9 X Y Z
  have X6 : Stand p l e R s m args below meth c S locs (cells + 3) (slots + (nb + 10)) := { X5 with same := X5.same.mono (by omega) (by omega) }
  obtain ⟨t, a1, b1⟩ := k S.heap q ce f1' f2' ⟨Nat.le_trans hS.1 f1', fun q h1 h2 => (f2' q (Nat.lt_of_lt_of_le h1 hS.1)).trans (hS.2.1 q h1 h2), hS.2.2⟩ hce hv hcl' S rfl X6
  exact ⟨t, st t a1, b1⟩
/-- from the machine's note that NullPointerException is thrown here -/
def vx_NoteN (p : Program) (l : Launch) (e : Env) (R : Room) (s : State) (m : MethodId) (args : Array Value) (below : List Frame) (meth : Method) (c : Code) (H : Heap) (locs : List Loc) (cells slots : Nat) (Q : State → Prop) (g : JFrame) : Prop :=
  ∀ T : State, T.heap = H → Stand p l e R s m args below meth c T locs cells slots → ∃ t, Steps p.tables e below ((T.setTop g).pushFrame (.throwNew "java/lang/NullPointerException" none none)) t ∧ Q t
theorem vx_npe {pc : Nat} {ls : Array Slot} {rest : List Value} {Q : State → Prop} (hexec : p.tables.exec = Jvm.exec) (hl : l.stackTraces = false) {nb : Nat} {A : Nat → Prop}
    (hat : ∀ w ∈ vx_atN nb, w.before args s = true) (hgood : ∀ w ∈ vx_atN nb, vx_ot w = true)
    (hU : vx_Zq Bundle.tN "UNASSIGNED_STACK" Bundle.steD A s s.heap) (hN : vx_Zq Bundle.tN "SUPPRESSED_SENTINEL" Bundle.listD A s s.heap) (hS : va_S A s.heap H locs) (hsize : ls.size = c.maxLocals)
    (hRframes : 7 < R.frames) (hRlocals : (rest.map fun v => v.category).sum + 10240 ≤ R.locals) (hRcells : cells + 1 ≤ R.cells) (hRslots : slots + nb ≤ R.slots) (hlocks : meth.locks = false)
    (k : ∀ (H1 : Heap) (q9 : Addr) (ce : Cell), H.size ≤ H1.size → (∀ q : Nat, q < H.size → H1[q]? = H[q]?) → va_S A s.heap H1 locs → H1[q9]? = some ce → ce.vm = .none → s.vm.findClass "java/lang/NullPointerException" = some ce.cls → vx_W p l e R s m args below meth c H1 locs (cells + 1) (slots + nb) Q (F0 m pc ls rest) q9) :
    vx_NoteN p l e R s m args below meth c H locs cells slots Q (F0 m pc ls rest) := by
  intro T hT X
  have htr : e.platform.stackTraces = false := (show e.platform.stackTraces = l.stackTraces by rw [X.admits.platform]).trans hl
  have Y := vx_rebase X (R' := { frames := R.frames, locals := R.locals, cells := 1, slots := nb }) (Nat.le_refl _) (Nat.le_refl _) hRcells hRslots
  have hhp : ((T.setVm s.vm).setFrames (.invoking m args :: below)).heap = H := hT
  have hW0 : s.WarmedH ((T.setVm s.vm).setFrames (.invoking m args :: below)).vm := State.WarmedH.refl s
  have hat' : ∀ w ∈ vx_atN nb, w.before args ((T.setVm s.vm).setFrames (.invoking m args :: below)) = true := fun w hw => vx_ot_at hW0 rfl (hgood w hw) (hat w hw)
  have hU' : vx_Zq Bundle.tN "UNASSIGNED_STACK" Bundle.steD A ((T.setVm s.vm).setFrames (.invoking m args :: below)) ((T.setVm s.vm).setFrames (.invoking m args :: below)).heap := by rw [hhp]; exact vx_Zq.moved hW0.alike (hU.kept hS.2.1)
  have hN' : vx_Zq Bundle.tN "SUPPRESSED_SENTINEL" Bundle.listD A ((T.setVm s.vm).setFrames (.invoking m args :: below)) ((T.setVm s.vm).setFrames (.invoking m args :: below)).heap := by rw [hhp]; exact vx_Zq.moved hW0.alike (hN.kept hS.2.1)
  obtain ⟨S, q, ce, st, Z, hce, hcl', hv⟩ := vx_npeAt Y hexec htr (n := nb) (vx_own hat' (vx_isRefq hU'.1) (vx_isRefq hN'.1) hU'.2.word hN'.2.word) (fun x hx => nomatch hx)
    (g := F0 m pc ls rest) rfl hsize hRframes (by show 2 * 0 + (rest.map fun v => v.category).sum + 10240 ≤ R.locals; omega) (by show 0 + 1 ≤ 1; omega) (by show 0 + nb ≤ nb; omega) hlocks
  obtain ⟨f1, f2⟩ := vx_frame Z.same
  have f1' : H.size ≤ S.heap.size := by rw [← hT]; exact f1
  have f2' : ∀ q : Nat, q < H.size → S.heap[q]? = H[q]? := fun q hq => by
    rw [← hT]
    exact f2 q (by rw [← hT] at hq; exact hq) (fun z hz => nomatch hz)
  have X5 := vx_back9 X Y Z
  have X6 : Stand p l e R s m args below meth c S locs (cells + 1) (slots + nb) := { X5 with same := X5.same.mono (by omega) (by omega) }
  obtain ⟨t, a1, b1⟩ := k S.heap q ce f1' f2' ⟨Nat.le_trans hS.1 f1', fun q h1 h2 => (f2' q (Nat.lt_of_lt_of_le h1 hS.1)).trans (hS.2.1 q h1 h2), hS.2.2⟩ hce hv hcl' S rfl X6
  exact ⟨t, st t a1, b1⟩
variable {Q : State → Prop} {cc : ByteArray} {pc : Nat} {ls : Array Slot} {rest : List Value}
theorem vx_idivZ (hexec : p.tables.exec = Jvm.exec) (hb : c.code = cc) {a b : Int32} (h0 : b = 0) (d : decode cc pc = .ok (.idiv, 1)) (k : vx_Note p l e R s m args below meth c H locs cells slots Q (F0 m pc ls rest) "java/lang/ArithmeticException" "/ by zero") :
    W p l e R s m args below meth c H locs cells slots Q (F0 m pc ls (.int b :: .int a :: rest)) := by
  intro T hT X
  obtain ⟨t, st, q⟩ := k T hT X
  exact ⟨t, X.idivZero hexec (g := F0 m pc ls (.int b :: .int a :: rest)) rfl (a := a) (rest := rest) (by rw [h0]) (by rw [hb]; exact d) t st, q⟩
theorem vx_iremZ (hexec : p.tables.exec = Jvm.exec) (hb : c.code = cc) {a b : Int32} (h0 : b = 0) (d : decode cc pc = .ok (.irem, 1)) (k : vx_Note p l e R s m args below meth c H locs cells slots Q (F0 m pc ls rest) "java/lang/ArithmeticException" "/ by zero") :
    W p l e R s m args below meth c H locs cells slots Q (F0 m pc ls (.int b :: .int a :: rest)) := by
  intro T hT X
  obtain ⟨t, st, q⟩ := k T hT X
  exact ⟨t, X.iremZero hexec (g := F0 m pc ls (.int b :: .int a :: rest)) rfl (a := a) (rest := rest) (by rw [h0]) (by rw [hb]; exact d) t st, q⟩
theorem vx_ldivZ (hexec : p.tables.exec = Jvm.exec) (hb : c.code = cc) {a b : Int64} (h0 : b = 0) (d : decode cc pc = .ok (.ldiv, 1)) (k : vx_Note p l e R s m args below meth c H locs cells slots Q (F0 m pc ls rest) "java/lang/ArithmeticException" "/ by zero") :
    W p l e R s m args below meth c H locs cells slots Q (F0 m pc ls (.long b :: .long a :: rest)) := by
  intro T hT X
  obtain ⟨t, st, q⟩ := k T hT X
  exact ⟨t, X.ldivZero hexec (g := F0 m pc ls (.long b :: .long a :: rest)) rfl (a := a) (rest := rest) (by rw [h0]) (by rw [hb]; exact d) t st, q⟩
theorem vx_lremZ (hexec : p.tables.exec = Jvm.exec) (hb : c.code = cc) {a b : Int64} (h0 : b = 0) (d : decode cc pc = .ok (.lrem, 1)) (k : vx_Note p l e R s m args below meth c H locs cells slots Q (F0 m pc ls rest) "java/lang/ArithmeticException" "/ by zero") :
    W p l e R s m args below meth c H locs cells slots Q (F0 m pc ls (.long b :: .long a :: rest)) := by
  intro T hT X
  obtain ⟨t, st, q⟩ := k T hT X
  exact ⟨t, X.lremZero hexec (g := F0 m pc ls (.long b :: .long a :: rest)) rfl (a := a) (rest := rest) (by rw [h0]) (by rw [hb]; exact d) t st, q⟩
theorem vx_ialdZ {D : va_G} {cl : List vw_C} {ws : va_W} {tys : List (ClassId × FieldType)} {a : Nat} (hexec : p.tables.exec = Jvm.exec) (hb : c.code = cc) (hK : va_K D cl tys s) (hP : va_P D cl ws H) (q0 t0 : Nat) {cA : ClassId} {n : Nat} {f : Nat → Int32} (ha : ws[q0]? = some (a, .inl (cA, n, .inl f))) (ht : tys[t0]? = some (cA, .int)) {i : Int32} (hout : ¬ vp_in i n) (hdg : decode cc pc = .ok (.iaload, 1))
    (k : ∀ tx : String, tx = (toString "Index " ++ toString i ++ toString " out of bounds for length " ++ toString n : String) → vx_Note p l e R s m args below meth c H locs cells slots Q (F0 m pc ls rest) "java/lang/ArrayIndexOutOfBoundsException" tx) : W p l e R s m args below meth c H locs cells slots Q (F0 m pc ls (.int i :: .ref a :: rest)) := by
  intro T hT X
  obtain ⟨t, st, q⟩ := k _ rfl T hT X
  refine ⟨t, ?_, q⟩
  have h1 := X.ialoadOut hexec (by rw [hT]; exact hP q0 _ ha) ((hK.2 t0 _ ht).1 n (fun j => .int (f j))) (j := i) (by show (i < 0 ∨ (arrV _ _ _).slots.size ≤ _); rw [arrV_size]; exact Classical.byContradiction hout) (g := F0 m pc ls (.int i :: .ref a :: rest)) rfl (rest := rest) rfl (by rw [hb]; exact hdg) t
  simp only [arrV_size] at h1
  exact h1 st
theorem vx_iastZ {D : va_G} {cl : List vw_C} {ws : va_W} {tys : List (ClassId × FieldType)} {a : Nat} (hexec : p.tables.exec = Jvm.exec) (hb : c.code = cc) (hK : va_K D cl tys s) (hP : va_P D cl ws H) (q0 t0 : Nat) {cA : ClassId} {n : Nat} {f : Nat → Int32} (ha : ws[q0]? = some (a, .inl (cA, n, .inl f))) (ht : tys[t0]? = some (cA, .int)) {i : Int32} {x : Int32} (hout : ¬ vp_in i n) (hdg : decode cc pc = .ok (.iastore, 1))
    (k : ∀ tx : String, tx = (toString "Index " ++ toString i ++ toString " out of bounds for length " ++ toString n : String) → vx_Note p l e R s m args below meth c H locs cells slots Q (F0 m pc ls rest) "java/lang/ArrayIndexOutOfBoundsException" tx) : W p l e R s m args below meth c H locs cells slots Q (F0 m pc ls (.int x :: .int i :: .ref a :: rest)) := by
  intro T hT X
  obtain ⟨t, st, q⟩ := k _ rfl T hT X
  refine ⟨t, ?_, q⟩
  have h1 := X.iastoreOut hexec (by rw [hT]; exact hP q0 _ ha) ((hK.2 t0 _ ht).1 n (fun j => .int (f j))) (j := i) (by show (i < 0 ∨ (arrV _ _ _).slots.size ≤ _); rw [arrV_size]; exact Classical.byContradiction hout) (g := F0 m pc ls (.int x :: .int i :: .ref a :: rest)) rfl (rest := rest) rfl (by rw [hb]; exact hdg) t
  simp only [arrV_size] at h1
  exact h1 st
theorem vx_baldZ {D : va_G} {cl : List vw_C} {ws : va_W} {tys : List (ClassId × FieldType)} {a : Nat} (hexec : p.tables.exec = Jvm.exec) (hb : c.code = cc) (hK : va_K D cl tys s) (hP : va_P D cl ws H) (q0 t0 : Nat) {cA : ClassId} {n : Nat} {f : Nat → Int32} (ha : ws[q0]? = some (a, .inl (cA, n, .inl f))) (ht : tys[t0]? = some (cA, .byte)) {i : Int32} (hout : ¬ vp_in i n) (hdg : decode cc pc = .ok (.baload, 1))
    (k : ∀ tx : String, tx = (toString "Index " ++ toString i ++ toString " out of bounds for length " ++ toString n : String) → vx_Note p l e R s m args below meth c H locs cells slots Q (F0 m pc ls rest) "java/lang/ArrayIndexOutOfBoundsException" tx) : W p l e R s m args below meth c H locs cells slots Q (F0 m pc ls (.int i :: .ref a :: rest)) := by
  intro T hT X
  obtain ⟨t, st, q⟩ := k _ rfl T hT X
  refine ⟨t, ?_, q⟩
  have h1 := X.baloadOut hexec (by rw [hT]; exact hP q0 _ ha) ((hK.2 t0 _ ht).1 n (fun j => .int (f j))) (j := i) (by show (i < 0 ∨ (arrV _ _ _).slots.size ≤ _); rw [arrV_size]; exact Classical.byContradiction hout) (g := F0 m pc ls (.int i :: .ref a :: rest)) rfl (rest := rest) rfl (by rw [hb]; exact hdg) t
  simp only [arrV_size] at h1
  exact h1 st
theorem vx_bastZ {D : va_G} {cl : List vw_C} {ws : va_W} {tys : List (ClassId × FieldType)} {a : Nat} (hexec : p.tables.exec = Jvm.exec) (hb : c.code = cc) (hK : va_K D cl tys s) (hP : va_P D cl ws H) (q0 t0 : Nat) {cA : ClassId} {n : Nat} {f : Nat → Int32} (ha : ws[q0]? = some (a, .inl (cA, n, .inl f))) (ht : tys[t0]? = some (cA, .byte)) {i : Int32} {x : Int32} (hout : ¬ vp_in i n) (hdg : decode cc pc = .ok (.bastore, 1))
    (k : ∀ tx : String, tx = (toString "Index " ++ toString i ++ toString " out of bounds for length " ++ toString n : String) → vx_Note p l e R s m args below meth c H locs cells slots Q (F0 m pc ls rest) "java/lang/ArrayIndexOutOfBoundsException" tx) : W p l e R s m args below meth c H locs cells slots Q (F0 m pc ls (.int x :: .int i :: .ref a :: rest)) := by
  intro T hT X
  obtain ⟨t, st, q⟩ := k _ rfl T hT X
  refine ⟨t, ?_, q⟩
  have h1 := X.bastoreOut hexec (by rw [hT]; exact hP q0 _ ha) ((hK.2 t0 _ ht).1 n (fun j => .int (f j))) (j := i) (by show (i < 0 ∨ (arrV _ _ _).slots.size ≤ _); rw [arrV_size]; exact Classical.byContradiction hout) (g := F0 m pc ls (.int x :: .int i :: .ref a :: rest)) rfl (rest := rest) rfl (by rw [hb]; exact hdg) t
  simp only [arrV_size] at h1
  exact h1 st
theorem vx_zaldZ {D : va_G} {cl : List vw_C} {ws : va_W} {tys : List (ClassId × FieldType)} {a : Nat} (hexec : p.tables.exec = Jvm.exec) (hb : c.code = cc) (hK : va_K D cl tys s) (hP : va_P D cl ws H) (q0 t0 : Nat) {cA : ClassId} {n : Nat} {f : Nat → Int32} (ha : ws[q0]? = some (a, .inl (cA, n, .inl f))) (ht : tys[t0]? = some (cA, .boolean)) {i : Int32} (hout : ¬ vp_in i n) (hdg : decode cc pc = .ok (.baload, 1))
    (k : ∀ tx : String, tx = (toString "Index " ++ toString i ++ toString " out of bounds for length " ++ toString n : String) → vx_Note p l e R s m args below meth c H locs cells slots Q (F0 m pc ls rest) "java/lang/ArrayIndexOutOfBoundsException" tx) : W p l e R s m args below meth c H locs cells slots Q (F0 m pc ls (.int i :: .ref a :: rest)) := by
  intro T hT X
  obtain ⟨t, st, q⟩ := k _ rfl T hT X
  refine ⟨t, ?_, q⟩
  have h1 := X.baloadOut hexec (by rw [hT]; exact hP q0 _ ha) ((hK.2 t0 _ ht).1 n (fun j => .int (f j))) (j := i) (by show (i < 0 ∨ (arrV _ _ _).slots.size ≤ _); rw [arrV_size]; exact Classical.byContradiction hout) (g := F0 m pc ls (.int i :: .ref a :: rest)) rfl (rest := rest) rfl (by rw [hb]; exact hdg) t
  simp only [arrV_size] at h1
  exact h1 st
theorem vx_zastZ {D : va_G} {cl : List vw_C} {ws : va_W} {tys : List (ClassId × FieldType)} {a : Nat} (hexec : p.tables.exec = Jvm.exec) (hb : c.code = cc) (hK : va_K D cl tys s) (hP : va_P D cl ws H) (q0 t0 : Nat) {cA : ClassId} {n : Nat} {f : Nat → Int32} (ha : ws[q0]? = some (a, .inl (cA, n, .inl f))) (ht : tys[t0]? = some (cA, .boolean)) {i : Int32} {x : Int32} (hout : ¬ vp_in i n) (hdg : decode cc pc = .ok (.bastore, 1))
    (k : ∀ tx : String, tx = (toString "Index " ++ toString i ++ toString " out of bounds for length " ++ toString n : String) → vx_Note p l e R s m args below meth c H locs cells slots Q (F0 m pc ls rest) "java/lang/ArrayIndexOutOfBoundsException" tx) : W p l e R s m args below meth c H locs cells slots Q (F0 m pc ls (.int x :: .int i :: .ref a :: rest)) := by
  intro T hT X
  obtain ⟨t, st, q⟩ := k _ rfl T hT X
  refine ⟨t, ?_, q⟩
  have h1 := X.bastoreOut hexec (by rw [hT]; exact hP q0 _ ha) ((hK.2 t0 _ ht).1 n (fun j => .int (f j))) (j := i) (by show (i < 0 ∨ (arrV _ _ _).slots.size ≤ _); rw [arrV_size]; exact Classical.byContradiction hout) (g := F0 m pc ls (.int x :: .int i :: .ref a :: rest)) rfl (rest := rest) rfl (by rw [hb]; exact hdg) t
  simp only [arrV_size] at h1
  exact h1 st
theorem vx_caldZ {D : va_G} {cl : List vw_C} {ws : va_W} {tys : List (ClassId × FieldType)} {a : Nat} (hexec : p.tables.exec = Jvm.exec) (hb : c.code = cc) (hK : va_K D cl tys s) (hP : va_P D cl ws H) (q0 t0 : Nat) {cA : ClassId} {n : Nat} {f : Nat → Int32} (ha : ws[q0]? = some (a, .inl (cA, n, .inl f))) (ht : tys[t0]? = some (cA, .char)) {i : Int32} (hout : ¬ vp_in i n) (hdg : decode cc pc = .ok (.caload, 1))
    (k : ∀ tx : String, tx = (toString "Index " ++ toString i ++ toString " out of bounds for length " ++ toString n : String) → vx_Note p l e R s m args below meth c H locs cells slots Q (F0 m pc ls rest) "java/lang/ArrayIndexOutOfBoundsException" tx) : W p l e R s m args below meth c H locs cells slots Q (F0 m pc ls (.int i :: .ref a :: rest)) := by
  intro T hT X
  obtain ⟨t, st, q⟩ := k _ rfl T hT X
  refine ⟨t, ?_, q⟩
  have h1 := X.caloadOut hexec (by rw [hT]; exact hP q0 _ ha) ((hK.2 t0 _ ht).1 n (fun j => .int (f j))) (j := i) (by show (i < 0 ∨ (arrV _ _ _).slots.size ≤ _); rw [arrV_size]; exact Classical.byContradiction hout) (g := F0 m pc ls (.int i :: .ref a :: rest)) rfl (rest := rest) rfl (by rw [hb]; exact hdg) t
  simp only [arrV_size] at h1
  exact h1 st
theorem vx_castZ {D : va_G} {cl : List vw_C} {ws : va_W} {tys : List (ClassId × FieldType)} {a : Nat} (hexec : p.tables.exec = Jvm.exec) (hb : c.code = cc) (hK : va_K D cl tys s) (hP : va_P D cl ws H) (q0 t0 : Nat) {cA : ClassId} {n : Nat} {f : Nat → Int32} (ha : ws[q0]? = some (a, .inl (cA, n, .inl f))) (ht : tys[t0]? = some (cA, .char)) {i : Int32} {x : Int32} (hout : ¬ vp_in i n) (hdg : decode cc pc = .ok (.castore, 1))
    (k : ∀ tx : String, tx = (toString "Index " ++ toString i ++ toString " out of bounds for length " ++ toString n : String) → vx_Note p l e R s m args below meth c H locs cells slots Q (F0 m pc ls rest) "java/lang/ArrayIndexOutOfBoundsException" tx) : W p l e R s m args below meth c H locs cells slots Q (F0 m pc ls (.int x :: .int i :: .ref a :: rest)) := by
  intro T hT X
  obtain ⟨t, st, q⟩ := k _ rfl T hT X
  refine ⟨t, ?_, q⟩
  have h1 := X.castoreOut hexec (by rw [hT]; exact hP q0 _ ha) ((hK.2 t0 _ ht).1 n (fun j => .int (f j))) (j := i) (by show (i < 0 ∨ (arrV _ _ _).slots.size ≤ _); rw [arrV_size]; exact Classical.byContradiction hout) (g := F0 m pc ls (.int x :: .int i :: .ref a :: rest)) rfl (rest := rest) rfl (by rw [hb]; exact hdg) t
  simp only [arrV_size] at h1
  exact h1 st
theorem vx_saldZ {D : va_G} {cl : List vw_C} {ws : va_W} {tys : List (ClassId × FieldType)} {a : Nat} (hexec : p.tables.exec = Jvm.exec) (hb : c.code = cc) (hK : va_K D cl tys s) (hP : va_P D cl ws H) (q0 t0 : Nat) {cA : ClassId} {n : Nat} {f : Nat → Int32} (ha : ws[q0]? = some (a, .inl (cA, n, .inl f))) (ht : tys[t0]? = some (cA, .short)) {i : Int32} (hout : ¬ vp_in i n) (hdg : decode cc pc = .ok (.saload, 1))
    (k : ∀ tx : String, tx = (toString "Index " ++ toString i ++ toString " out of bounds for length " ++ toString n : String) → vx_Note p l e R s m args below meth c H locs cells slots Q (F0 m pc ls rest) "java/lang/ArrayIndexOutOfBoundsException" tx) : W p l e R s m args below meth c H locs cells slots Q (F0 m pc ls (.int i :: .ref a :: rest)) := by
  intro T hT X
  obtain ⟨t, st, q⟩ := k _ rfl T hT X
  refine ⟨t, ?_, q⟩
  have h1 := X.saloadOut hexec (by rw [hT]; exact hP q0 _ ha) ((hK.2 t0 _ ht).1 n (fun j => .int (f j))) (j := i) (by show (i < 0 ∨ (arrV _ _ _).slots.size ≤ _); rw [arrV_size]; exact Classical.byContradiction hout) (g := F0 m pc ls (.int i :: .ref a :: rest)) rfl (rest := rest) rfl (by rw [hb]; exact hdg) t
  simp only [arrV_size] at h1
  exact h1 st
theorem vx_sastZ {D : va_G} {cl : List vw_C} {ws : va_W} {tys : List (ClassId × FieldType)} {a : Nat} (hexec : p.tables.exec = Jvm.exec) (hb : c.code = cc) (hK : va_K D cl tys s) (hP : va_P D cl ws H) (q0 t0 : Nat) {cA : ClassId} {n : Nat} {f : Nat → Int32} (ha : ws[q0]? = some (a, .inl (cA, n, .inl f))) (ht : tys[t0]? = some (cA, .short)) {i : Int32} {x : Int32} (hout : ¬ vp_in i n) (hdg : decode cc pc = .ok (.sastore, 1))
    (k : ∀ tx : String, tx = (toString "Index " ++ toString i ++ toString " out of bounds for length " ++ toString n : String) → vx_Note p l e R s m args below meth c H locs cells slots Q (F0 m pc ls rest) "java/lang/ArrayIndexOutOfBoundsException" tx) : W p l e R s m args below meth c H locs cells slots Q (F0 m pc ls (.int x :: .int i :: .ref a :: rest)) := by
  intro T hT X
  obtain ⟨t, st, q⟩ := k _ rfl T hT X
  refine ⟨t, ?_, q⟩
  have h1 := X.sastoreOut hexec (by rw [hT]; exact hP q0 _ ha) ((hK.2 t0 _ ht).1 n (fun j => .int (f j))) (j := i) (by show (i < 0 ∨ (arrV _ _ _).slots.size ≤ _); rw [arrV_size]; exact Classical.byContradiction hout) (g := F0 m pc ls (.int x :: .int i :: .ref a :: rest)) rfl (rest := rest) rfl (by rw [hb]; exact hdg) t
  simp only [arrV_size] at h1
  exact h1 st
theorem vx_laldZ {D : va_G} {cl : List vw_C} {ws : va_W} {tys : List (ClassId × FieldType)} {a : Nat} (hexec : p.tables.exec = Jvm.exec) (hb : c.code = cc) (hK : va_K D cl tys s) (hP : va_P D cl ws H) (q0 t0 : Nat) {cA : ClassId} {n : Nat} {f : Nat → Int64} (ha : ws[q0]? = some (a, .inl (cA, n, .inr (.inl f)))) (ht : tys[t0]? = some (cA, .long)) {i : Int32} (hout : ¬ vp_in i n) (hdg : decode cc pc = .ok (.laload, 1))
    (k : ∀ tx : String, tx = (toString "Index " ++ toString i ++ toString " out of bounds for length " ++ toString n : String) → vx_Note p l e R s m args below meth c H locs cells slots Q (F0 m pc ls rest) "java/lang/ArrayIndexOutOfBoundsException" tx) : W p l e R s m args below meth c H locs cells slots Q (F0 m pc ls (.int i :: .ref a :: rest)) := by
  intro T hT X
  obtain ⟨t, st, q⟩ := k _ rfl T hT X
  refine ⟨t, ?_, q⟩
  have h1 := X.laloadOut hexec (by rw [hT]; exact hP q0 _ ha) ((hK.2 t0 _ ht).1 n (fun j => .long (f j))) (j := i) (by show (i < 0 ∨ (arrV _ _ _).slots.size ≤ _); rw [arrV_size]; exact Classical.byContradiction hout) (g := F0 m pc ls (.int i :: .ref a :: rest)) rfl (rest := rest) rfl (by rw [hb]; exact hdg) t
  simp only [arrV_size] at h1
  exact h1 st
theorem vx_lastZ {D : va_G} {cl : List vw_C} {ws : va_W} {tys : List (ClassId × FieldType)} {a : Nat} (hexec : p.tables.exec = Jvm.exec) (hb : c.code = cc) (hK : va_K D cl tys s) (hP : va_P D cl ws H) (q0 t0 : Nat) {cA : ClassId} {n : Nat} {f : Nat → Int64} (ha : ws[q0]? = some (a, .inl (cA, n, .inr (.inl f)))) (ht : tys[t0]? = some (cA, .long)) {i : Int32} {x : Int64} (hout : ¬ vp_in i n) (hdg : decode cc pc = .ok (.lastore, 1))
    (k : ∀ tx : String, tx = (toString "Index " ++ toString i ++ toString " out of bounds for length " ++ toString n : String) → vx_Note p l e R s m args below meth c H locs cells slots Q (F0 m pc ls rest) "java/lang/ArrayIndexOutOfBoundsException" tx) : W p l e R s m args below meth c H locs cells slots Q (F0 m pc ls (.long x :: .int i :: .ref a :: rest)) := by
  intro T hT X
  obtain ⟨t, st, q⟩ := k _ rfl T hT X
  refine ⟨t, ?_, q⟩
  have h1 := X.lastoreOut hexec (by rw [hT]; exact hP q0 _ ha) ((hK.2 t0 _ ht).1 n (fun j => .long (f j))) (j := i) (by show (i < 0 ∨ (arrV _ _ _).slots.size ≤ _); rw [arrV_size]; exact Classical.byContradiction hout) (g := F0 m pc ls (.long x :: .int i :: .ref a :: rest)) rfl (rest := rest) rfl (by rw [hb]; exact hdg) t
  simp only [arrV_size] at h1
  exact h1 st
theorem vx_faldZ {D : va_G} {cl : List vw_C} {ws : va_W} {tys : List (ClassId × FieldType)} {a : Nat} (hexec : p.tables.exec = Jvm.exec) (hb : c.code = cc) (hK : va_K D cl tys s) (hP : va_P D cl ws H) (q0 t0 : Nat) {cA : ClassId} {n : Nat} {f : Nat → UInt32} (ha : ws[q0]? = some (a, .inl (cA, n, .inr (.inr (.inl f))))) (ht : tys[t0]? = some (cA, .float)) {i : Int32} (hout : ¬ vp_in i n) (hdg : decode cc pc = .ok (.faload, 1))
    (k : ∀ tx : String, tx = (toString "Index " ++ toString i ++ toString " out of bounds for length " ++ toString n : String) → vx_Note p l e R s m args below meth c H locs cells slots Q (F0 m pc ls rest) "java/lang/ArrayIndexOutOfBoundsException" tx) : W p l e R s m args below meth c H locs cells slots Q (F0 m pc ls (.int i :: .ref a :: rest)) := by
  intro T hT X
  obtain ⟨t, st, q⟩ := k _ rfl T hT X
  refine ⟨t, ?_, q⟩
  have h1 := X.faloadOut hexec (by rw [hT]; exact hP q0 _ ha) ((hK.2 t0 _ ht).1 n (fun j => .float (f j))) (j := i) (by show (i < 0 ∨ (arrV _ _ _).slots.size ≤ _); rw [arrV_size]; exact Classical.byContradiction hout) (g := F0 m pc ls (.int i :: .ref a :: rest)) rfl (rest := rest) rfl (by rw [hb]; exact hdg) t
  simp only [arrV_size] at h1
  exact h1 st
theorem vx_fastZ {D : va_G} {cl : List vw_C} {ws : va_W} {tys : List (ClassId × FieldType)} {a : Nat} (hexec : p.tables.exec = Jvm.exec) (hb : c.code = cc) (hK : va_K D cl tys s) (hP : va_P D cl ws H) (q0 t0 : Nat) {cA : ClassId} {n : Nat} {f : Nat → UInt32} (ha : ws[q0]? = some (a, .inl (cA, n, .inr (.inr (.inl f))))) (ht : tys[t0]? = some (cA, .float)) {i : Int32} {x : UInt32} (hout : ¬ vp_in i n) (hdg : decode cc pc = .ok (.fastore, 1))
    (k : ∀ tx : String, tx = (toString "Index " ++ toString i ++ toString " out of bounds for length " ++ toString n : String) → vx_Note p l e R s m args below meth c H locs cells slots Q (F0 m pc ls rest) "java/lang/ArrayIndexOutOfBoundsException" tx) : W p l e R s m args below meth c H locs cells slots Q (F0 m pc ls (.float x :: .int i :: .ref a :: rest)) := by
  intro T hT X
  obtain ⟨t, st, q⟩ := k _ rfl T hT X
  refine ⟨t, ?_, q⟩
  have h1 := X.fastoreOut hexec (by rw [hT]; exact hP q0 _ ha) ((hK.2 t0 _ ht).1 n (fun j => .float (f j))) (j := i) (by show (i < 0 ∨ (arrV _ _ _).slots.size ≤ _); rw [arrV_size]; exact Classical.byContradiction hout) (g := F0 m pc ls (.float x :: .int i :: .ref a :: rest)) rfl (rest := rest) rfl (by rw [hb]; exact hdg) t
  simp only [arrV_size] at h1
  exact h1 st
theorem vx_daldZ {D : va_G} {cl : List vw_C} {ws : va_W} {tys : List (ClassId × FieldType)} {a : Nat} (hexec : p.tables.exec = Jvm.exec) (hb : c.code = cc) (hK : va_K D cl tys s) (hP : va_P D cl ws H) (q0 t0 : Nat) {cA : ClassId} {n : Nat} {f : Nat → UInt64} (ha : ws[q0]? = some (a, .inl (cA, n, .inr (.inr (.inr (.inl f)))))) (ht : tys[t0]? = some (cA, .double)) {i : Int32} (hout : ¬ vp_in i n) (hdg : decode cc pc = .ok (.daload, 1))
    (k : ∀ tx : String, tx = (toString "Index " ++ toString i ++ toString " out of bounds for length " ++ toString n : String) → vx_Note p l e R s m args below meth c H locs cells slots Q (F0 m pc ls rest) "java/lang/ArrayIndexOutOfBoundsException" tx) : W p l e R s m args below meth c H locs cells slots Q (F0 m pc ls (.int i :: .ref a :: rest)) := by
  intro T hT X
  obtain ⟨t, st, q⟩ := k _ rfl T hT X
  refine ⟨t, ?_, q⟩
  have h1 := X.daloadOut hexec (by rw [hT]; exact hP q0 _ ha) ((hK.2 t0 _ ht).1 n (fun j => .double (f j))) (j := i) (by show (i < 0 ∨ (arrV _ _ _).slots.size ≤ _); rw [arrV_size]; exact Classical.byContradiction hout) (g := F0 m pc ls (.int i :: .ref a :: rest)) rfl (rest := rest) rfl (by rw [hb]; exact hdg) t
  simp only [arrV_size] at h1
  exact h1 st
theorem vx_dastZ {D : va_G} {cl : List vw_C} {ws : va_W} {tys : List (ClassId × FieldType)} {a : Nat} (hexec : p.tables.exec = Jvm.exec) (hb : c.code = cc) (hK : va_K D cl tys s) (hP : va_P D cl ws H) (q0 t0 : Nat) {cA : ClassId} {n : Nat} {f : Nat → UInt64} (ha : ws[q0]? = some (a, .inl (cA, n, .inr (.inr (.inr (.inl f)))))) (ht : tys[t0]? = some (cA, .double)) {i : Int32} {x : UInt64} (hout : ¬ vp_in i n) (hdg : decode cc pc = .ok (.dastore, 1))
    (k : ∀ tx : String, tx = (toString "Index " ++ toString i ++ toString " out of bounds for length " ++ toString n : String) → vx_Note p l e R s m args below meth c H locs cells slots Q (F0 m pc ls rest) "java/lang/ArrayIndexOutOfBoundsException" tx) : W p l e R s m args below meth c H locs cells slots Q (F0 m pc ls (.double x :: .int i :: .ref a :: rest)) := by
  intro T hT X
  obtain ⟨t, st, q⟩ := k _ rfl T hT X
  refine ⟨t, ?_, q⟩
  have h1 := X.dastoreOut hexec (by rw [hT]; exact hP q0 _ ha) ((hK.2 t0 _ ht).1 n (fun j => .double (f j))) (j := i) (by show (i < 0 ∨ (arrV _ _ _).slots.size ≤ _); rw [arrV_size]; exact Classical.byContradiction hout) (g := F0 m pc ls (.double x :: .int i :: .ref a :: rest)) rfl (rest := rest) rfl (by rw [hb]; exact hdg) t
  simp only [arrV_size] at h1
  exact h1 st
theorem vx_arraylengthN (hexec : p.tables.exec = Jvm.exec) (hb : c.code = cc) (hdg : decode cc pc = .ok (.arraylength, 1)) (k : vx_NoteN p l e R s m args below meth c H locs cells slots Q (F0 m pc ls rest)) : W p l e R s m args below meth c H locs cells slots Q (F0 m pc ls (.null :: rest)) := by
  intro T hT X
  obtain ⟨t, st, q⟩ := k T hT X
  exact ⟨t, X.arraylengthNull hexec (g := F0 m pc ls (.null :: rest)) rfl (rest := rest) rfl (by rw [hb]; exact hdg) t st, q⟩
theorem vx_ialoadN (hexec : p.tables.exec = Jvm.exec) (hb : c.code = cc) {i : Int32} (hdg : decode cc pc = .ok (.iaload, 1)) (k : vx_NoteN p l e R s m args below meth c H locs cells slots Q (F0 m pc ls rest)) : W p l e R s m args below meth c H locs cells slots Q (F0 m pc ls (.int i :: .null :: rest)) := by
  intro T hT X
  obtain ⟨t, st, q⟩ := k T hT X
  exact ⟨t, X.ialoadNull hexec (g := F0 m pc ls (.int i :: .null :: rest)) rfl (rest := rest) rfl (by rw [hb]; exact hdg) t st, q⟩
theorem vx_laloadN (hexec : p.tables.exec = Jvm.exec) (hb : c.code = cc) {i : Int32} (hdg : decode cc pc = .ok (.laload, 1)) (k : vx_NoteN p l e R s m args below meth c H locs cells slots Q (F0 m pc ls rest)) : W p l e R s m args below meth c H locs cells slots Q (F0 m pc ls (.int i :: .null :: rest)) := by
  intro T hT X
  obtain ⟨t, st, q⟩ := k T hT X
  exact ⟨t, X.laloadNull hexec (g := F0 m pc ls (.int i :: .null :: rest)) rfl (rest := rest) rfl (by rw [hb]; exact hdg) t st, q⟩
theorem vx_faloadN (hexec : p.tables.exec = Jvm.exec) (hb : c.code = cc) {i : Int32} (hdg : decode cc pc = .ok (.faload, 1)) (k : vx_NoteN p l e R s m args below meth c H locs cells slots Q (F0 m pc ls rest)) : W p l e R s m args below meth c H locs cells slots Q (F0 m pc ls (.int i :: .null :: rest)) := by
  intro T hT X
  obtain ⟨t, st, q⟩ := k T hT X
  exact ⟨t, X.faloadNull hexec (g := F0 m pc ls (.int i :: .null :: rest)) rfl (rest := rest) rfl (by rw [hb]; exact hdg) t st, q⟩
theorem vx_daloadN (hexec : p.tables.exec = Jvm.exec) (hb : c.code = cc) {i : Int32} (hdg : decode cc pc = .ok (.daload, 1)) (k : vx_NoteN p l e R s m args below meth c H locs cells slots Q (F0 m pc ls rest)) : W p l e R s m args below meth c H locs cells slots Q (F0 m pc ls (.int i :: .null :: rest)) := by
  intro T hT X
  obtain ⟨t, st, q⟩ := k T hT X
  exact ⟨t, X.daloadNull hexec (g := F0 m pc ls (.int i :: .null :: rest)) rfl (rest := rest) rfl (by rw [hb]; exact hdg) t st, q⟩
theorem vx_aaloadN (hexec : p.tables.exec = Jvm.exec) (hb : c.code = cc) {i : Int32} (hdg : decode cc pc = .ok (.aaload, 1)) (k : vx_NoteN p l e R s m args below meth c H locs cells slots Q (F0 m pc ls rest)) : W p l e R s m args below meth c H locs cells slots Q (F0 m pc ls (.int i :: .null :: rest)) := by
  intro T hT X
  obtain ⟨t, st, q⟩ := k T hT X
  exact ⟨t, X.aaloadNull hexec (g := F0 m pc ls (.int i :: .null :: rest)) rfl (rest := rest) rfl (by rw [hb]; exact hdg) t st, q⟩
theorem vx_baloadN (hexec : p.tables.exec = Jvm.exec) (hb : c.code = cc) {i : Int32} (hdg : decode cc pc = .ok (.baload, 1)) (k : vx_NoteN p l e R s m args below meth c H locs cells slots Q (F0 m pc ls rest)) : W p l e R s m args below meth c H locs cells slots Q (F0 m pc ls (.int i :: .null :: rest)) := by
  intro T hT X
  obtain ⟨t, st, q⟩ := k T hT X
  exact ⟨t, X.baloadNull hexec (g := F0 m pc ls (.int i :: .null :: rest)) rfl (rest := rest) rfl (by rw [hb]; exact hdg) t st, q⟩
theorem vx_caloadN (hexec : p.tables.exec = Jvm.exec) (hb : c.code = cc) {i : Int32} (hdg : decode cc pc = .ok (.caload, 1)) (k : vx_NoteN p l e R s m args below meth c H locs cells slots Q (F0 m pc ls rest)) : W p l e R s m args below meth c H locs cells slots Q (F0 m pc ls (.int i :: .null :: rest)) := by
  intro T hT X
  obtain ⟨t, st, q⟩ := k T hT X
  exact ⟨t, X.caloadNull hexec (g := F0 m pc ls (.int i :: .null :: rest)) rfl (rest := rest) rfl (by rw [hb]; exact hdg) t st, q⟩
theorem vx_saloadN (hexec : p.tables.exec = Jvm.exec) (hb : c.code = cc) {i : Int32} (hdg : decode cc pc = .ok (.saload, 1)) (k : vx_NoteN p l e R s m args below meth c H locs cells slots Q (F0 m pc ls rest)) : W p l e R s m args below meth c H locs cells slots Q (F0 m pc ls (.int i :: .null :: rest)) := by
  intro T hT X
  obtain ⟨t, st, q⟩ := k T hT X
  exact ⟨t, X.saloadNull hexec (g := F0 m pc ls (.int i :: .null :: rest)) rfl (rest := rest) rfl (by rw [hb]; exact hdg) t st, q⟩
theorem vx_iastoreN (hexec : p.tables.exec = Jvm.exec) (hb : c.code = cc) {x : Int32} {i : Int32} (hdg : decode cc pc = .ok (.iastore, 1)) (k : vx_NoteN p l e R s m args below meth c H locs cells slots Q (F0 m pc ls rest)) : W p l e R s m args below meth c H locs cells slots Q (F0 m pc ls (.int x :: .int i :: .null :: rest)) := by
  intro T hT X
  obtain ⟨t, st, q⟩ := k T hT X
  exact ⟨t, X.iastoreNull hexec (g := F0 m pc ls (.int x :: .int i :: .null :: rest)) rfl (rest := rest) rfl (by rw [hb]; exact hdg) t st, q⟩
theorem vx_lastoreN (hexec : p.tables.exec = Jvm.exec) (hb : c.code = cc) {x : Int64} {i : Int32} (hdg : decode cc pc = .ok (.lastore, 1)) (k : vx_NoteN p l e R s m args below meth c H locs cells slots Q (F0 m pc ls rest)) : W p l e R s m args below meth c H locs cells slots Q (F0 m pc ls (.long x :: .int i :: .null :: rest)) := by
  intro T hT X
  obtain ⟨t, st, q⟩ := k T hT X
  exact ⟨t, X.lastoreNull hexec (g := F0 m pc ls (.long x :: .int i :: .null :: rest)) rfl (rest := rest) rfl (by rw [hb]; exact hdg) t st, q⟩
theorem vx_fastoreN (hexec : p.tables.exec = Jvm.exec) (hb : c.code = cc) {x : UInt32} {i : Int32} (hdg : decode cc pc = .ok (.fastore, 1)) (k : vx_NoteN p l e R s m args below meth c H locs cells slots Q (F0 m pc ls rest)) : W p l e R s m args below meth c H locs cells slots Q (F0 m pc ls (.float x :: .int i :: .null :: rest)) := by
  intro T hT X
  obtain ⟨t, st, q⟩ := k T hT X
  exact ⟨t, X.fastoreNull hexec (g := F0 m pc ls (.float x :: .int i :: .null :: rest)) rfl (rest := rest) rfl (by rw [hb]; exact hdg) t st, q⟩
theorem vx_dastoreN (hexec : p.tables.exec = Jvm.exec) (hb : c.code = cc) {x : UInt64} {i : Int32} (hdg : decode cc pc = .ok (.dastore, 1)) (k : vx_NoteN p l e R s m args below meth c H locs cells slots Q (F0 m pc ls rest)) : W p l e R s m args below meth c H locs cells slots Q (F0 m pc ls (.double x :: .int i :: .null :: rest)) := by
  intro T hT X
  obtain ⟨t, st, q⟩ := k T hT X
  exact ⟨t, X.dastoreNull hexec (g := F0 m pc ls (.double x :: .int i :: .null :: rest)) rfl (rest := rest) rfl (by rw [hb]; exact hdg) t st, q⟩
theorem vx_bastoreN (hexec : p.tables.exec = Jvm.exec) (hb : c.code = cc) {x : Int32} {i : Int32} (hdg : decode cc pc = .ok (.bastore, 1)) (k : vx_NoteN p l e R s m args below meth c H locs cells slots Q (F0 m pc ls rest)) : W p l e R s m args below meth c H locs cells slots Q (F0 m pc ls (.int x :: .int i :: .null :: rest)) := by
  intro T hT X
  obtain ⟨t, st, q⟩ := k T hT X
  exact ⟨t, X.bastoreNull hexec (g := F0 m pc ls (.int x :: .int i :: .null :: rest)) rfl (rest := rest) rfl (by rw [hb]; exact hdg) t st, q⟩
theorem vx_castoreN (hexec : p.tables.exec = Jvm.exec) (hb : c.code = cc) {x : Int32} {i : Int32} (hdg : decode cc pc = .ok (.castore, 1)) (k : vx_NoteN p l e R s m args below meth c H locs cells slots Q (F0 m pc ls rest)) : W p l e R s m args below meth c H locs cells slots Q (F0 m pc ls (.int x :: .int i :: .null :: rest)) := by
  intro T hT X
  obtain ⟨t, st, q⟩ := k T hT X
  exact ⟨t, X.castoreNull hexec (g := F0 m pc ls (.int x :: .int i :: .null :: rest)) rfl (rest := rest) rfl (by rw [hb]; exact hdg) t st, q⟩
theorem vx_sastoreN (hexec : p.tables.exec = Jvm.exec) (hb : c.code = cc) {x : Int32} {i : Int32} (hdg : decode cc pc = .ok (.sastore, 1)) (k : vx_NoteN p l e R s m args below meth c H locs cells slots Q (F0 m pc ls rest)) : W p l e R s m args below meth c H locs cells slots Q (F0 m pc ls (.int x :: .int i :: .null :: rest)) := by
  intro T hT X
  obtain ⟨t, st, q⟩ := k T hT X
  exact ⟨t, X.sastoreNull hexec (g := F0 m pc ls (.int x :: .int i :: .null :: rest)) rfl (rest := rest) rfl (by rw [hb]; exact hdg) t st, q⟩
theorem vx_invokeN {own C : String} {index maxL : Nat} {y : MethodName} {bytes : ByteArray} {ret : Option FieldType} (hexec : p.tables.exec = Jvm.exec) (hb : c.code = cc) (hown : s.vm.findClass own = some m.cls) (hlink : (Cond.methodLink own index y).before args s = true) (hinst : (Cond.instanceMethod y).before args s = true) (hcode : (Cond.code y bytes maxL ret).before args s = true) (hsel : (Cond.selects C y y).before args s = true)
    (hx : y.cls ≠ "java/lang/invoke/MethodHandle" ∧ y.cls ≠ "java/lang/invoke/VarHandle") {As : List Value} (hlen : (parseMethodDescriptor y.desc).map (fun d => d.parameters.length) = some As.length) (hdg : decode cc pc = .ok (.invokevirtual index, 3))
    (k : vx_NoteN p l e R s m args below meth c H locs cells slots Q (F0 m pc ls rest)) {st0 : List Value} (hst : st0 = As.reverse ++ .null :: rest) : W p l e R s m args below meth c H locs cells slots Q (F0 m pc ls st0) := by
  intro T hT X
  obtain ⟨r0, r, hn, hrm, hstR, hsigR⟩ := va_Decl.of hinst hcode
  obtain ⟨c2, r2, m2, q1, q2, q3, q4, kP, hkP, hkPi⟩ := Cond.selects_spec hsel
  cases hn.symm.trans q3
  have hl9 : As.length = r.sig.parameters.length := by
    rw [hsigR] at hlen
    exact (Option.some.inj hlen).symm
  obtain ⟨vm', X1, st1⟩ := X.invokevirtualNull hexec hown hlink hn hrm hstR hkP hkPi hx (g := F0 m pc ls st0) rfl (argsL := As) (rest := rest) hl9 hst (by rw [hb]; exact hdg)
  obtain ⟨t, st, q⟩ := k (T.setVm vm') hT X1
  exact ⟨t, st1 t st, q⟩
theorem vx_newarrayZ {atype : ArrayType} (hexec : p.tables.exec = Jvm.exec) (hb : c.code = cc) {n : Int32} (h0 : n < 0) (hdg : decode cc pc = .ok (.newarray atype, 2)) (k : ∀ tx : String, tx = toString n → vx_Note p l e R s m args below meth c H locs cells slots Q (F0 m pc ls rest) "java/lang/NegativeArraySizeException" tx) : W p l e R s m args below meth c H locs cells slots Q (F0 m pc ls (.int n :: rest)) := by
  intro T hT X
  obtain ⟨t, st, q⟩ := k _ rfl T hT X
  exact ⟨t, X.newarrayNegative hexec (g := F0 m pc ls (.int n :: rest)) rfl h0 (rest := rest) rfl (by rw [hb]; exact hdg) t st, q⟩
end
end VXM
/-! ===== END ===== -/
/-! ===== BEGIN an exception as an object: made, kept, thrown later (no traces kept) ===== -/
section VXK
variable {p : Program} {l : Launch} {e : Env} {R : Room} {s : State} {m₀ : MethodId} {args : Array Value} {below : List Frame} {meth : Method} {c : Code} {W : State} {locs : List Loc} {cells slots : Nat}
set_option maxHeartbeats 1000000 in
theorem vx_ctorMadeS (X : Stand p l e R s m₀ args below meth c W locs cells slots) (hexec : p.tables.exec = Jvm.exec) (htr : e.platform.stackTraces = false) {own cls : String} {names : List String} {ic : Nat}
    (hown : s.vm.findClass own = some m₀.cls) (hcls : Bundle.fit cls = true) (hnames : ∀ n ∈ names, Bundle.fit n = true)
    (h : ∀ a ∈ Bundle.ownAtoms own ic cls names, a.before args s = true)
    (hlocs : ∀ x ∈ locs, ∀ cell, s.heap[x.base]? = some cell → cell.vm.isStatics = false)
    {a : Addr} {cX : ClassId} {kX : Class} (hfoundX : s.vm.findClass cls = some cX) (hkX : s.vm.classes[cX]? = some kX) (hcell : W.heap[a]? = some (freshCell cX kX)) (hnew : s.heap.size ≤ a)
    {msg : Value} (hmsg : msg.isRef = true)
    {g : JFrame} (hg : g.method = m₀) (hsize : g.locals.size = c.maxLocals) {rest : List Value} (hstack : g.stack = msg :: .ref a :: .ref a :: rest)
    (hd6 : decode c.code g.pc = .ok (.invokespecial ic, 3))
    (hRframes : names.length + 3 < R.frames) (hRlocals : 2 * g.monitorRoom + ((Value.ref a :: rest).map fun v => v.category).sum + (13 * (names.length + 1) + 42) ≤ R.locals) :
    ∃ (V : State) (ce : Cell) (L : List Loc), Stand p l e R s m₀ args below meth c (V.setCell a ce) (locs ++ L) cells slots ∧ (∀ y ∈ L, y.base = a) ∧ a < V.heap.size ∧ ce.cls = cX ∧ ce.vm = .none ∧
      ∀ target, Steps p.tables e below ((V.setCell a ce).setTop { g with stack := .ref a :: rest, pc := g.pc + 3 }) target → Steps p.tables e below (W.setTop g) target := by
  have howns : e.platform.frameOwnsMonitors = true := by rw [X.admits.platform]
  have hfin : e.platform.finalization = false := by rw [X.admits.platform]
  have hpl : e.platform.magicAccessors = ({} : Platform).magicAccessors := by rw [X.admits.platform]
  have a' : ∀ x, x ∈ Bundle.ownAtoms own ic cls names → x.holds args s none s [] = true := fun x hx => h x hx
  obtain ⟨T, Z0, L, -, Y⟩ := ThrowableC.of_atoms (args := args) howns hfin hpl (fun x hx => h x (by simp [Bundle.ownAtoms, hx]))
  obtain ⟨Z, M, LZ, LM, hnZ⟩ := Init0T.ofS_atoms (args := args) hpl L Y (fun x hx => h x (by simp [Bundle.ownAtoms, hx]))
  obtain ⟨P1, Ps, hlen, L1, hL, hP1m, hlink1, hlink⟩ := Bundle.chainS (args := args) hpl hnZ names cls hcls hnames (fun x hx => h x (by simp [Bundle.ownAtoms, hx]))
  have hfound : s.vm.findClass cls = some P1.m.cls := findClass_of_methodNamed hP1m
  cases Option.some.inj (hfoundX.symm.trans hfound)
  obtain ⟨c1, kX', hc1, hk, hord, -, -, hn6⟩ := Cond.instantiable_spec (a' (.instantiable cls 6) (by simp [Bundle.ownAtoms]))
  cases Option.some.inj (hc1.symm.trans hfound)
  cases Option.some.inj (hkX.symm.trans hk)
  have hsel0 : selectMethod e.platform s.vm P1.m.cls T.fill0 = .method T.fill0 := by
    obtain ⟨c2, r2, m2, q1, q2, q3, q4, -⟩ := Cond.selects_spec (a' (.selects cls Bundle.tFill0 Bundle.tFill0) (by simp [Bundle.ownAtoms]))
    cases Option.some.inj (q1.symm.trans hfound)
    cases Option.some.inj (q2.symm.trans (State.methodFound?_of_named Y.fill0 (by decide)))
    cases Option.some.inj (q3.symm.trans Y.fill0)
    rw [Launch.admits_selectMethod X.admits]; exact q4
  have hselF : selectMethod e.platform s.vm P1.m.cls T.fill = .method T.fill := by
    obtain ⟨c2, r2, m2, q1, q2, q3, q4, -⟩ := Cond.selects_spec (a' (.selects cls Bundle.tFill Bundle.tFill) (by simp [Bundle.ownAtoms]))
    cases Option.some.inj (q1.symm.trans hfound)
    cases Option.some.inj (q2.symm.trans (State.methodFound?_of_named Y.fill (by decide)))
    cases Option.some.inj (q3.symm.trans Y.fill)
    rw [Launch.admits_selectMethod X.admits]; exact q4
  obtain ⟨cellS0, hcS0, hiss⟩ := Y.statics
  obtain ⟨u0, hu0⟩ := Cond.staticRefV Y.unassigned L.unassignedStatic L.statics hcS0 hiss (a' (.isRef (.static Bundle.tN "UNASSIGNED_STACK" Bundle.steD)) (by simp [Bundle.ownAtoms]))
  obtain ⟨sen, hsen⟩ := Cond.staticRefV Y.sentinel L.sentinelStatic L.statics hcS0 hiss (a' (.isRef (.static Bundle.tN "SUPPRESSED_SENTINEL" Bundle.listD)) (by simp [Bundle.ownAtoms]))
  obtain ⟨ci198, i198, fB, hk198, hg198, ha198, hsB, -, hnB, htB, hffB⟩ := Cond.ownField (t := .object "java/lang/Object") Y.found L.cls (by decide +kernel) (a' (.fieldLink Bundle.tN 198 Bundle.tN "backtrace" "Ljava/lang/Object;") (by simp [Bundle.ownAtoms])) (a' (.lays Bundle.tN Bundle.tN "backtrace" "Ljava/lang/Object;") (by simp [Bundle.ownAtoms])) e.platform hpl
  obtain ⟨cellS, hcS', heS, -, hkeep⟩ := X.same.2.2.2.2.2 T.aS cellS0 hcS0
  have hcellS : W.heap[T.aS]? = some cellS := hcS'
  have hout' : ∀ i, (⟨T.aS, i⟩ : Loc) ∉ locs := fun i hmem => by
    have := hlocs _ hmem cellS0 hcS0
    rw [hiss] at this; cases this
  have hknownS : cellS.vm ≠ .unknown := by
    rw [heS]; intro hu
    rw [show cellS0.vm = .unknown from hu] at hiss
    cases hiss
  have hneS : T.aS ≠ a := Nat.ne_of_lt (Nat.lt_of_lt_of_le (Array.getElem?_eq_some_iff.mp hcS0).1 hnew)
  obtain ⟨iM, hffM⟩ := Y.msg
  obtain ⟨tyC, dC, hdC, hdnC⟩ := Cond.laysAt hfound hk Y.cause (a' (.lays cls Bundle.tN "cause" "Ljava/lang/Throwable;") (by simp [Bundle.ownAtoms]))
  obtain ⟨tyS, dS, hdS, hdnS⟩ := Cond.laysAt hfound hk Y.stack (a' (.lays cls Bundle.tN "stackTrace" Bundle.steD) (by simp [Bundle.ownAtoms]))
  obtain ⟨tyP, dP, hdP, hdnP⟩ := Cond.laysAt hfound hk Y.supp (a' (.lays cls Bundle.tN "suppressedExceptions" Bundle.listD) (by simp [Bundle.ownAtoms]))
  obtain ⟨tyM, dM, hdM, hdnM⟩ := Cond.laysAt hfound hk hffM (a' (.lays cls Bundle.tN "detailMessage" "Ljava/lang/String;") (by simp [Bundle.ownAtoms]))
  obtain ⟨tyB, dB, hdB, hdnB⟩ := Cond.laysAt hfound hk hffB (a' (.lays cls Bundle.tN "backtrace" "Ljava/lang/Object;") (by simp [Bundle.ownAtoms]))
  have bC := Cond.laysApart hdB hdC hdnB hdnC (by rw [hnB, Y.causeName]; decide)
  have bS := Cond.laysApart hdB hdS hdnB hdnS (by rw [hnB, Y.stackName]; decide)
  have bP := Cond.laysApart hdB hdP hdnB hdnP (by rw [hnB, Y.suppName]; decide)
  have hskip : SkipFacts T e.platform s (fun u => u) u0 ((preparedCellV T.toThrowableT (freshCell P1.m.cls kX) a u0 sen).withEntry W.cur) :=
    ⟨{ ci198 := ci198, i198 := i198, fBack := fB }, ⟨hk198, hg198, ha198, hsB⟩, by
      have := fresh_default (c := P1.m.cls) tyB
      rw [htB] at this
      simpa [preparedCellV, Cell.setSlot, Cell.withEntry, Array.getElem?_setIfInBounds, bC, bS, bP, bC.symm, bS.symm, bP.symm, defaultValue] using this, fun _ _ => rfl⟩
  obtain ⟨tm, methC, cdC, kC, vm₁, hnC, -, -, -, -, -, -, -, hW₁, st1⟩ := Steps.initColdS (tb := p.tables) (e := e) (below := below) (s := s) (U := W) X.here hexec X.warmed hpl hown (t := Bundle.initS cls) rfl rfl (Bundle.fit_spec hcls).2
    (a' (.methodLink own ic (Bundle.initS cls)) (by simp [Bundle.ownAtoms])) (h (.instanceMethod (Bundle.initS cls)) (by cases names <;> simp [Bundle.ownAtoms, Bundle.chainSAtoms, Bundle.passSAtoms])) (bytes := Bundle.six) (maxL := 2) (h (.code (Bundle.initS cls) Bundle.six 2 none) (by cases names <;> simp [Bundle.ownAtoms, Bundle.chainSAtoms, Bundle.passSAtoms]))
    (f := g) hg (a := a) (msg := msg) (rest := .ref a :: rest) hstack hd6
  cases Option.some.inj (hnC.symm.trans hP1m)
  have X₁ := X.noted hW₁
  obtain ⟨vm₂, X₂, st2⟩ := X₁.ctorMessageOffV hexec (g := { g with stack := .ref a :: rest }) hg hsize T L Z LZ M LM (P1 :: Ps)
    (fun P hP => by rcases List.mem_cons.mp hP with rfl | hP; exact L1; exact hL P hP) ⟨hlink1, hlink⟩ (u0 := u0) (sen := sen) (self := a) hmsg (cell := freshCell P1.m.cls kX) (cellS := cellS)
    hcell (fun _ => by simp) (by simp) rfl rfl hsel0 hselF hcellS hneS hknownS (by rw [hkeep _ (hout' _)]; exact hu0) (by rw [hkeep _ (hout' _)]; exact hsen)
    (Takes.of_laid hk hord tyC (by rw [Y.causeType]; rfl)) (Takes.of_laid hk hord tyS (by rw [Y.stackType]; exact fits_refV_array _ u0)) (Takes.of_laid hk hord tyP (by rw [Y.suppType]; exact fits_refV_object _ sen))
    (Takes.of_laid hk hord tyM (by rw [Y.msgType]; exact fits_refV_object _ ⟨msg, hmsg⟩)) Y.objLocals hskip htr [] hd6
    (by simp only [List.length_cons, hlen]; omega) (by simp only [List.length_cons, hlen]; exact hRlocals)
  have hlt : a < ((W.setVm vm₁).setVm vm₂).heap.size := (Array.getElem?_eq_some_iff.mp hcell).1
  refine ⟨(W.setVm vm₁).setVm vm₂, _, _, X₂, fun y hy => ?_, hlt, rfl, rfl, fun target hwalk => st1 _ (fun acts => ?_)⟩
  · simp only [List.mem_cons, List.not_mem_nil, or_false] at hy
    rcases hy with rfl | rfl | rfl | rfl | rfl <;> rfl
  · rw [doInvoke_state]
    exact st2 _ hwalk
set_option maxHeartbeats 1000000 in
theorem vx_ctorMade0 (X : Stand p l e R s m₀ args below meth c W locs cells slots) (hexec : p.tables.exec = Jvm.exec) (htr : e.platform.stackTraces = false) {own cls : String} {names : List String} {ic : Nat}
    (hown : s.vm.findClass own = some m₀.cls) (hcls : Bundle.fit cls = true) (hnames : ∀ n ∈ names, Bundle.fit n = true)
    (h : ∀ a ∈ Bundle.ownAtoms0 own ic cls names, a.before args s = true)
    (hlocs : ∀ x ∈ locs, ∀ cell, s.heap[x.base]? = some cell → cell.vm.isStatics = false)
    {a : Addr} {cX : ClassId} {kX : Class} (hfoundX : s.vm.findClass cls = some cX) (hkX : s.vm.classes[cX]? = some kX) (hcell : W.heap[a]? = some (freshCell cX kX)) (hnew : s.heap.size ≤ a)
    {g : JFrame} (hg : g.method = m₀) (hsize : g.locals.size = c.maxLocals) {rest : List Value} (hstack : g.stack = .ref a :: .ref a :: rest)
    (hd6 : decode c.code g.pc = .ok (.invokespecial ic, 3))
    (hRframes : names.length + 3 < R.frames) (hRlocals : 2 * g.monitorRoom + ((Value.ref a :: rest).map fun v => v.category).sum + (13 * (names.length + 1) + 41) ≤ R.locals) :
    ∃ (V : State) (ce : Cell) (L : List Loc), Stand p l e R s m₀ args below meth c (V.setCell a ce) (locs ++ L) cells slots ∧ (∀ y ∈ L, y.base = a) ∧ a < V.heap.size ∧ ce.cls = cX ∧ ce.vm = .none ∧
      ∀ target, Steps p.tables e below ((V.setCell a ce).setTop { g with stack := .ref a :: rest, pc := g.pc + 3 }) target → Steps p.tables e below (W.setTop g) target := by
  have howns : e.platform.frameOwnsMonitors = true := by rw [X.admits.platform]
  have hfin : e.platform.finalization = false := by rw [X.admits.platform]
  have hpl : e.platform.magicAccessors = ({} : Platform).magicAccessors := by rw [X.admits.platform]
  have a' : ∀ x, x ∈ Bundle.ownAtoms0 own ic cls names → x.holds args s none s [] = true := fun x hx => h x hx
  obtain ⟨T, Z, L, LZ, Y⟩ := ThrowableC.of_atoms (args := args) howns hfin hpl (fun x hx => h x (by simp [Bundle.ownAtoms0, hx]))
  obtain ⟨P1, Ps, hlen, L1, hL, hP1m, hlink1, hlink⟩ := Bundle.chain0 (args := args) hpl Y.init0 names cls hcls hnames (fun x hx => h x (by simp [Bundle.ownAtoms0, hx]))
  have hfound : s.vm.findClass cls = some P1.m.cls := findClass_of_methodNamed hP1m
  cases Option.some.inj (hfoundX.symm.trans hfound)
  obtain ⟨c1, kX', hc1, hk, hord, -, -, hn6⟩ := Cond.instantiable_spec (a' (.instantiable cls 6) (by simp [Bundle.ownAtoms0]))
  cases Option.some.inj (hc1.symm.trans hfound)
  cases Option.some.inj (hkX.symm.trans hk)
  have hsel0 : selectMethod e.platform s.vm P1.m.cls T.fill0 = .method T.fill0 := by
    obtain ⟨c2, r2, m2, q1, q2, q3, q4, -⟩ := Cond.selects_spec (a' (.selects cls Bundle.tFill0 Bundle.tFill0) (by simp [Bundle.ownAtoms0]))
    cases Option.some.inj (q1.symm.trans hfound)
    cases Option.some.inj (q2.symm.trans (State.methodFound?_of_named Y.fill0 (by decide)))
    cases Option.some.inj (q3.symm.trans Y.fill0)
    rw [Launch.admits_selectMethod X.admits]; exact q4
  have hselF : selectMethod e.platform s.vm P1.m.cls T.fill = .method T.fill := by
    obtain ⟨c2, r2, m2, q1, q2, q3, q4, -⟩ := Cond.selects_spec (a' (.selects cls Bundle.tFill Bundle.tFill) (by simp [Bundle.ownAtoms0]))
    cases Option.some.inj (q1.symm.trans hfound)
    cases Option.some.inj (q2.symm.trans (State.methodFound?_of_named Y.fill (by decide)))
    cases Option.some.inj (q3.symm.trans Y.fill)
    rw [Launch.admits_selectMethod X.admits]; exact q4
  obtain ⟨cellS0, hcS0, hiss⟩ := Y.statics
  obtain ⟨u0, hu0⟩ := Cond.staticRefV Y.unassigned L.unassignedStatic L.statics hcS0 hiss (a' (.isRef (.static Bundle.tN "UNASSIGNED_STACK" Bundle.steD)) (by simp [Bundle.ownAtoms0]))
  obtain ⟨sen, hsen⟩ := Cond.staticRefV Y.sentinel L.sentinelStatic L.statics hcS0 hiss (a' (.isRef (.static Bundle.tN "SUPPRESSED_SENTINEL" Bundle.listD)) (by simp [Bundle.ownAtoms0]))
  obtain ⟨ci198, i198, fB, hk198, hg198, ha198, hsB, -, hnB, htB, hffB⟩ := Cond.ownField (t := .object "java/lang/Object") Y.found L.cls (by decide +kernel) (a' (.fieldLink Bundle.tN 198 Bundle.tN "backtrace" "Ljava/lang/Object;") (by simp [Bundle.ownAtoms0])) (a' (.lays Bundle.tN Bundle.tN "backtrace" "Ljava/lang/Object;") (by simp [Bundle.ownAtoms0])) e.platform hpl
  obtain ⟨cellS, hcS', heS, -, hkeep⟩ := X.same.2.2.2.2.2 T.aS cellS0 hcS0
  have hcellS : W.heap[T.aS]? = some cellS := hcS'
  have hout' : ∀ i, (⟨T.aS, i⟩ : Loc) ∉ locs := fun i hmem => by
    have := hlocs _ hmem cellS0 hcS0
    rw [hiss] at this; cases this
  have hknownS : cellS.vm ≠ .unknown := by
    rw [heS]; intro hu
    rw [show cellS0.vm = .unknown from hu] at hiss
    cases hiss
  have hneS : T.aS ≠ a := Nat.ne_of_lt (Nat.lt_of_lt_of_le (Array.getElem?_eq_some_iff.mp hcS0).1 hnew)
  obtain ⟨iM, hffM⟩ := Y.msg
  obtain ⟨tyC, dC, hdC, hdnC⟩ := Cond.laysAt hfound hk Y.cause (a' (.lays cls Bundle.tN "cause" "Ljava/lang/Throwable;") (by simp [Bundle.ownAtoms0]))
  obtain ⟨tyS, dS, hdS, hdnS⟩ := Cond.laysAt hfound hk Y.stack (a' (.lays cls Bundle.tN "stackTrace" Bundle.steD) (by simp [Bundle.ownAtoms0]))
  obtain ⟨tyP, dP, hdP, hdnP⟩ := Cond.laysAt hfound hk Y.supp (a' (.lays cls Bundle.tN "suppressedExceptions" Bundle.listD) (by simp [Bundle.ownAtoms0]))
  obtain ⟨tyM, dM, hdM, hdnM⟩ := Cond.laysAt hfound hk hffM (a' (.lays cls Bundle.tN "detailMessage" "Ljava/lang/String;") (by simp [Bundle.ownAtoms0]))
  obtain ⟨tyB, dB, hdB, hdnB⟩ := Cond.laysAt hfound hk hffB (a' (.lays cls Bundle.tN "backtrace" "Ljava/lang/Object;") (by simp [Bundle.ownAtoms0]))
  have bC := Cond.laysApart hdB hdC hdnB hdnC (by rw [hnB, Y.causeName]; decide)
  have bS := Cond.laysApart hdB hdS hdnB hdnS (by rw [hnB, Y.stackName]; decide)
  have bP := Cond.laysApart hdB hdP hdnB hdnP (by rw [hnB, Y.suppName]; decide)
  have hskip : SkipFacts T e.platform s (fun u => u) u0 ((preparedCellV T.toThrowableT (freshCell P1.m.cls kX) a u0 sen).withEntry W.cur) :=
    ⟨{ ci198 := ci198, i198 := i198, fBack := fB }, ⟨hk198, hg198, ha198, hsB⟩, by
      have := fresh_default (c := P1.m.cls) tyB
      rw [htB] at this
      simpa [preparedCellV, Cell.setSlot, Cell.withEntry, Array.getElem?_setIfInBounds, bC, bS, bP, bC.symm, bS.symm, bP.symm, defaultValue] using this, fun _ _ => rfl⟩
  obtain ⟨tm, methC, cdC, kC, vm₁, hnC, -, -, -, -, -, -, -, hW₁, st1⟩ := Steps.initCold (tb := p.tables) (e := e) (below := below) (s := s) (U := W) X.here hexec X.warmed hpl hown (t := Bundle.init0 cls) rfl rfl (Bundle.fit_spec hcls).2
    (a' (.methodLink own ic (Bundle.init0 cls)) (by simp [Bundle.ownAtoms0])) (h (.instanceMethod (Bundle.init0 cls)) (by cases names <;> simp [Bundle.ownAtoms0, Bundle.chain0Atoms, Bundle.passAtoms])) (bytes := Bundle.five) (maxL := 1) (h (.code (Bundle.init0 cls) Bundle.five 1 none) (by cases names <;> simp [Bundle.ownAtoms0, Bundle.chain0Atoms, Bundle.passAtoms]))
    (f := g) hg (a := a) (rest := .ref a :: rest) hstack hd6
  cases Option.some.inj (hnC.symm.trans hP1m)
  have X₁ := X.noted hW₁
  obtain ⟨vm₂, X₂, st2⟩ := X₁.ctorPlainOffV hexec (g := { g with stack := .ref a :: rest }) hg hsize T L Z LZ (P1 :: Ps)
    (fun P hP => by rcases List.mem_cons.mp hP with rfl | hP; exact L1; exact hL P hP) ⟨hlink1, hlink⟩ (u0 := u0) (sen := sen) (self := a) (cell := freshCell P1.m.cls kX) (cellS := cellS)
    hcell (fun _ => by simp) (by simp) rfl rfl hsel0 hselF hcellS hneS hknownS (by rw [hkeep _ (hout' _)]; exact hu0) (by rw [hkeep _ (hout' _)]; exact hsen)
    (Takes.of_laid hk hord tyC (by rw [Y.causeType]; rfl)) (Takes.of_laid hk hord tyS (by rw [Y.stackType]; exact fits_refV_array _ u0)) (Takes.of_laid hk hord tyP (by rw [Y.suppType]; exact fits_refV_object _ sen)) Y.objLocals hskip htr [] hd6
    (by simp only [List.length_cons, hlen]; omega) (by simp only [List.length_cons, hlen]; exact hRlocals)
  have hlt : a < ((W.setVm vm₁).setVm vm₂).heap.size := (Array.getElem?_eq_some_iff.mp hcell).1
  refine ⟨(W.setVm vm₁).setVm vm₂, _, _, X₂, fun y hy => ?_, hlt, rfl, rfl, fun target hwalk => st1 _ (fun acts => ?_)⟩
  · simp only [List.mem_cons, List.not_mem_nil, or_false] at hy
    rcases hy with rfl | rfl | rfl | rfl <;> rfl
  · rw [doInvoke_state]
    exact st2 _ hwalk
end VXK
section VXK2
variable {p : Program} {l : Launch} {e : Env} {R : Room} {s : State} {m : MethodId} {args : Array Value} {below : List Frame} {meth : Method} {c : Code} {H : Heap} {locs : List Loc} {cells slots : Nat} {Q : State → Prop}
variable {ls : Array Slot} {rest : List Value} {D : va_G} {cl : List vw_C} {tys : List (ClassId × FieldType)} {ws : va_W}
/-- 'new E("text")' that isn't thrown at once: the object goes on the stack -/
theorem vx_makeS {cc : ByteArray} {pc : Nat} (hexec : p.tables.exec = Jvm.exec) (hb : c.code = cc) (hl : l.stackTraces = false) {own cls text : String} {names : List String} {ik is ic sa ci : Nat} {A : Nat → Prop} {T0 : u_T}
    (hown : s.vm.findClass own = some m.cls) (hcls : Bundle.fit cls = true) (hnames : ∀ n ∈ names, Bundle.fit n = true)
    (hk : (Cond.classLink own ik cls).before args s = true) (hini : (Cond.initialized cls).before args s = true) (hstr : vk_R own is text sa s) (hat : ∀ w ∈ vx_atS own ic cls names, w.before args s = true)
    (hgood : ∀ w ∈ Cond.classLink own ik cls :: Cond.initialized cls :: vx_atS own ic cls names, vx_ot w = true)
    (hU : vx_Zq Bundle.tN "UNASSIGNED_STACK" Bundle.steD A s s.heap) (hN : vx_Zq Bundle.tN "SUPPRESSED_SENTINEL" Bundle.listD A s s.heap) (hS : va_S A s.heap H locs) (hsize : ls.size = c.maxLocals)
    (d0 : decode cc pc = .ok (.new ik, 3)) (d3 : decode cc (pc + 3) = .ok (.dup, 1)) (d4 : decode cc (pc + 4) = .ok (.ldc is, 2)) (d6 : decode cc (pc + 6) = .ok (.invokespecial ic, 3))
    (hK : va_K D cl tys s) (hP : va_P D cl ws H) (hD : va_D A ws) (hA : ∀ q, s.heap.size ≤ q → A q) (hc : cl[ci]? = some (cls, T0, 0))
    (hRframes : names.length + 3 < R.frames) (hRlocals : (rest.map fun v => v.category).sum + (13 * (names.length + 1) + 43) ≤ R.locals) (hRcells : cells + 1 ≤ R.cells) (hRslots : slots + 6 ≤ R.slots)
    (kk : ∀ (q : Nat) (H1 : Heap), va_P D cl (ws ++ [(q, .inr (ci, []))]) H1 → va_D A (ws ++ [(q, .inr (ci, []))]) → va_S A s.heap H1 locs → W p l e R s m args below meth c H1 locs (cells + 1) (slots + 6) Q (F0 m (pc + 9) ls (.ref q :: rest))) :
    W p l e R s m args below meth c H locs cells slots Q (F0 m pc ls rest) := by
  intro T hT X
  subst hT
  have htr : e.platform.stackTraces = false := (show e.platform.stackTraces = l.stackTraces by rw [X.admits.platform]).trans hl
  have Y := vx_rebase X (R' := { frames := R.frames, locals := R.locals, cells := 1, slots := 6 }) (Nat.le_refl _) (Nat.le_refl _) hRcells hRslots
  obtain ⟨s', hA'⟩ : ∃ z, z = (T.setVm s.vm).setFrames (.invoking m args :: below) := ⟨_, rfl⟩
  rw [← hA'] at Y
  have hvm : s'.vm = s.vm := by rw [hA']; rfl
  have hhp : s'.heap = T.heap := by rw [hA']; rfl
  have hW0 : s.WarmedH s'.vm := by rw [hvm]; exact State.WarmedH.refl s
  have hat' : ∀ w ∈ vx_atS own ic cls names, w.before args s' = true := fun w hw => vx_ot_at hW0 hvm.symm (hgood w (List.mem_cons_of_mem _ (List.mem_cons_of_mem _ hw))) (hat w hw)
  have hk' : (Cond.classLink own ik cls).before args s' = true := vx_ot_at hW0 hvm.symm (hgood _ List.mem_cons_self) hk
  have hini' : (Cond.initialized cls).before args s' = true := vx_ot_at hW0 hvm.symm (hgood _ (List.mem_cons_of_mem _ List.mem_cons_self)) hini
  have hU' : vx_Zq Bundle.tN "UNASSIGNED_STACK" Bundle.steD A s' s'.heap := by rw [hhp]; exact vx_Zq.moved hW0.alike (hU.kept hS.2.1)
  have hN' : vx_Zq Bundle.tN "SUPPRESSED_SENTINEL" Bundle.listD A s' s'.heap := by rw [hhp]; exact vx_Zq.moved hW0.alike (hN.kept hS.2.1)
  have h : ∀ w ∈ Bundle.ownAtoms own ic cls names, w.before args s' = true := vx_own hat' (vx_isRefq hU'.1) (vx_isRefq hN'.1) hU'.2.word hN'.2.word
  have hown' : s'.vm.findClass own = some m.cls := by rw [hvm]; exact hown
  have hins : (Cond.instantiable cls 6).before args s' = true := h _ (by simp [Bundle.ownAtoms])
  obtain ⟨vm₁, cX, kX, hfX, hkX, -, -, X₁, st1⟩ := Y.newCold hexec (own := own) (C := cls) (index := ik) (n := 6) hown' hk' hins hini'
    (g := F0 m pc ls rest) rfl (by rw [hb]; exact d0) (Nat.le_refl _) (Nat.le_refl _)
  generalize hT1 : (T.setVm vm₁).pushCell { cls := cX, slots := kX.instanceTypes.map defaultValue, vm := .none } = T1 at X₁ st1
  have hcat : (Value.ref T.heap.size).category = 1 := rfl
  have hcellA : T1.heap[T.heap.size]? = some (freshCell cX kX) := by rw [← hT1]; exact State.heap_pushCell_size _ _
  have d3' : decode c.code (pc + 3) = .ok (.dup, 1) := by rw [hb]; exact d3
  have d4' : decode c.code (pc + 4) = .ok (.ldc is, 2) := by rw [hb]; exact d4
  have hstr' : vk_R own is text sa s' := vk_R.warm hW0 hstr
  obtain ⟨V, ce, L, Z, hL, hlt, hcl9, hvm9, st⟩ := vx_ctorMadeS X₁ hexec htr (own := own) (cls := cls) (names := names) (ic := ic) hown' hcls hnames h (fun x hx => nomatch hx) hfX hkX hcellA (by rw [hhp]; exact Nat.le_refl _) (msg := .ref sa) rfl
    (g := { method := m, pc := pc + 6, locals := ls, stack := .ref sa :: .ref T.heap.size :: .ref T.heap.size :: rest, locked := none }) rfl hsize (rest := rest) rfl
    (by rw [hb]; exact d6) hRframes (by simp only [List.map_cons, List.sum_cons, hcat]; omega)
  have Z0 := Stand.forget (locs := []) Z (fun y hy => by rw [hL y hy, hhp]; exact Nat.le_refl _)
  obtain ⟨f1, f2⟩ := vx_frame Z0.same
  rw [hhp] at f1 f2
  have hcid : ce.cls = D.1 ci := by
    rw [hcl9]
    have h1 := (hK.1 ci _ hc).2.1
    rw [hvm] at hfX
    exact Option.some.inj (hfX.symm.trans h1)
  have hh : (V.setCell T.heap.size ce).heap[T.heap.size]? = some ce := heapAt_setCell_self (s := V) ce hlt
  subst hA'
  have X5 := vx_back9 X Y Z0
  have X6 : Stand p l e R s m args below meth c (V.setCell T.heap.size ce) locs (cells + 1) (slots + 6) := { X5 with same := X5.same.mono (by omega) (by omega) }
  have hk9 : ∀ (k : Nat) (x : Nat × va_E), ws[k]? = some x → (V.setCell T.heap.size ce).heap[x.1]? = T.heap[x.1]? := fun k x hx => f2 x.1 ((hP k x hx).lt) (fun z hz => nomatch hz)
  obtain ⟨t, a1, b1⟩ := kk T.heap.size (V.setCell T.heap.size ce).heap ((hP.kept hk9).app (fun k x hx => by
      have hz : k < 1 := (List.getElem?_eq_some_iff.mp hx).1
      rw [show k = 0 by omega] at hx
      cases hx
      exact ⟨_, hc, ce, hh, hcid, hvm9, fun k hk => absurd hk (Nat.not_lt_zero k)⟩)) (hD.push hP rfl (hA _ hS.1)) ⟨Nat.le_trans hS.1 f1, fun q h1 h2 => (f2 q (Nat.lt_of_lt_of_le h1 hS.1) (fun z hz => nomatch hz)).trans (hS.2.1 q h1 h2), hS.2.2⟩ _ rfl X6
  refine ⟨t, st1 _ ?_, b1⟩
  show Steps p.tables e below (T1.setTop { method := m, pc := pc + 3, locals := ls, stack := .ref T.heap.size :: rest, locked := none }) _
  jvm_step X₁.here [X₁.here.top, hexec, d3', Value.category]
  exact X₁.ldcString hexec (own := own) (text := text) (index := is) (a := sa) hown' hstr'.1 hstr'.2
    (g := { method := m, pc := pc + 4, locals := ls, stack := .ref T.heap.size :: .ref T.heap.size :: rest, locked := none }) rfl d4' _ (st _ a1)
/-- 'new E()' that isn't thrown at once: the object goes on the stack -/
theorem vx_make0 {cc : ByteArray} {pc : Nat} (hexec : p.tables.exec = Jvm.exec) (hb : c.code = cc) (hl : l.stackTraces = false) {own cls : String} {names : List String} {ik ic ci : Nat} {A : Nat → Prop} {T0 : u_T}
    (hown : s.vm.findClass own = some m.cls) (hcls : Bundle.fit cls = true) (hnames : ∀ n ∈ names, Bundle.fit n = true)
    (hk : (Cond.classLink own ik cls).before args s = true) (hini : (Cond.initialized cls).before args s = true) (hat : ∀ w ∈ vx_at0 own ic cls names, w.before args s = true)
    (hgood : ∀ w ∈ Cond.classLink own ik cls :: Cond.initialized cls :: vx_at0 own ic cls names, vx_ot w = true)
    (hU : vx_Zq Bundle.tN "UNASSIGNED_STACK" Bundle.steD A s s.heap) (hN : vx_Zq Bundle.tN "SUPPRESSED_SENTINEL" Bundle.listD A s s.heap) (hS : va_S A s.heap H locs) (hsize : ls.size = c.maxLocals)
    (d0 : decode cc pc = .ok (.new ik, 3)) (d3 : decode cc (pc + 3) = .ok (.dup, 1)) (d4 : decode cc (pc + 4) = .ok (.invokespecial ic, 3))
    (hK : va_K D cl tys s) (hP : va_P D cl ws H) (hD : va_D A ws) (hA : ∀ q, s.heap.size ≤ q → A q) (hc : cl[ci]? = some (cls, T0, 0))
    (hRframes : names.length + 3 < R.frames) (hRlocals : (rest.map fun v => v.category).sum + (13 * (names.length + 1) + 42) ≤ R.locals) (hRcells : cells + 1 ≤ R.cells) (hRslots : slots + 6 ≤ R.slots)
    (kk : ∀ (q : Nat) (H1 : Heap), va_P D cl (ws ++ [(q, .inr (ci, []))]) H1 → va_D A (ws ++ [(q, .inr (ci, []))]) → va_S A s.heap H1 locs → W p l e R s m args below meth c H1 locs (cells + 1) (slots + 6) Q (F0 m (pc + 7) ls (.ref q :: rest))) :
    W p l e R s m args below meth c H locs cells slots Q (F0 m pc ls rest) := by
  intro T hT X
  subst hT
  have htr : e.platform.stackTraces = false := (show e.platform.stackTraces = l.stackTraces by rw [X.admits.platform]).trans hl
  have Y := vx_rebase X (R' := { frames := R.frames, locals := R.locals, cells := 1, slots := 6 }) (Nat.le_refl _) (Nat.le_refl _) hRcells hRslots
  obtain ⟨s', hA'⟩ : ∃ z, z = (T.setVm s.vm).setFrames (.invoking m args :: below) := ⟨_, rfl⟩
  rw [← hA'] at Y
  have hvm : s'.vm = s.vm := by rw [hA']; rfl
  have hhp : s'.heap = T.heap := by rw [hA']; rfl
  have hW0 : s.WarmedH s'.vm := by rw [hvm]; exact State.WarmedH.refl s
  have hat' : ∀ w ∈ vx_at0 own ic cls names, w.before args s' = true := fun w hw => vx_ot_at hW0 hvm.symm (hgood w (List.mem_cons_of_mem _ (List.mem_cons_of_mem _ hw))) (hat w hw)
  have hk' : (Cond.classLink own ik cls).before args s' = true := vx_ot_at hW0 hvm.symm (hgood _ List.mem_cons_self) hk
  have hini' : (Cond.initialized cls).before args s' = true := vx_ot_at hW0 hvm.symm (hgood _ (List.mem_cons_of_mem _ List.mem_cons_self)) hini
  have hU' : vx_Zq Bundle.tN "UNASSIGNED_STACK" Bundle.steD A s' s'.heap := by rw [hhp]; exact vx_Zq.moved hW0.alike (hU.kept hS.2.1)
  have hN' : vx_Zq Bundle.tN "SUPPRESSED_SENTINEL" Bundle.listD A s' s'.heap := by rw [hhp]; exact vx_Zq.moved hW0.alike (hN.kept hS.2.1)
  have h : ∀ w ∈ Bundle.ownAtoms0 own ic cls names, w.before args s' = true := vx_own hat' (vx_isRefq hU'.1) (vx_isRefq hN'.1) hU'.2.word hN'.2.word
  have hown' : s'.vm.findClass own = some m.cls := by rw [hvm]; exact hown
  have hins : (Cond.instantiable cls 6).before args s' = true := h _ (by simp [Bundle.ownAtoms0])
  obtain ⟨vm₁, cX, kX, hfX, hkX, -, -, X₁, st1⟩ := Y.newCold hexec (own := own) (C := cls) (index := ik) (n := 6) hown' hk' hins hini'
    (g := F0 m pc ls rest) rfl (by rw [hb]; exact d0) (Nat.le_refl _) (Nat.le_refl _)
  generalize hT1 : (T.setVm vm₁).pushCell { cls := cX, slots := kX.instanceTypes.map defaultValue, vm := .none } = T1 at X₁ st1
  have hcat : (Value.ref T.heap.size).category = 1 := rfl
  have hcellA : T1.heap[T.heap.size]? = some (freshCell cX kX) := by rw [← hT1]; exact State.heap_pushCell_size _ _
  have d3' : decode c.code (pc + 3) = .ok (.dup, 1) := by rw [hb]; exact d3
  obtain ⟨V, ce, L, Z, hL, hlt, hcl9, hvm9, st⟩ := vx_ctorMade0 X₁ hexec htr (own := own) (cls := cls) (names := names) (ic := ic) hown' hcls hnames h (fun x hx => nomatch hx) hfX hkX hcellA (by rw [hhp]; exact Nat.le_refl _)
    (g := { method := m, pc := pc + 4, locals := ls, stack := .ref T.heap.size :: .ref T.heap.size :: rest, locked := none }) rfl hsize (rest := rest) rfl
    (by rw [hb]; exact d4) hRframes (by simp only [List.map_cons, List.sum_cons, hcat]; omega)
  have Z0 := Stand.forget (locs := []) Z (fun y hy => by rw [hL y hy, hhp]; exact Nat.le_refl _)
  obtain ⟨f1, f2⟩ := vx_frame Z0.same
  rw [hhp] at f1 f2
  have hcid : ce.cls = D.1 ci := by
    rw [hcl9]
    have h1 := (hK.1 ci _ hc).2.1
    rw [hvm] at hfX
    exact Option.some.inj (hfX.symm.trans h1)
  have hh : (V.setCell T.heap.size ce).heap[T.heap.size]? = some ce := heapAt_setCell_self (s := V) ce hlt
  subst hA'
  have X5 := vx_back9 X Y Z0
  have X6 : Stand p l e R s m args below meth c (V.setCell T.heap.size ce) locs (cells + 1) (slots + 6) := { X5 with same := X5.same.mono (by omega) (by omega) }
  have hk9 : ∀ (k : Nat) (x : Nat × va_E), ws[k]? = some x → (V.setCell T.heap.size ce).heap[x.1]? = T.heap[x.1]? := fun k x hx => f2 x.1 ((hP k x hx).lt) (fun z hz => nomatch hz)
  obtain ⟨t, a1, b1⟩ := kk T.heap.size (V.setCell T.heap.size ce).heap ((hP.kept hk9).app (fun k x hx => by
      have hz : k < 1 := (List.getElem?_eq_some_iff.mp hx).1
      rw [show k = 0 by omega] at hx
      cases hx
      exact ⟨_, hc, ce, hh, hcid, hvm9, fun k hk => absurd hk (Nat.not_lt_zero k)⟩)) (hD.push hP rfl (hA _ hS.1)) ⟨Nat.le_trans hS.1 f1, fun q h1 h2 => (f2 q (Nat.lt_of_lt_of_le h1 hS.1) (fun z hz => nomatch hz)).trans (hS.2.1 q h1 h2), hS.2.2⟩ _ rfl X6
  refine ⟨t, st1 _ ?_, b1⟩
  show Steps p.tables e below (T1.setTop { method := m, pc := pc + 3, locals := ls, stack := .ref T.heap.size :: rest, locked := none }) _
  jvm_step X₁.here [X₁.here.top, hexec, d3', Value.category]
  exact st _ a1
/-- 'throw x' of an object that was made before -/
theorem vx_athrow {cc : ByteArray} {pc : Nat} (hexec : p.tables.exec = Jvm.exec) (hb : c.code = cc) {q : Addr} (hdg : decode cc pc = .ok (.athrow, 1)) (k : vx_W p l e R s m args below meth c H locs cells slots Q (F0 m pc ls rest) q) : W p l e R s m args below meth c H locs cells slots Q (F0 m pc ls (.ref q :: rest)) := by
  intro T hT X
  obtain ⟨t, st, hq⟩ := k T hT X
  refine ⟨t, ?_, hq⟩
  have hdg' : decode c.code pc = .ok (.athrow, 1) := by rw [hb]; exact hdg
  jvm_step X.here [X.here.top, hexec, hdg', athrow.wp_sem]
  exact st
end VXK2
/-! ===== END ===== -/
/-! ===== BEGIN a constructor that throws (launches without stack traces) ===== -/
section VXIA
variable {p : Program} {l : Launch} {e : Env} {R : Room} {s : State} {m : MethodId} {args : Array Value} {below : List Frame} {meth : Method} {c : Code} {T : State} {locs : List Loc} {cells slots : Nat}
theorem vx_callI (X : Stand p l e R s m args below meth c T locs cells slots) (hexec : p.tables.exec = Jvm.exec) {own : String} {index : Nat} {y : MethodName} {bytes : ByteArray} {maxL : Nat}
    (hown : s.vm.findClass own = some m.cls) (hy1 : y.name = "<init>") (hlink : (Cond.methodLink own index y).before args s = true) (hinst : (Cond.instanceMethod y).before args s = true)
    (hcode : (Cond.code y bytes maxL none).before args s = true) (hy : y.cls ≠ "java/lang/invoke/MethodHandle" ∧ y.cls ≠ "java/lang/invoke/VarHandle")
    {W9 : Nat} {Pre : Pt → Array Value → Prop} {Post : Pt → Array Value → Option Value → Pt → Prop} {PostX : Pt → Array Value → Addr → Pt → Prop} (hK : vx_Back l R p e below s args y 3 W9 Pre Post PostX)
    {g : JFrame} (hg : g.method = m) (hsize : g.locals.size = c.maxLocals) {a : Addr} {argsL rest : List Value} (hlen : ∀ sig, parseMethodDescriptor y.desc = some sig → argsL.length = sig.parameters.length)
    (hstack : g.stack = argsL.reverse ++ .ref a :: rest) (hW : 2 * g.monitorRoom + (rest.map fun v => v.category).sum ≤ W9) (hdg : decode c.code g.pc = .ok (.invokespecial index, 3))
    (hpre : ∀ vm₁, s.WarmedH vm₁ → Pre ⟨T.setVm vm₁, locs, cells, slots⟩ (Value.ref a :: argsL).toArray) :
    (∃ (v : Option Value) (vm₁ : Vm) (B : Pt), s.WarmedH vm₁ ∧ Stand p l e R s m args below meth c B.U B.locs B.cells B.slots ∧ Post ⟨T.setVm vm₁, locs, cells, slots⟩ (Value.ref a :: argsL).toArray v B ∧
      ∀ target, Steps p.tables e below (B.U.setTop { g with pc := g.pc + 3, stack := v.toList ++ rest }) target → Steps p.tables e below (T.setTop g) target) ∨
    (∃ (q : Addr) (vm₁ : Vm) (B : Pt), s.WarmedH vm₁ ∧ Stand p l e R s m args below meth c B.U B.locs B.cells B.slots ∧ PostX ⟨T.setVm vm₁, locs, cells, slots⟩ (Value.ref a :: argsL).toArray q B ∧
      Steps p.tables e below (T.setTop g) ((B.U.setTop { g with stack := rest }).pushFrame (.throwing q))) := by
  subst hg
  have hpl : e.platform.magicAccessors = ({} : Platform).magicAccessors := by rw [X.admits.platform]
  obtain ⟨mk, methM, cM, kP, vm₁, hnamed, hmethM, hcodeM, -, hlocalsM, -, hkP, -, hW₁, hstep₁⟩ := Steps.initColdArgs (e := e) X.here hexec X.warmed hpl hown hy1 hy hlink hinst hcode (f := g) rfl hlen hstack hdg
  have X₁ := X.noted hW₁
  rcases hK g.method meth c ⟨T.setVm vm₁, locs, cells, slots⟩ { g with stack := rest } (.invokespecial index) mk (Value.ref a :: argsL).toArray X₁ rfl hsize hdg hW (X₁.named hnamed) (hpre vm₁ X₁.warmed) with ⟨v, B, X', hpost, hsteps⟩ | ⟨q, B, X', hpost, hsteps⟩
  · exact Or.inl ⟨v, vm₁, B, X₁.warmed, X', hpost, fun target h => hstep₁ _ fun acts => by rw [doInvoke_state]; exact hsteps.trans h⟩
  · exact Or.inr ⟨q, vm₁, B, X₁.warmed, X', hpost, hstep₁ _ fun acts => by rw [doInvoke_state]; exact hsteps⟩
end VXIA
section VXIB
variable {p : Program} {l : Launch} {e : Env} {R : Room} {s : State} {m : MethodId} {args : Array Value} {below : List Frame} {meth : Method} {c : Code} {H : Heap} {locs : List Loc} {cells slots : Nat}
variable {y : MethodName} {bytes cc : ByteArray} {maxL nL mc ms n index : Nat} {ret : Option FieldType} {ws : List Cond} {rm : Room} {Pc : Array Value → State → Prop} {Qc : Array Value → State → Outcome → State → Prop} {XC : String → State → State → Prop} {free : Addr → Prop} {Ts : List Cond} {own C : String} {b : Addr} {As rest : List Value} {g : JFrame}
theorem vx_runI (S : CallFix p m c cc nL s args Ts own) (hM : vx_Met l y ws rm Pc Qc XC mc ms free) (cw : CallB R s args own index y bytes maxL none ws rm mc ms n ∧ y.name = "<init>" ∧ (Cond.instanceMethod y).before args s = true) (hp : PreS s H Pc (.ref b :: As))
    (hg : g.method = m) (hn : As.length = n) (hsize : g.locals.size = nL) (hstack : g.stack = As.reverse ++ .ref b :: rest) (hW : 2 * g.monitorRoom + (rest.map fun v => v.category).sum ≤ 8) (hdg : decode cc g.pc = .ok (.invokespecial index, 3)) (hf : cells + mc ≤ R.cells ∧ slots + ms ≤ R.slots) :
    vx_Run p l e R s m args below meth c H locs cells slots mc ms g rest (Qc (Value.ref b :: As).toArray) XC free := by
  have hK : vx_Back l R p e below s args y 3 8 (PreOf R mc ms Pc) (PostOf Qc mc ms free) (vx_Post XC mc ms free) := vx_callBack cw.1 hM hp.1
  obtain ⟨⟨-, -, -, -, -, -, hcode, -, hy, hlen, hl⟩, hy1, hin⟩ := cw
  obtain ⟨hx, hb, hml, ho, -⟩ := S
  have hPc := hp.2
  intro T hT X
  rcases vx_callI X hx (bytes := bytes) (maxL := maxL) ho hy1 hl hin hcode hy hK hg (hsize.trans hml.symm) (a := b) (argsL := As) (rest := rest) (fun sig h => hn.trans (hlen sig h)) hstack hW (by rw [hb]; exact hdg)
    (fun vm₁ hW₁ => ⟨hf.1, hf.2, hPc (T.setVm vm₁) hT hW₁⟩) with ⟨v, vm₁, ⟨U', l2, c2, s2⟩, hW₁, X', ⟨g', mk, t, L, e1, e2, hq, h1, hL, h2, h3⟩, st⟩ | ⟨q, vm₁, ⟨U', l2, c2, s2⟩, hW₁, X', ⟨g', mk, t, L, E, ce, e1, e2, hq, hce, hcv, hcl, h1, hL, h2, h3⟩, st⟩
  · dsimp only [Pt.U, Pt.locs, Pt.cells, Pt.slots] at X' e1 e2 h1 h2 h3 st
    subst h1; subst h2; subst h3
    exact Or.inl ⟨v, (T.setVm vm₁).calling g' mk (Value.ref b :: As).toArray, t, U', L, hT, X', hL, e1, e2, hq, st⟩
  · dsimp only [Pt.U, Pt.locs, Pt.cells, Pt.slots] at X' e1 e2 h1 h2 h3 st hcl
    subst h1; subst h2; subst h3
    exact Or.inr ⟨q, (T.setVm vm₁).calling g' mk (Value.ref b :: As).toArray, t, U', L, E, ce, hT, X', hL, e1, e2, hq, hce, hcv, vx_cls hW₁ hcl, st⟩
end VXIB
/-! ===== END ===== -/
/-! ===== BEGIN a private constructor of a nest mate that throws ===== -/
section VXIC
variable {p : Program} {l : Launch} {e : Env} {R : Room} {s : State} {m : MethodId} {args : Array Value} {below : List Frame} {meth : Method} {c : Code} {T : State} {locs : List Loc} {cells slots : Nat}
theorem vx_callIN (X : Stand p l e R s m args below meth c T locs cells slots) (hexec : p.tables.exec = Jvm.exec) {own : String} {index : Nat} {host : String} {y : MethodName} {bytes : ByteArray} {maxL : Nat}
    (hown : s.vm.findClass own = some m.cls) (hy1 : y.name = "<init>") (hlink : (Cond.methodLinkNest own index y host).before args s = true) (hinst : (Cond.instanceMethod y).before args s = true)
    (hcode : (Cond.code y bytes maxL none).before args s = true) (hy : y.cls ≠ "java/lang/invoke/MethodHandle" ∧ y.cls ≠ "java/lang/invoke/VarHandle")
    {W9 : Nat} {Pre : Pt → Array Value → Prop} {Post : Pt → Array Value → Option Value → Pt → Prop} {PostX : Pt → Array Value → Addr → Pt → Prop} (hK : vx_Back l R p e below s args y 3 W9 Pre Post PostX)
    {g : JFrame} (hg : g.method = m) (hsize : g.locals.size = c.maxLocals) {a : Addr} {argsL rest : List Value} (hlen : ∀ sig, parseMethodDescriptor y.desc = some sig → argsL.length = sig.parameters.length)
    (hstack : g.stack = argsL.reverse ++ .ref a :: rest) (hW : 2 * g.monitorRoom + (rest.map fun v => v.category).sum ≤ W9) (hdg : decode c.code g.pc = .ok (.invokespecial index, 3))
    (hpre : ∀ vm₁, s.WarmedH vm₁ → Pre ⟨T.setVm vm₁, locs, cells, slots⟩ (Value.ref a :: argsL).toArray) :
    (∃ (v : Option Value) (vm₁ : Vm) (B : Pt), s.WarmedH vm₁ ∧ Stand p l e R s m args below meth c B.U B.locs B.cells B.slots ∧ Post ⟨T.setVm vm₁, locs, cells, slots⟩ (Value.ref a :: argsL).toArray v B ∧
      ∀ target, Steps p.tables e below (B.U.setTop { g with pc := g.pc + 3, stack := v.toList ++ rest }) target → Steps p.tables e below (T.setTop g) target) ∨
    (∃ (q : Addr) (vm₁ : Vm) (B : Pt), s.WarmedH vm₁ ∧ Stand p l e R s m args below meth c B.U B.locs B.cells B.slots ∧ PostX ⟨T.setVm vm₁, locs, cells, slots⟩ (Value.ref a :: argsL).toArray q B ∧
      Steps p.tables e below (T.setTop g) ((B.U.setTop { g with stack := rest }).pushFrame (.throwing q))) := by
  subst hg
  have hpl : e.platform.magicAccessors = ({} : Platform).magicAccessors := by rw [X.admits.platform]
  obtain ⟨mk, methM, cM, kP, vm₁, hnamed, hmethM, hcodeM, -, hlocalsM, -, hkP, -, hW₁, hstep₁⟩ := Steps.initColdArgsNest (e := e) X.here hexec X.warmed hpl hown hy1 hy hlink hinst hcode (f := g) rfl hlen hstack hdg
  have X₁ := X.noted hW₁
  rcases hK g.method meth c ⟨T.setVm vm₁, locs, cells, slots⟩ { g with stack := rest } (.invokespecial index) mk (Value.ref a :: argsL).toArray X₁ rfl hsize hdg hW (X₁.named hnamed) (hpre vm₁ X₁.warmed) with ⟨v, B, X', hpost, hsteps⟩ | ⟨q, B, X', hpost, hsteps⟩
  · exact Or.inl ⟨v, vm₁, B, X₁.warmed, X', hpost, fun target h => hstep₁ _ fun acts => by rw [doInvoke_state]; exact hsteps.trans h⟩
  · exact Or.inr ⟨q, vm₁, B, X₁.warmed, X', hpost, hstep₁ _ fun acts => by rw [doInvoke_state]; exact hsteps⟩
end VXIC
section VXID
variable {p : Program} {l : Launch} {e : Env} {R : Room} {s : State} {m : MethodId} {args : Array Value} {below : List Frame} {meth : Method} {c : Code} {H : Heap} {locs : List Loc} {cells slots : Nat}
theorem vx_runIN {y : MethodName} {bytes cc : ByteArray} {maxL nL mc ms n index : Nat} {ws : List Cond} {rm : Room} {Pc : Array Value → State → Prop} {Qc : Array Value → State → Outcome → State → Prop} {XC : String → State → State → Prop} {free : Addr → Prop} {Ts : List Cond} {own host : String} {b : Addr} {As rest : List Value} {g : JFrame}
    (S : CallFix p m c cc nL s args Ts own) (hM : vx_Met l y ws rm Pc Qc XC mc ms free) (cw : va_CN R s args own index y host bytes maxL none ws rm mc ms n ∧ y.name = "<init>" ∧ (Cond.instanceMethod y).before args s = true) (hp : PreS s H Pc (.ref b :: As))
    (hg : g.method = m) (hn : As.length = n) (hsize : g.locals.size = nL) (hstack : g.stack = As.reverse ++ .ref b :: rest) (hW : 2 * g.monitorRoom + (rest.map fun v => v.category).sum ≤ 8) (hdg : decode cc g.pc = .ok (.invokespecial index, 3)) (hf : cells + mc ≤ R.cells ∧ slots + ms ≤ R.slots) :
    vx_Run p l e R s m args below meth c H locs cells slots mc ms g rest (Qc (Value.ref b :: As).toArray) XC free := by
  obtain ⟨⟨⟨hrc, hrs, hfr, hlo, hws, hcw⟩, hcode, hini, hy, hlen, hl⟩, hx1, hx2⟩ := cw
  have hK : vx_Back l R p e below s args y 3 8 (PreOf R mc ms Pc) (PostOf Qc mc ms free) (vx_Post XC mc ms free) := vx_back (bytes := bytes) (maxL := maxL) (ret := none) hM hp.1 hrc hrs hfr hlo hws hcw (fun a' U hW => word_at hW (Or.inl (by first | rfl | simp [Cond.onTables, Cond.keeps, Cond.steady])) hini)
  obtain ⟨hx, hb, hml, ho, -⟩ := S
  have hPc := hp.2
  intro T hT X
  rcases vx_callIN X hx (bytes := bytes) (maxL := maxL) ho hx1 hl hx2 hcode hy hK hg (hsize.trans hml.symm) (a := b) (argsL := As) (rest := rest) (fun sig h => hn.trans (hlen sig h)) hstack hW (by rw [hb]; exact hdg)
    (fun vm₁ hW₁ => ⟨hf.1, hf.2, hPc (T.setVm vm₁) hT hW₁⟩) with ⟨v, vm₁, ⟨U', l2, c2, s2⟩, hW₁, X', ⟨g', mk, t, L, e1, e2, hq, h1, hL, h2, h3⟩, st⟩ | ⟨q, vm₁, ⟨U', l2, c2, s2⟩, hW₁, X', ⟨g', mk, t, L, E, ce, e1, e2, hq, hce, hcv, hcl, h1, hL, h2, h3⟩, st⟩
  · dsimp only [Pt.U, Pt.locs, Pt.cells, Pt.slots] at X' e1 e2 h1 h2 h3 st
    subst h1; subst h2; subst h3
    exact Or.inl ⟨v, (T.setVm vm₁).calling g' mk (Value.ref b :: As).toArray, t, U', L, hT, X', hL, e1, e2, hq, st⟩
  · dsimp only [Pt.U, Pt.locs, Pt.cells, Pt.slots] at X' e1 e2 h1 h2 h3 st hcl
    subst h1; subst h2; subst h3
    exact Or.inr ⟨q, (T.setVm vm₁).calling g' mk (Value.ref b :: As).toArray, t, U', L, E, ce, hT, X', hL, e1, e2, hq, hce, hcv, vx_cls hW₁ hcl, st⟩
end VXID
/-! ===== END ===== -/
/-! ===== BEGIN a method of a class above, found by the receiver, that may throw (follows va_callVU, va_runU of this kit) ===== -/
section
variable {p : Program} {l : Launch} {e : Env} {R : Room} {s : State} {m : MethodId} {args : Array Value} {below : List Frame} {meth : Method} {c : Code} {H : Heap} {locs : List Loc} {cells slots : Nat}
theorem vx_callVU {T : State} {locs : List Loc} {cells slots : Nat} (X : Stand p l e R s m args below meth c T locs cells slots) (hexec : p.tables.exec = Jvm.exec) {own C owner : String} {index : Nat} {x y : MethodName} {bytes : ByteArray} {maxL : Nat} {ret : Option FieldType}
    (hown : s.vm.findClass own = some m.cls) (hlink : (Cond.methodLink own index x).before args s = true) (hsame : (Cond.sameMethod x.cls owner x.name x.desc).before args s = true)
    (hd0 : va_Decl s ⟨owner, x.name, x.desc⟩) (howner : owner ≠ "java/lang/invoke/MethodHandle" ∧ owner ≠ "java/lang/invoke/VarHandle")
    (hsel : (Cond.selects C x y).before args s = true) (hinst : (Cond.instanceMethod y).before args s = true) (hcode : (Cond.code y bytes maxL ret).before args s = true)
    {W : Nat} {Pre : Pt → Array Value → Prop} {Post : Pt → Array Value → Option Value → Pt → Prop} {PostX : Pt → Array Value → Addr → Pt → Prop} (hK : vx_Back l R p e below s args y 3 W Pre Post PostX)
    {b : Addr} {cellB : Cell} (hcell : T.heap[b]? = some cellB) (hobj : cellB.vm.isStatics = false) (hcls : s.vm.findClass C = some cellB.cls)
    {g : JFrame} (hg : g.method = m) (hsize : g.locals.size = c.maxLocals) {argsL rest : List Value} (hlen : ∀ sig, parseMethodDescriptor x.desc = some sig → argsL.length = sig.parameters.length)
    (hstack : g.stack = argsL.reverse ++ .ref b :: rest) (hW : 2 * g.monitorRoom + (rest.map fun v => v.category).sum ≤ W) (hdg : decode c.code g.pc = .ok (.invokevirtual index, 3))
    (hpre : ∀ vm₁, s.WarmedH vm₁ → Pre ⟨T.setVm vm₁, locs, cells, slots⟩ (Value.ref b :: argsL).toArray) :
    (∃ (v : Option Value) (vm₁ : Vm) (B : Pt), s.WarmedH vm₁ ∧ Stand p l e R s m args below meth c B.U B.locs B.cells B.slots ∧ Post ⟨T.setVm vm₁, locs, cells, slots⟩ (Value.ref b :: argsL).toArray v B ∧
      ∀ target, Steps p.tables e below (B.U.setTop { g with pc := g.pc + 3, stack := v.toList ++ rest }) target → Steps p.tables e below (T.setTop g) target) ∨
    (∃ (q : Addr) (vm₁ : Vm) (B : Pt), s.WarmedH vm₁ ∧ Stand p l e R s m args below meth c B.U B.locs B.cells B.slots ∧ PostX ⟨T.setVm vm₁, locs, cells, slots⟩ (Value.ref b :: argsL).toArray q B ∧
      Steps p.tables e below (T.setTop g) ((B.U.setTop { g with stack := rest }).pushFrame (.throwing q))) := by
  obtain ⟨r0, r, hn, hrm, hstR, hsigR⟩ := hd0
  obtain ⟨cn, ck, r1, hcn, hck, hni, hf, hn1⟩ := Cond.sameMethod_found hsame
  cases hn.symm.trans hn1
  obtain ⟨mk, methM, hnamed, hmethM, -, habM⟩ := Cond.instanceMethod_spec hinst
  obtain ⟨c2, r2, m2, q1, q2, q3, q4, kP, hkP, hkPi⟩ := Cond.selects_spec hsel
  cases hcls.symm.trans q1
  cases hf.symm.trans q2
  cases hnamed.symm.trans q3
  have hselP : selectMethod e.platform s.vm cellB.cls r0 = .method mk := by rw [Launch.admits_selectMethod X.admits]; exact q4
  obtain ⟨vm₁, X₁, hstep₁⟩ := X.invokevirtualUp hexec hown hlink hsame howner hn hrm hstR (a := b) (cell := cellB) hcell
    (fun z h => by rw [h] at hobj; cases hobj) hselP hmethM habM hkP hkPi (g := g) hg (argsL := argsL) (rest := rest) (hlen _ hsigR) hstack hdg
  rcases hK m meth c ⟨T.setVm vm₁, locs, cells, slots⟩ { g with stack := rest } (.invokevirtual index) mk (Value.ref b :: argsL).toArray X₁ hg hsize hdg hW (X₁.named hnamed) (hpre vm₁ X₁.warmed) with ⟨v, B, X', hpost, hsteps⟩ | ⟨q, B, X', hpost, hsteps⟩
  · exact Or.inl ⟨v, vm₁, B, X₁.warmed, X', hpost, fun target h => hstep₁ _ fun acts => by rw [doInvoke_state]; exact hsteps.trans h⟩
  · exact Or.inr ⟨q, vm₁, B, X₁.warmed, X', hpost, hstep₁ _ fun acts => by rw [doInvoke_state]; exact hsteps⟩
theorem vx_runU {x y : MethodName} {bytes cc : ByteArray} {maxL nL mc ms n index : Nat} {ret : Option FieldType} {ws : List Cond} {rm : Room} {Pc : Array Value → State → Prop} {Qc : Array Value → State → Outcome → State → Prop} {XC : String → State → State → Prop} {free : Addr → Prop} {Ts : List Cond} {own C owner : String} {b : Addr} {As rest : List Value} {g : JFrame}
    (S : CallFix p m c cc nL s args Ts own) (hM : vx_Met l y ws rm Pc Qc XC mc ms free) (cw : va_CU R s args own C owner index x y bytes maxL ret ws rm mc ms n) (hp : PreV s H C b Pc As)
    (hg : g.method = m) (hn : As.length = n) (hsize : g.locals.size = nL) (hstack : g.stack = As.reverse ++ .ref b :: rest) (hW : 2 * g.monitorRoom + (rest.map fun v => v.category).sum ≤ 8) (hdg : decode cc g.pc = .ok (.invokevirtual index, 3)) (hf : cells + mc ≤ R.cells ∧ slots + ms ≤ R.slots) :
    vx_Run p l e R s m args below meth c H locs cells slots mc ms g rest (Qc (Value.ref b :: As).toArray) XC free := by
  obtain ⟨hrc, hrs, hfr, hlo, hws, hcw⟩ := cw.back
  have hini := cw.init
  have hK : vx_Back l R p e below s args y 3 8 (PreOf R mc ms Pc) (PostOf Qc mc ms free) (vx_Post XC mc ms free) := vx_back (bytes := bytes) (maxL := maxL) (ret := ret) hM hp.1 hrc hrs hfr hlo hws hcw (fun a' U hW => word_at hW (Or.inl (by first | rfl | simp [Cond.onTables, Cond.keeps, Cond.steady])) hini)
  obtain ⟨hx, hb, hml, ho, -⟩ := S
  obtain ⟨-, ⟨cellB, hcB, hoB, hclB⟩, hPc⟩ := hp
  intro T hT X
  rcases vx_callVU X hx (C := C) (owner := owner) (bytes := bytes) (maxL := maxL) (ret := ret) ho cw.link cw.same cw.decl cw.notMH cw.sel cw.inst cw.code hK (by rw [hT]; exact hcB) hoB hclB hg (hsize.trans hml.symm) (argsL := As) (rest := rest) (fun sig h => hn.trans (cw.len sig h)) hstack hW (by rw [hb]; exact hdg)
    (fun vm₁ hW₁ => ⟨hf.1, hf.2, hPc (T.setVm vm₁) hT hW₁⟩) with ⟨v, vm₁, ⟨U', l2, c2, s2⟩, hW₁, X', ⟨g', mk, t, L, e1, e2, hq, h1, hL, h2, h3⟩, st⟩ | ⟨q, vm₁, ⟨U', l2, c2, s2⟩, hW₁, X', ⟨g', mk, t, L, E, ce, e1, e2, hq, hce, hcv, hcl, h1, hL, h2, h3⟩, st⟩
  · dsimp only [Pt.U, Pt.locs, Pt.cells, Pt.slots] at X' e1 e2 h1 h2 h3 st
    subst h1; subst h2; subst h3
    exact Or.inl ⟨v, (T.setVm vm₁).calling g' mk (Value.ref b :: As).toArray, t, U', L, hT, X', hL, e1, e2, hq, st⟩
  · dsimp only [Pt.U, Pt.locs, Pt.cells, Pt.slots] at X' e1 e2 h1 h2 h3 st hcl
    subst h1; subst h2; subst h3
    exact Or.inr ⟨q, (T.setVm vm₁).calling g' mk (Value.ref b :: As).toArray, t, U', L, E, ce, hT, X', hL, e1, e2, hq, hce, hcv, vx_cls hW₁ hcl, st⟩
end
/-! ===== END ===== -/
/-! ===== BEGIN super.m(..) that may throw (follows va_callSU, va_runSU) ===== -/
section
variable {p : Program} {l : Launch} {e : Env} {R : Room} {s : State} {m : MethodId} {args : Array Value} {below : List Frame} {meth : Method} {c : Code} {H : Heap} {locs : List Loc} {cells slots : Nat}
theorem vx_callSU {T : State} {locs : List Loc} {cells slots : Nat} (X : Stand p l e R s m args below meth c T locs cells slots) (hexec : p.tables.exec = Jvm.exec) {own : String} {index : Nat} {y : MethodName} {bytes : ByteArray} {maxL : Nat} {ret : Option FieldType}
    (hown : s.vm.findClass own = some m.cls) (hlink : (Cond.methodLink own index y).before args s = true) (hsame : (Cond.sameMethod y.cls y.cls y.name y.desc).before args s = true) (hsup : (Cond.superclass own y.cls).before args s = true)
    (hinst : (Cond.instanceMethod y).before args s = true) (hcode : (Cond.code y bytes maxL ret).before args s = true) (hno : y.name ≠ "<init>")
    {W : Nat} {Pre : Pt → Array Value → Prop} {Post : Pt → Array Value → Option Value → Pt → Prop} {PostX : Pt → Array Value → Addr → Pt → Prop} (hK : vx_Back l R p e below s args y 3 W Pre Post PostX)
    {b : Addr} {cellB : Cell} {kB : Class} (hcell : T.heap[b]? = some cellB) (hobj : cellB.vm.isStatics = false) (hkB : s.vm.classes[cellB.cls]? = some kB)
    {g : JFrame} (hg : g.method = m) (hsize : g.locals.size = c.maxLocals) {argsL rest : List Value} (hlen : ∀ sig, parseMethodDescriptor y.desc = some sig → argsL.length = sig.parameters.length)
    (hstack : g.stack = argsL.reverse ++ .ref b :: rest) (hW : 2 * g.monitorRoom + (rest.map fun v => v.category).sum ≤ W) (hdg : decode c.code g.pc = .ok (.invokespecial index, 3))
    (hpre : ∀ vm₁, s.WarmedH vm₁ → Pre ⟨T.setVm vm₁, locs, cells, slots⟩ (Value.ref b :: argsL).toArray) :
    (∃ (v : Option Value) (vm₁ : Vm) (B : Pt), s.WarmedH vm₁ ∧ Stand p l e R s m args below meth c B.U B.locs B.cells B.slots ∧ Post ⟨T.setVm vm₁, locs, cells, slots⟩ (Value.ref b :: argsL).toArray v B ∧
      ∀ target, Steps p.tables e below (B.U.setTop { g with pc := g.pc + 3, stack := v.toList ++ rest }) target → Steps p.tables e below (T.setTop g) target) ∨
    (∃ (q : Addr) (vm₁ : Vm) (B : Pt), s.WarmedH vm₁ ∧ Stand p l e R s m args below meth c B.U B.locs B.cells B.slots ∧ PostX ⟨T.setVm vm₁, locs, cells, slots⟩ (Value.ref b :: argsL).toArray q B ∧
      Steps p.tables e below (T.setTop g) ((B.U.setTop { g with stack := rest }).pushFrame (.throwing q))) := by
  obtain ⟨mk, methM, hnamed, hmethM, hstM, habM⟩ := Cond.instanceMethod_spec hinst
  obtain ⟨methM', cM, hmethM', -, -, -, -, -, -, hsigM⟩ := Cond.code_spec hnamed hcode
  cases hmethM.symm.trans hmethM'
  obtain ⟨ps, dk, kp, hps, hdk, hkp, hsuper, -, -, hnid⟩ := Cond.superclass_spec hown hsup
  have hn : s.methodNamed? ⟨y.cls, y.name, y.desc⟩ = some mk := hnamed
  have hpm : ps = mk.cls := Option.some.inj (hps.symm.trans (findClass_of_methodNamed hnamed))
  have hsub : s.vm.isSubclass ps mk.cls = true := by rw [hpm]; simp [Vm.isSubclass, Vm.isSubclassAux]
  obtain ⟨vm₁, X₁, hstep₁⟩ := X.invokespecialUp hexec hown hlink hsame hn hmethM hstM habM hno hdk hnid hps hsuper hsub (a := b) (cell := cellB) hcell
    (fun z h => by rw [h] at hobj; cases hobj) hkB (g := g) hg (argsL := argsL) (rest := rest) (hlen _ hsigM) hstack hdg
  rcases hK m meth c ⟨T.setVm vm₁, locs, cells, slots⟩ { g with stack := rest } (.invokespecial index) mk (Value.ref b :: argsL).toArray X₁ hg hsize hdg hW (X₁.named hnamed) (hpre vm₁ X₁.warmed) with ⟨v, B, X', hpost, hsteps⟩ | ⟨q, B, X', hpost, hsteps⟩
  · exact Or.inl ⟨v, vm₁, B, X₁.warmed, X', hpost, fun target h => hstep₁ _ (by rw [doInvoke_state]; exact hsteps.trans h)⟩
  · exact Or.inr ⟨q, vm₁, B, X₁.warmed, X', hpost, hstep₁ _ (by rw [doInvoke_state]; exact hsteps)⟩
theorem vx_runSU {y : MethodName} {bytes cc : ByteArray} {maxL nL mc ms n index : Nat} {ret : Option FieldType} {ws : List Cond} {rm : Room} {Pc : Array Value → State → Prop} {Qc : Array Value → State → Outcome → State → Prop} {XC : String → State → State → Prop} {free : Addr → Prop} {Ts : List Cond} {own C : String} {cC : ClassId} {b : Addr} {As rest : List Value} {g : JFrame}
    (hat : ClassAt s C cC) (S : CallFix p m c cc nL s args Ts own) (hM : vx_Met l y ws rm Pc Qc XC mc ms free) (cw : va_CS R s args own index y bytes maxL ret ws rm mc ms n) (hp : PreV s H C b Pc As)
    (hg : g.method = m) (hn : As.length = n) (hsize : g.locals.size = nL) (hstack : g.stack = As.reverse ++ .ref b :: rest) (hW : 2 * g.monitorRoom + (rest.map fun v => v.category).sum ≤ 8) (hdg : decode cc g.pc = .ok (.invokespecial index, 3)) (hf : cells + mc ≤ R.cells ∧ slots + ms ≤ R.slots) :
    vx_Run p l e R s m args below meth c H locs cells slots mc ms g rest (Qc (Value.ref b :: As).toArray) XC free := by
  obtain ⟨⟨hrc, hrs, hfr, hlo, hws, hcw⟩, hl1, hl2, hl3, hl4, hini, hcode, hno, hlen⟩ := cw
  have hK : vx_Back l R p e below s args y 3 8 (PreOf R mc ms Pc) (PostOf Qc mc ms free) (vx_Post XC mc ms free) := vx_back (bytes := bytes) (maxL := maxL) (ret := ret) hM hp.1 hrc hrs hfr hlo hws hcw (fun a' U hW => word_at hW (Or.inl (by first | rfl | simp [Cond.onTables, Cond.keeps, Cond.steady])) hini)
  obtain ⟨hx, hb, hml, ho, -⟩ := S
  obtain ⟨-, ⟨cellB, hcB, hoB, hclB⟩, hPc⟩ := hp
  obtain ⟨hfc, kB, hkB, -⟩ := hat
  cases hfc.symm.trans hclB
  intro T hT X
  rcases vx_callSU X hx (bytes := bytes) (maxL := maxL) (ret := ret) ho hl1 hl2 hl3 hl4 hcode hno hK (by rw [hT]; exact hcB) hoB hkB hg (hsize.trans hml.symm) (argsL := As) (rest := rest) (fun sig h => hn.trans (hlen sig h)) hstack hW (by rw [hb]; exact hdg)
    (fun vm₁ hW₁ => ⟨hf.1, hf.2, hPc (T.setVm vm₁) hT hW₁⟩) with ⟨v, vm₁, ⟨U', l2, c2, s2⟩, hW₁, X', ⟨g', mk, t, L, e1, e2, hq, h1, hL, h2, h3⟩, st⟩ | ⟨q, vm₁, ⟨U', l2, c2, s2⟩, hW₁, X', ⟨g', mk, t, L, E, ce, e1, e2, hq, hce, hcv, hcl, h1, hL, h2, h3⟩, st⟩
  · dsimp only [Pt.U, Pt.locs, Pt.cells, Pt.slots] at X' e1 e2 h1 h2 h3 st
    subst h1; subst h2; subst h3
    exact Or.inl ⟨v, (T.setVm vm₁).calling g' mk (Value.ref b :: As).toArray, t, U', L, hT, X', hL, e1, e2, hq, st⟩
  · dsimp only [Pt.U, Pt.locs, Pt.cells, Pt.slots] at X' e1 e2 h1 h2 h3 st hcl
    subst h1; subst h2; subst h3
    exact Or.inr ⟨q, (T.setVm vm₁).calling g' mk (Value.ref b :: As).toArray, t, U', L, E, ce, hT, X', hL, e1, e2, hq, hce, hcv, vx_cls hW₁ hcl, st⟩
end
/-! ===== END ===== -/
/-! ===== BEGIN a private method of a nest mate that may throw (follows va_callVN, va_callSN, va_runVN, va_runSN) ===== -/
section
variable {p : Program} {l : Launch} {e : Env} {R : Room} {s : State} {m : MethodId} {args : Array Value} {below : List Frame} {meth : Method} {c : Code} {H : Heap} {locs : List Loc} {cells slots : Nat}
variable {T : State}
theorem vx_callVN (X : Stand p l e R s m args below meth c T locs cells slots) (hexec : p.tables.exec = Jvm.exec) {own C : String} {index : Nat} {host : String} {y : MethodName} {bytes : ByteArray} {maxL : Nat} {ret : Option FieldType}
    (hown : s.vm.findClass own = some m.cls) (hlink : (Cond.methodLinkNest own index y host).before args s = true) (hinst : (Cond.instanceMethod y).before args s = true) (hsel : (Cond.selects C y y).before args s = true)
    (hcode : (Cond.code y bytes maxL ret).before args s = true) (hy : y.cls ≠ "java/lang/invoke/MethodHandle" ∧ y.cls ≠ "java/lang/invoke/VarHandle")
    {W : Nat} {Pre : Pt → Array Value → Prop} {Post : Pt → Array Value → Option Value → Pt → Prop} {PostX : Pt → Array Value → Addr → Pt → Prop} (hK : vx_Back l R p e below s args y 3 W Pre Post PostX)
    {b : Addr} {cellB : Cell} (hcell : T.heap[b]? = some cellB) (hobj : cellB.vm.isStatics = false) (hcls : s.vm.findClass C = some cellB.cls)
    {g : JFrame} (hg : g.method = m) (hsize : g.locals.size = c.maxLocals) {argsL rest : List Value} (hlen : ∀ sig, parseMethodDescriptor y.desc = some sig → argsL.length = sig.parameters.length)
    (hstack : g.stack = argsL.reverse ++ .ref b :: rest) (hW : 2 * g.monitorRoom + (rest.map fun v => v.category).sum ≤ W) (hdg : decode c.code g.pc = .ok (.invokevirtual index, 3))
    (hpre : ∀ vm₁, s.WarmedH vm₁ → Pre ⟨T.setVm vm₁, locs, cells, slots⟩ (Value.ref b :: argsL).toArray) :
    (∃ (v : Option Value) (vm₁ : Vm) (B : Pt), s.WarmedH vm₁ ∧ Stand p l e R s m args below meth c B.U B.locs B.cells B.slots ∧ Post ⟨T.setVm vm₁, locs, cells, slots⟩ (Value.ref b :: argsL).toArray v B ∧
      ∀ target, Steps p.tables e below (B.U.setTop { g with pc := g.pc + 3, stack := v.toList ++ rest }) target → Steps p.tables e below (T.setTop g) target) ∨
    (∃ (q : Addr) (vm₁ : Vm) (B : Pt), s.WarmedH vm₁ ∧ Stand p l e R s m args below meth c B.U B.locs B.cells B.slots ∧ PostX ⟨T.setVm vm₁, locs, cells, slots⟩ (Value.ref b :: argsL).toArray q B ∧
      Steps p.tables e below (T.setTop g) ((B.U.setTop { g with stack := rest }).pushFrame (.throwing q))) := by
  obtain ⟨mk, methM, hnamed, hmethM, hstM, habM⟩ := Cond.instanceMethod_spec hinst
  obtain ⟨methM', cM, hmethM', -, -, -, -, -, -, hsigM⟩ := Cond.code_spec hnamed hcode
  cases hmethM.symm.trans hmethM'
  obtain ⟨c2, r2, m2, q1, q2, q3, q4, kP, hkP, hkPi⟩ := Cond.selects_spec hsel
  cases hcls.symm.trans q1
  cases (State.methodFound?_of_named hnamed hy).symm.trans q2
  cases hnamed.symm.trans q3
  have hselP : selectMethod e.platform s.vm cellB.cls mk = .method mk := by rw [Launch.admits_selectMethod X.admits]; exact q4
  obtain ⟨vm₁, X₁, hstep₁⟩ := X.invokevirtualNest hexec hown hlink hnamed hmethM hstM hkP hkPi hy (a := b) (cell := cellB) hcell
    (fun z h => by rw [h] at hobj; cases hobj) hselP hmethM habM hkP hkPi (g := g) hg (argsL := argsL) (rest := rest) (hlen _ hsigM) hstack hdg
  rcases hK m meth c ⟨T.setVm vm₁, locs, cells, slots⟩ { g with stack := rest } (.invokevirtual index) mk (Value.ref b :: argsL).toArray X₁ hg hsize hdg hW (X₁.named hnamed) (hpre vm₁ X₁.warmed) with ⟨v, B, X', hpost, hsteps⟩ | ⟨q, B, X', hpost, hsteps⟩
  · exact Or.inl ⟨v, vm₁, B, X₁.warmed, X', hpost, fun target h => hstep₁ _ fun acts => by rw [doInvoke_state]; exact hsteps.trans h⟩
  · exact Or.inr ⟨q, vm₁, B, X₁.warmed, X', hpost, hstep₁ _ fun acts => by rw [doInvoke_state]; exact hsteps⟩
theorem vx_callSN (X : Stand p l e R s m args below meth c T locs cells slots) (hexec : p.tables.exec = Jvm.exec) {own : String} {index : Nat} {host : String} {y : MethodName} {bytes : ByteArray} {maxL : Nat} {ret : Option FieldType}
    (hown : s.vm.findClass own = some m.cls) (hlink : (Cond.methodLinkNest own index y host).before args s = true) (hstat : (Cond.static y).before args s = true) (hinit : (Cond.initialized y.cls).before args s = true)
    (hcode : (Cond.code y bytes maxL ret).before args s = true) (hy : y.cls ≠ "java/lang/invoke/MethodHandle" ∧ y.cls ≠ "java/lang/invoke/VarHandle")
    {W : Nat} {Pre : Pt → Array Value → Prop} {Post : Pt → Array Value → Option Value → Pt → Prop} {PostX : Pt → Array Value → Addr → Pt → Prop} (hK : vx_Back l R p e below s args y 3 W Pre Post PostX)
    {g : JFrame} (hg : g.method = m) (hsize : g.locals.size = c.maxLocals) {argsL rest : List Value} (hlen : ∀ sig, parseMethodDescriptor y.desc = some sig → argsL.length = sig.parameters.length)
    (hstack : g.stack = argsL.reverse ++ rest) (hW : 2 * g.monitorRoom + (rest.map fun v => v.category).sum ≤ W) (hdg : decode c.code g.pc = .ok (.invokestatic index, 3))
    (hpre : ∀ vm₁, s.WarmedH vm₁ → Pre ⟨T.setVm vm₁, locs, cells, slots⟩ argsL.toArray) :
    (∃ (v : Option Value) (vm₁ : Vm) (B : Pt), s.WarmedH vm₁ ∧ Stand p l e R s m args below meth c B.U B.locs B.cells B.slots ∧ Post ⟨T.setVm vm₁, locs, cells, slots⟩ argsL.toArray v B ∧
      ∀ target, Steps p.tables e below (B.U.setTop { g with pc := g.pc + 3, stack := v.toList ++ rest }) target → Steps p.tables e below (T.setTop g) target) ∨
    (∃ (q : Addr) (vm₁ : Vm) (B : Pt), s.WarmedH vm₁ ∧ Stand p l e R s m args below meth c B.U B.locs B.cells B.slots ∧ PostX ⟨T.setVm vm₁, locs, cells, slots⟩ argsL.toArray q B ∧
      Steps p.tables e below (T.setTop g) ((B.U.setTop { g with stack := rest }).pushFrame (.throwing q))) := by
  obtain ⟨mk, hnamed⟩ := Cond.code_named hcode
  obtain ⟨methM, cM, hmethM, -, -, -, -, -, -, hsigM⟩ := Cond.code_spec hnamed hcode
  have hstatic : methM.isStatic = true := Cond.static_spec hnamed hmethM hstat
  obtain ⟨kP, hkP, -⟩ := className_of_methodNamed hnamed
  have hinitP : kP.init = .initialized := Cond.initialized_spec (findClass_of_methodNamed hnamed) hkP hinit
  obtain ⟨vm₁, X₁, hstep₁⟩ := X.invokestaticNest hexec hown hlink hnamed hmethM hstatic hkP hinitP hy (g := g) hg (argsL := argsL) (rest := rest) (hlen _ hsigM) hstack hdg
  rcases hK m meth c ⟨T.setVm vm₁, locs, cells, slots⟩ { g with stack := rest } (.invokestatic index) mk argsL.toArray X₁ hg hsize hdg hW (X₁.named hnamed) (hpre vm₁ X₁.warmed) with ⟨v, B, X', hpost, hsteps⟩ | ⟨q, B, X', hpost, hsteps⟩
  · exact Or.inl ⟨v, vm₁, B, X₁.warmed, X', hpost, fun target h => hstep₁ _ fun acts => by rw [doInvoke_state]; exact hsteps.trans h⟩
  · exact Or.inr ⟨q, vm₁, B, X₁.warmed, X', hpost, hstep₁ _ fun acts => by rw [doInvoke_state]; exact hsteps⟩
theorem vx_runVN {y : MethodName} {bytes cc : ByteArray} {maxL nL mc ms n index : Nat} {ret : Option FieldType} {ws : List Cond} {rm : Room} {Pc : Array Value → State → Prop} {Qc : Array Value → State → Outcome → State → Prop} {XC : String → State → State → Prop} {free : Addr → Prop} {Ts : List Cond} {own C host : String} {b : Addr} {As rest : List Value} {g : JFrame}
    (S : CallFix p m c cc nL s args Ts own) (hM : vx_Met l y ws rm Pc Qc XC mc ms free) (cw : va_CN R s args own index y host bytes maxL ret ws rm mc ms n ∧ (Cond.instanceMethod y).before args s = true ∧ (Cond.selects C y y).before args s = true) (hp : PreV s H C b Pc As)
    (hg : g.method = m) (hn : As.length = n) (hsize : g.locals.size = nL) (hstack : g.stack = As.reverse ++ .ref b :: rest) (hW : 2 * g.monitorRoom + (rest.map fun v => v.category).sum ≤ 8) (hdg : decode cc g.pc = .ok (.invokevirtual index, 3)) (hf : cells + mc ≤ R.cells ∧ slots + ms ≤ R.slots) :
    vx_Run p l e R s m args below meth c H locs cells slots mc ms g rest (Qc (Value.ref b :: As).toArray) XC free := by
  obtain ⟨⟨⟨hrc, hrs, hfr, hlo, hws, hcw⟩, hcode, hini, hy, hlen, hl⟩, hx1, hx2⟩ := cw
  have hK : vx_Back l R p e below s args y 3 8 (PreOf R mc ms Pc) (PostOf Qc mc ms free) (vx_Post XC mc ms free) := vx_back (bytes := bytes) (maxL := maxL) (ret := ret) hM hp.1 hrc hrs hfr hlo hws hcw (fun a' U hW => word_at hW (Or.inl (by first | rfl | simp [Cond.onTables, Cond.keeps, Cond.steady])) hini)
  obtain ⟨hx, hb, hml, ho, -⟩ := S
  obtain ⟨-, ⟨cellB, hcB, hoB, hclB⟩, hPc⟩ := hp
  intro T hT X
  rcases vx_callVN X hx (C := C) (bytes := bytes) (maxL := maxL) (ret := ret) ho hl hx1 hx2 hcode hy hK (by rw [hT]; exact hcB) hoB hclB hg (hsize.trans hml.symm) (argsL := As) (rest := rest) (fun sig h => hn.trans (hlen sig h)) hstack hW (by rw [hb]; exact hdg)
    (fun vm₁ hW₁ => ⟨hf.1, hf.2, hPc (T.setVm vm₁) hT hW₁⟩) with ⟨v, vm₁, ⟨U', l2, c2, s2⟩, hW₁, X', ⟨g', mk, t, L, e1, e2, hq, h1, hL, h2, h3⟩, st⟩ | ⟨q, vm₁, ⟨U', l2, c2, s2⟩, hW₁, X', ⟨g', mk, t, L, E, ce, e1, e2, hq, hce, hcv, hcl, h1, hL, h2, h3⟩, st⟩
  · dsimp only [Pt.U, Pt.locs, Pt.cells, Pt.slots] at X' e1 e2 h1 h2 h3 st
    subst h1; subst h2; subst h3
    exact Or.inl ⟨v, (T.setVm vm₁).calling g' mk (Value.ref b :: As).toArray, t, U', L, hT, X', hL, e1, e2, hq, st⟩
  · dsimp only [Pt.U, Pt.locs, Pt.cells, Pt.slots] at X' e1 e2 h1 h2 h3 st hcl
    subst h1; subst h2; subst h3
    exact Or.inr ⟨q, (T.setVm vm₁).calling g' mk (Value.ref b :: As).toArray, t, U', L, E, ce, hT, X', hL, e1, e2, hq, hce, hcv, vx_cls hW₁ hcl, st⟩
theorem vx_runSN {y : MethodName} {bytes cc : ByteArray} {maxL nL mc ms n index : Nat} {ret : Option FieldType} {ws : List Cond} {rm : Room} {Pc : Array Value → State → Prop} {Qc : Array Value → State → Outcome → State → Prop} {XC : String → State → State → Prop} {free : Addr → Prop} {Ts : List Cond} {own host : String} {As rest : List Value} {g : JFrame}
    (S : CallFix p m c cc nL s args Ts own) (hM : vx_Met l y ws rm Pc Qc XC mc ms free) (cw : va_CN R s args own index y host bytes maxL ret ws rm mc ms n ∧ (Cond.static y).before args s = true ∧ True) (hp : PreS s H Pc As)
    (hg : g.method = m) (hn : As.length = n) (hsize : g.locals.size = nL) (hstack : g.stack = As.reverse ++ rest) (hW : 2 * g.monitorRoom + (rest.map fun v => v.category).sum ≤ 8) (hdg : decode cc g.pc = .ok (.invokestatic index, 3)) (hf : cells + mc ≤ R.cells ∧ slots + ms ≤ R.slots) :
    vx_Run p l e R s m args below meth c H locs cells slots mc ms g rest (Qc As.toArray) XC free := by
  obtain ⟨⟨⟨hrc, hrs, hfr, hlo, hws, hcw⟩, hcode, hini, hy, hlen, hl⟩, hx1, hx2⟩ := cw
  have hK : vx_Back l R p e below s args y 3 8 (PreOf R mc ms Pc) (PostOf Qc mc ms free) (vx_Post XC mc ms free) := vx_back (bytes := bytes) (maxL := maxL) (ret := ret) hM hp.1 hrc hrs hfr hlo hws hcw (fun a' U hW => word_at hW (Or.inl (by first | rfl | simp [Cond.onTables, Cond.keeps, Cond.steady])) hini)
  obtain ⟨hx, hb, hml, ho, -⟩ := S
  have hPc := hp.2
  intro T hT X
  rcases vx_callSN X hx (bytes := bytes) (maxL := maxL) (ret := ret) ho hl hx1 hini hcode hy hK hg (hsize.trans hml.symm) (argsL := As) (rest := rest) (fun sig h => hn.trans (hlen sig h)) hstack hW (by rw [hb]; exact hdg)
    (fun vm₁ hW₁ => ⟨hf.1, hf.2, hPc (T.setVm vm₁) hT hW₁⟩) with ⟨v, vm₁, ⟨U', l2, c2, s2⟩, hW₁, X', ⟨g', mk, t, L, e1, e2, hq, h1, hL, h2, h3⟩, st⟩ | ⟨q, vm₁, ⟨U', l2, c2, s2⟩, hW₁, X', ⟨g', mk, t, L, E, ce, e1, e2, hq, hce, hcv, hcl, h1, hL, h2, h3⟩, st⟩
  · dsimp only [Pt.U, Pt.locs, Pt.cells, Pt.slots] at X' e1 e2 h1 h2 h3 st
    subst h1; subst h2; subst h3
    exact Or.inl ⟨v, (T.setVm vm₁).calling g' mk As.toArray, t, U', L, hT, X', hL, e1, e2, hq, st⟩
  · dsimp only [Pt.U, Pt.locs, Pt.cells, Pt.slots] at X' e1 e2 h1 h2 h3 st hcl
    subst h1; subst h2; subst h3
    exact Or.inr ⟨q, (T.setVm vm₁).calling g' mk As.toArray, t, U', L, E, ce, hT, X', hL, e1, e2, hq, hce, hcv, vx_cls hW₁ hcl, st⟩
end
/-! ===== END ===== -/
/-! ===== BEGIN calls by an interface of methods that may throw (vx_callIF, vx_runF follow va_callIF, va_runF of this kit) ===== -/
section
variable {p : Program} {l : Launch} {e : Env} {R : Room} {s : State} {m : MethodId} {args : Array Value} {below : List Frame} {meth : Method} {c : Code} {H : Heap} {locs : List Loc} {cells slots : Nat} {Q : State → Prop}
variable {mc ms : Nat} {free : Addr → Prop} {A0 A1 : Nat → Prop} {H0 : Heap} {a : Array Value} {pc : Nat} {ls : Array Slot} {st0 rest : List Value}
def vx_Run5 (p : Program) (l : Launch) (e : Env) (R : Room) (s : State) (m : MethodId) (args : Array Value) (below : List Frame) (meth : Method) (c : Code) (H : Heap) (locs : List Loc) (cells slots mc ms : Nat) (g : JFrame) (rest : List Value) (Qa : State → Outcome → State → Prop) (XC : String → State → State → Prop) (free : Addr → Prop) : Prop :=
  ∀ T : State, T.heap = H → Stand p l e R s m args below meth c T locs cells slots →
    (∃ (v : Option Value) (st₀ t T' : State) (L : List Loc), st₀.heap = H ∧ Stand p l e R s m args below meth c T' (locs ++ L) (cells + mc) (slots + ms) ∧ (∀ q ∈ L, free q.base) ∧ T'.heap = t.heap ∧ T'.vm = t.vm ∧ Qa st₀ (.returned v) t ∧
      Goes p e below T g T' { g with pc := g.pc + 5, stack := v.toList ++ rest }) ∨
    (∃ (q : Addr) (st₀ t T' : State) (L : List Loc) (E : String) (ce : Cell), st₀.heap = H ∧ Stand p l e R s m args below meth c T' (locs ++ L) (cells + mc) (slots + ms) ∧ (∀ z ∈ L, free z.base) ∧ T'.heap = t.heap ∧ T'.vm = t.vm ∧ XC E st₀ t ∧ t.heap[q]? = some ce ∧ ce.vm = .none ∧ s.vm.findClass E = some ce.cls ∧
      Steps p.tables e below (T.setTop g) ((T'.setTop { g with stack := rest }).pushFrame (.throwing q)))
theorem vx_callIF {T : State} (X : Stand p l e R s m args below meth c T locs cells slots) (hexec : p.tables.exec = Jvm.exec) {own C : String} {index count : Nat} {x y : MethodName} {bytes : ByteArray} {maxL : Nat} {ret : Option FieldType}
    (hown : s.vm.findClass own = some m.cls) (hlink : (Cond.methodLink own index x).before args s = true) (hdecl : (Cond.declares x).before args s = true) (hface : (Cond.interfaceMethod x.cls x.cls x.name x.desc).before args s = true)
    (hsel : (Cond.selects C x y).before args s = true) (hinst : (Cond.instanceMethod y).before args s = true) (hpub : (Cond.publicMethod y).before args s = true) (hunh : (Cond.unhidden C x.name x.desc).before args s = true)
    (hcast : (Cond.castable C x.cls).before args s = true) (hcode : (Cond.code y bytes maxL ret).before args s = true) (hx : x.cls ≠ "java/lang/invoke/MethodHandle" ∧ x.cls ≠ "java/lang/invoke/VarHandle")
    {W9 : Nat} {Pre : Pt → Array Value → Prop} {Post : Pt → Array Value → Option Value → Pt → Prop} {PostX : Pt → Array Value → Addr → Pt → Prop} (hK : vx_Back l R p e below s args y 5 W9 Pre Post PostX)
    {b : Addr} {cellB : Cell} {kB : Class} (hcell : T.heap[b]? = some cellB) (hobj : cellB.vm.isStatics = false) (hcls : s.vm.findClass C = some cellB.cls) (hkB : s.vm.classes[cellB.cls]? = some kB)
    {g : JFrame} (hg : g.method = m) (hsize : g.locals.size = c.maxLocals) {argsL rest : List Value} (hlen : ∀ sig, parseMethodDescriptor x.desc = some sig → argsL.length = sig.parameters.length)
    (hstack : g.stack = argsL.reverse ++ .ref b :: rest) (hW : 2 * g.monitorRoom + (rest.map fun v => v.category).sum ≤ W9) (hdg : decode c.code g.pc = .ok (.invokeinterface index count, 5))
    (hpre : ∀ vm₁, s.WarmedH vm₁ → Pre ⟨T.setVm vm₁, locs, cells, slots⟩ (Value.ref b :: argsL).toArray) :
    (∃ (v : Option Value) (vm₁ : Vm) (B : Pt), s.WarmedH vm₁ ∧ Stand p l e R s m args below meth c B.U B.locs B.cells B.slots ∧ Post ⟨T.setVm vm₁, locs, cells, slots⟩ (Value.ref b :: argsL).toArray v B ∧
      ∀ target, Steps p.tables e below (B.U.setTop { g with pc := g.pc + 5, stack := v.toList ++ rest }) target → Steps p.tables e below (T.setTop g) target) ∨
    (∃ (q : Addr) (vm₁ : Vm) (B : Pt), s.WarmedH vm₁ ∧ Stand p l e R s m args below meth c B.U B.locs B.cells B.slots ∧ PostX ⟨T.setVm vm₁, locs, cells, slots⟩ (Value.ref b :: argsL).toArray q B ∧
      Steps p.tables e below (T.setTop g) ((B.U.setTop { g with stack := rest }).pushFrame (.throwing q))) := by
  obtain ⟨r0, r, hn, hrm, hstR, hsigR⟩ := Cond.declares_spec hdecl
  obtain ⟨cL, kL, r1, hcL, hkL, hiL, hfoundL, hn1⟩ := Cond.interfaceMethod_spec hface
  cases hn.symm.trans hn1
  have hr0cls : r0.cls = cL := Option.some.inj ((findClass_of_methodNamed hn).symm.trans hcL)
  obtain ⟨hnameR, hdescR⟩ := name_of_methodNamed hn hrm
  obtain ⟨mk, methM, hnamed, hmethM, -, habM⟩ := Cond.instanceMethod_spec hinst
  obtain ⟨c2, r2, m2, q1, q2, q3, q4, -⟩ := Cond.selects_spec hsel
  cases hcls.symm.trans q1
  cases hfoundL.symm.trans q2
  cases hnamed.symm.trans q3
  have hselP : selectMethod e.platform s.vm cellB.cls r0 = .method mk := by rw [Launch.admits_selectMethod X.admits]; exact q4
  have hpubM : hasFlag methM.accessFlags Acc.public_ = true := Cond.publicMethod_spec hnamed hmethM hpub
  have hway : ((cellB.cls :: s.vm.superclasses cellB.cls).any fun k => (declaredIn s.vm r.name r.desc k).any fun (_, z) => z.isPrivate || z.isStatic) = false := by
    rw [hnameR, hdescR]; exact Cond.unhidden_spec hcls hunh
  obtain ⟨c3, t3, w1, w2, w3⟩ := Cond.castable_spec hcast
  cases hcls.symm.trans w1
  cases hcL.symm.trans w2
  obtain ⟨vm₁, X₁, hstep₁⟩ := X.invokeinterface hexec hown hlink hn hrm hstR (by rw [hr0cls]; exact hkL) hiL hx (a := b) (cell := cellB) (kcell := kB) hcell
    (fun z h => by rw [h] at hobj; cases hobj) hkB (by rw [hr0cls]; exact w3) hselP hmethM hway hpubM habM (g := g) hg (argsL := argsL) (rest := rest) (hlen _ hsigR) hstack hdg
  rcases hK m meth c ⟨T.setVm vm₁, locs, cells, slots⟩ { g with stack := rest } (.invokeinterface index count) mk (Value.ref b :: argsL).toArray X₁ hg hsize hdg hW (X₁.named hnamed) (hpre vm₁ X₁.warmed) with ⟨v, B, X', hpost, hsteps⟩ | ⟨q, B, X', hpost, hsteps⟩
  · exact Or.inl ⟨v, vm₁, B, X₁.warmed, X', hpost, fun target h => hstep₁ _ fun acts => by rw [doInvoke_state]; exact hsteps.trans h⟩
  · exact Or.inr ⟨q, vm₁, B, X₁.warmed, X', hpost, hstep₁ _ fun acts => by rw [doInvoke_state]; exact hsteps⟩
theorem vx_runF {x y : MethodName} {bytes cc : ByteArray} {maxL nL mc ms n index count : Nat} {ret : Option FieldType} {ws : List Cond} {rm : Room} {Pc : Array Value → State → Prop} {Qc : Array Value → State → Outcome → State → Prop} {XC : String → State → State → Prop} {free : Addr → Prop} {Ts : List Cond} {own C : String} {cC : ClassId} {b : Addr} {As rest : List Value} {g : JFrame}
    (hat : ClassAt s C cC) (S : CallFix p m c cc nL s args Ts own) (hM : vx_Met l y ws rm Pc Qc XC mc ms free) (cw : va_CI R s args own C index x y bytes maxL ret ws rm mc ms n) (hp : PreV s H C b Pc As)
    (hg : g.method = m) (hn : As.length = n) (hsize : g.locals.size = nL) (hstack : g.stack = As.reverse ++ .ref b :: rest) (hW : 2 * g.monitorRoom + (rest.map fun v => v.category).sum ≤ 8) (hdg : decode cc g.pc = .ok (.invokeinterface index count, 5)) (hf : cells + mc ≤ R.cells ∧ slots + ms ≤ R.slots) :
    vx_Run5 p l e R s m args below meth c H locs cells slots mc ms g rest (Qc (Value.ref b :: As).toArray) XC free := by
  obtain ⟨hrc, hrs, hfr, hlo, hws, hcw⟩ := cw.back
  have hini := cw.init
  have hK : vx_Back l R p e below s args y 5 8 (PreOf R mc ms Pc) (PostOf Qc mc ms free) (vx_Post XC mc ms free) := vx_back (bytes := bytes) (maxL := maxL) (ret := ret) hM hp.1 hrc hrs hfr hlo hws hcw (fun a' U hW => word_at hW (Or.inl (by first | rfl | simp [Cond.onTables, Cond.keeps, Cond.steady])) hini)
  obtain ⟨hx, hb, hml, ho, -⟩ := S
  obtain ⟨-, ⟨cellB, hcB, hoB, hclB⟩, hPc⟩ := hp
  obtain ⟨hfc, kB, hkB, -⟩ := hat
  cases hfc.symm.trans hclB
  intro T hT X
  rcases vx_callIF X hx (C := C) (bytes := bytes) (maxL := maxL) (ret := ret) ho cw.link cw.decl cw.face cw.sel cw.inst cw.pub cw.unh cw.cast cw.code cw.notMH hK (by rw [hT]; exact hcB) hoB hclB hkB hg (hsize.trans hml.symm) (argsL := As) (rest := rest) (fun sig h => hn.trans (cw.len sig h)) hstack hW (by rw [hb]; exact hdg)
    (fun vm₁ hW₁ => ⟨hf.1, hf.2, hPc (T.setVm vm₁) hT hW₁⟩) with ⟨v, vm₁, ⟨U', l2, c2, s2⟩, hW₁, X', ⟨g', mk, t, L, e1, e2, hq, h1, hL, h2, h3⟩, st⟩ | ⟨q, vm₁, ⟨U', l2, c2, s2⟩, hW₁, X', ⟨g', mk, t, L, E, ce, e1, e2, hq, hce, hcv, hcl, h1, hL, h2, h3⟩, st⟩
  · dsimp only [Pt.U, Pt.locs, Pt.cells, Pt.slots] at X' e1 e2 h1 h2 h3 st
    subst h1; subst h2; subst h3
    exact Or.inl ⟨v, (T.setVm vm₁).calling g' mk (Value.ref b :: As).toArray, t, U', L, hT, X', hL, e1, e2, hq, st⟩
  · dsimp only [Pt.U, Pt.locs, Pt.cells, Pt.slots] at X' e1 e2 h1 h2 h3 st hcl
    subst h1; subst h2; subst h3
    exact Or.inr ⟨q, (T.setVm vm₁).calling g' mk (Value.ref b :: As).toArray, t, U', L, E, ce, hT, X', hL, e1, e2, hq, hce, hcv, vx_cls hW₁ hcl, st⟩
theorem vx_callFv {S SX : Type} {post : S → Prop} {px : SX → Prop} {B : S → State → Prop} {BX : String → SX → State → Prop} {AX : Nat → Prop} (hr : vx_Run5 p l e R s m args below meth c H locs cells slots mc ms (F0 m pc ls st0) rest (va_Qv post B A1 a) (vx_X px BX AX) free) (hS : va_S A0 H0 H locs) (hA : ∀ q, q < H.size → A1 q → A0 q) (hf : ∀ q, free q → A0 q) (hAX : ∀ q, q < H.size → AX q → A0 q)
    (kx : ∀ (E : String) (ce : Cell) (q9 : Addr) (u : SX) (t : State) (H1 : Heap) (locs1 : List Loc), t.heap = H1 → s.vm.Alike t.vm → px u → BX E u t → H.size ≤ H1.size → (∀ q : Nat, q < H.size → ¬ AX q → H1[q]? = H[q]?) → va_S A0 H0 H1 locs1 → H1[q9]? = some ce → ce.vm = .none → s.vm.findClass E = some ce.cls → vx_W p l e R s m args below meth c H1 locs1 (cells + mc) (slots + ms) Q (F0 m pc ls rest) q9)
    (kk : ∀ (u : S) (t : State) (H1 : Heap) (locs1 : List Loc), t.heap = H1 → s.vm.Alike t.vm → post u → B u t → H.size ≤ H1.size → (∀ q : Nat, q < H.size → ¬ A1 q → H1[q]? = H[q]?) → va_S A0 H0 H1 locs1 → W p l e R s m args below meth c H1 locs1 (cells + mc) (slots + ms) Q (F0 m (pc + 5) ls (rest))) : W p l e R s m args below meth c H locs cells slots Q (F0 m pc ls st0) := by
  intro T hT X
  rcases hr T hT X with ⟨v, st₀, t, T', L, h0, X', hL, e1, e2, ⟨⟨u, hv, hp, hb⟩, hF⟩, st⟩ | ⟨q, st₀, t, T', L, E, ce, h0, X', hL, e1, e2, ⟨u, hp, hb, hF⟩, hce, hcv, hcl, st⟩
  · cases hv
    obtain ⟨k1, k2, k3⟩ := vx_keep h0 e1 hS hA hf hL hF
    obtain ⟨t2, a1, b1⟩ := kk u t T'.heap (locs ++ L) e1.symm (by rw [← e2]; exact X'.warmed.alike) hp hb k1 k2 k3 T' rfl X'
    exact ⟨t2, st t2 a1, b1⟩
  · obtain ⟨k1, k2, k3⟩ := vx_keep h0 e1 hS hAX hf hL hF
    obtain ⟨t2, a1, b1⟩ := kx E ce q u t T'.heap (locs ++ L) e1.symm (by rw [← e2]; exact X'.warmed.alike) hp hb k1 k2 k3 (by rw [e1]; exact hce) hcv hcl T' rfl X'
    exact ⟨t2, st.trans a1, b1⟩
theorem vx_callFi {S SX : Type} {post : Int32 → S → Prop} {px : SX → Prop} {B : S → State → Prop} {BX : String → SX → State → Prop} {AX : Nat → Prop} (hr : vx_Run5 p l e R s m args below meth c H locs cells slots mc ms (F0 m pc ls st0) rest (va_Qi post B A1 a) (vx_X px BX AX) free) (hS : va_S A0 H0 H locs) (hA : ∀ q, q < H.size → A1 q → A0 q) (hf : ∀ q, free q → A0 q) (hAX : ∀ q, q < H.size → AX q → A0 q)
    (kx : ∀ (E : String) (ce : Cell) (q9 : Addr) (u : SX) (t : State) (H1 : Heap) (locs1 : List Loc), t.heap = H1 → s.vm.Alike t.vm → px u → BX E u t → H.size ≤ H1.size → (∀ q : Nat, q < H.size → ¬ AX q → H1[q]? = H[q]?) → va_S A0 H0 H1 locs1 → H1[q9]? = some ce → ce.vm = .none → s.vm.findClass E = some ce.cls → vx_W p l e R s m args below meth c H1 locs1 (cells + mc) (slots + ms) Q (F0 m pc ls rest) q9)
    (kk : ∀ (r : Int32) (u : S) (t : State) (H1 : Heap) (locs1 : List Loc), t.heap = H1 → s.vm.Alike t.vm → post r u → B u t → H.size ≤ H1.size → (∀ q : Nat, q < H.size → ¬ A1 q → H1[q]? = H[q]?) → va_S A0 H0 H1 locs1 → W p l e R s m args below meth c H1 locs1 (cells + mc) (slots + ms) Q (F0 m (pc + 5) ls (.int r :: rest))) : W p l e R s m args below meth c H locs cells slots Q (F0 m pc ls st0) := by
  intro T hT X
  rcases hr T hT X with ⟨v, st₀, t, T', L, h0, X', hL, e1, e2, ⟨⟨r, u, hv, hp, hb⟩, hF⟩, st⟩ | ⟨q, st₀, t, T', L, E, ce, h0, X', hL, e1, e2, ⟨u, hp, hb, hF⟩, hce, hcv, hcl, st⟩
  · cases hv
    obtain ⟨k1, k2, k3⟩ := vx_keep h0 e1 hS hA hf hL hF
    obtain ⟨t2, a1, b1⟩ := kk r u t T'.heap (locs ++ L) e1.symm (by rw [← e2]; exact X'.warmed.alike) hp hb k1 k2 k3 T' rfl X'
    exact ⟨t2, st t2 a1, b1⟩
  · obtain ⟨k1, k2, k3⟩ := vx_keep h0 e1 hS hAX hf hL hF
    obtain ⟨t2, a1, b1⟩ := kx E ce q u t T'.heap (locs ++ L) e1.symm (by rw [← e2]; exact X'.warmed.alike) hp hb k1 k2 k3 (by rw [e1]; exact hce) hcv hcl T' rfl X'
    exact ⟨t2, st.trans a1, b1⟩
theorem vx_callFl {S SX : Type} {post : Int64 → S → Prop} {px : SX → Prop} {B : S → State → Prop} {BX : String → SX → State → Prop} {AX : Nat → Prop} (hr : vx_Run5 p l e R s m args below meth c H locs cells slots mc ms (F0 m pc ls st0) rest (va_Ql post B A1 a) (vx_X px BX AX) free) (hS : va_S A0 H0 H locs) (hA : ∀ q, q < H.size → A1 q → A0 q) (hf : ∀ q, free q → A0 q) (hAX : ∀ q, q < H.size → AX q → A0 q)
    (kx : ∀ (E : String) (ce : Cell) (q9 : Addr) (u : SX) (t : State) (H1 : Heap) (locs1 : List Loc), t.heap = H1 → s.vm.Alike t.vm → px u → BX E u t → H.size ≤ H1.size → (∀ q : Nat, q < H.size → ¬ AX q → H1[q]? = H[q]?) → va_S A0 H0 H1 locs1 → H1[q9]? = some ce → ce.vm = .none → s.vm.findClass E = some ce.cls → vx_W p l e R s m args below meth c H1 locs1 (cells + mc) (slots + ms) Q (F0 m pc ls rest) q9)
    (kk : ∀ (r : Int64) (u : S) (t : State) (H1 : Heap) (locs1 : List Loc), t.heap = H1 → s.vm.Alike t.vm → post r u → B u t → H.size ≤ H1.size → (∀ q : Nat, q < H.size → ¬ A1 q → H1[q]? = H[q]?) → va_S A0 H0 H1 locs1 → W p l e R s m args below meth c H1 locs1 (cells + mc) (slots + ms) Q (F0 m (pc + 5) ls (.long r :: rest))) : W p l e R s m args below meth c H locs cells slots Q (F0 m pc ls st0) := by
  intro T hT X
  rcases hr T hT X with ⟨v, st₀, t, T', L, h0, X', hL, e1, e2, ⟨⟨r, u, hv, hp, hb⟩, hF⟩, st⟩ | ⟨q, st₀, t, T', L, E, ce, h0, X', hL, e1, e2, ⟨u, hp, hb, hF⟩, hce, hcv, hcl, st⟩
  · cases hv
    obtain ⟨k1, k2, k3⟩ := vx_keep h0 e1 hS hA hf hL hF
    obtain ⟨t2, a1, b1⟩ := kk r u t T'.heap (locs ++ L) e1.symm (by rw [← e2]; exact X'.warmed.alike) hp hb k1 k2 k3 T' rfl X'
    exact ⟨t2, st t2 a1, b1⟩
  · obtain ⟨k1, k2, k3⟩ := vx_keep h0 e1 hS hAX hf hL hF
    obtain ⟨t2, a1, b1⟩ := kx E ce q u t T'.heap (locs ++ L) e1.symm (by rw [← e2]; exact X'.warmed.alike) hp hb k1 k2 k3 (by rw [e1]; exact hce) hcv hcl T' rfl X'
    exact ⟨t2, st.trans a1, b1⟩
theorem vx_callFf {S SX : Type} {post : UInt32 → S → Prop} {px : SX → Prop} {B : S → State → Prop} {BX : String → SX → State → Prop} {AX : Nat → Prop} (hr : vx_Run5 p l e R s m args below meth c H locs cells slots mc ms (F0 m pc ls st0) rest (va_Qf post B A1 a) (vx_X px BX AX) free) (hS : va_S A0 H0 H locs) (hA : ∀ q, q < H.size → A1 q → A0 q) (hf : ∀ q, free q → A0 q) (hAX : ∀ q, q < H.size → AX q → A0 q)
    (kx : ∀ (E : String) (ce : Cell) (q9 : Addr) (u : SX) (t : State) (H1 : Heap) (locs1 : List Loc), t.heap = H1 → s.vm.Alike t.vm → px u → BX E u t → H.size ≤ H1.size → (∀ q : Nat, q < H.size → ¬ AX q → H1[q]? = H[q]?) → va_S A0 H0 H1 locs1 → H1[q9]? = some ce → ce.vm = .none → s.vm.findClass E = some ce.cls → vx_W p l e R s m args below meth c H1 locs1 (cells + mc) (slots + ms) Q (F0 m pc ls rest) q9)
    (kk : ∀ (r : UInt32) (u : S) (t : State) (H1 : Heap) (locs1 : List Loc), t.heap = H1 → s.vm.Alike t.vm → post r u → B u t → H.size ≤ H1.size → (∀ q : Nat, q < H.size → ¬ A1 q → H1[q]? = H[q]?) → va_S A0 H0 H1 locs1 → W p l e R s m args below meth c H1 locs1 (cells + mc) (slots + ms) Q (F0 m (pc + 5) ls (.float r :: rest))) : W p l e R s m args below meth c H locs cells slots Q (F0 m pc ls st0) := by
  intro T hT X
  rcases hr T hT X with ⟨v, st₀, t, T', L, h0, X', hL, e1, e2, ⟨⟨r, u, hv, hp, hb⟩, hF⟩, st⟩ | ⟨q, st₀, t, T', L, E, ce, h0, X', hL, e1, e2, ⟨u, hp, hb, hF⟩, hce, hcv, hcl, st⟩
  · cases hv
    obtain ⟨k1, k2, k3⟩ := vx_keep h0 e1 hS hA hf hL hF
    obtain ⟨t2, a1, b1⟩ := kk r u t T'.heap (locs ++ L) e1.symm (by rw [← e2]; exact X'.warmed.alike) hp hb k1 k2 k3 T' rfl X'
    exact ⟨t2, st t2 a1, b1⟩
  · obtain ⟨k1, k2, k3⟩ := vx_keep h0 e1 hS hAX hf hL hF
    obtain ⟨t2, a1, b1⟩ := kx E ce q u t T'.heap (locs ++ L) e1.symm (by rw [← e2]; exact X'.warmed.alike) hp hb k1 k2 k3 (by rw [e1]; exact hce) hcv hcl T' rfl X'
    exact ⟨t2, st.trans a1, b1⟩
theorem vx_callFd {S SX : Type} {post : UInt64 → S → Prop} {px : SX → Prop} {B : S → State → Prop} {BX : String → SX → State → Prop} {AX : Nat → Prop} (hr : vx_Run5 p l e R s m args below meth c H locs cells slots mc ms (F0 m pc ls st0) rest (va_Qd post B A1 a) (vx_X px BX AX) free) (hS : va_S A0 H0 H locs) (hA : ∀ q, q < H.size → A1 q → A0 q) (hf : ∀ q, free q → A0 q) (hAX : ∀ q, q < H.size → AX q → A0 q)
    (kx : ∀ (E : String) (ce : Cell) (q9 : Addr) (u : SX) (t : State) (H1 : Heap) (locs1 : List Loc), t.heap = H1 → s.vm.Alike t.vm → px u → BX E u t → H.size ≤ H1.size → (∀ q : Nat, q < H.size → ¬ AX q → H1[q]? = H[q]?) → va_S A0 H0 H1 locs1 → H1[q9]? = some ce → ce.vm = .none → s.vm.findClass E = some ce.cls → vx_W p l e R s m args below meth c H1 locs1 (cells + mc) (slots + ms) Q (F0 m pc ls rest) q9)
    (kk : ∀ (r : UInt64) (u : S) (t : State) (H1 : Heap) (locs1 : List Loc), t.heap = H1 → s.vm.Alike t.vm → post r u → B u t → H.size ≤ H1.size → (∀ q : Nat, q < H.size → ¬ A1 q → H1[q]? = H[q]?) → va_S A0 H0 H1 locs1 → W p l e R s m args below meth c H1 locs1 (cells + mc) (slots + ms) Q (F0 m (pc + 5) ls (.double r :: rest))) : W p l e R s m args below meth c H locs cells slots Q (F0 m pc ls st0) := by
  intro T hT X
  rcases hr T hT X with ⟨v, st₀, t, T', L, h0, X', hL, e1, e2, ⟨⟨r, u, hv, hp, hb⟩, hF⟩, st⟩ | ⟨q, st₀, t, T', L, E, ce, h0, X', hL, e1, e2, ⟨u, hp, hb, hF⟩, hce, hcv, hcl, st⟩
  · cases hv
    obtain ⟨k1, k2, k3⟩ := vx_keep h0 e1 hS hA hf hL hF
    obtain ⟨t2, a1, b1⟩ := kk r u t T'.heap (locs ++ L) e1.symm (by rw [← e2]; exact X'.warmed.alike) hp hb k1 k2 k3 T' rfl X'
    exact ⟨t2, st t2 a1, b1⟩
  · obtain ⟨k1, k2, k3⟩ := vx_keep h0 e1 hS hAX hf hL hF
    obtain ⟨t2, a1, b1⟩ := kx E ce q u t T'.heap (locs ++ L) e1.symm (by rw [← e2]; exact X'.warmed.alike) hp hb k1 k2 k3 (by rw [e1]; exact hce) hcv hcl T' rfl X'
    exact ⟨t2, st.trans a1, b1⟩
end
/-! ===== END ===== -/
/-! ===== BEGIN by an interface, a method with a table of its own that may throw (follows va_callIFW, va_runFW) ===== -/
section
variable {p : Program} {l : Launch} {e : Env} {R : Room} {s : State} {m : MethodId} {args : Array Value} {below : List Frame} {meth : Method} {c : Code} {H : Heap} {locs : List Loc} {cells slots : Nat}
theorem vx_callIFW {T : State} (X : Stand p l e R s m args below meth c T locs cells slots) (hexec : p.tables.exec = Jvm.exec) {own C : String} {index count : Nat} {x y : MethodName} {bytes : ByteArray} {maxL : Nat} {ret : Option FieldType} {hh : List (Nat × Nat × Nat × Nat)}
    (hown : s.vm.findClass own = some m.cls) (hlink : (Cond.methodLink own index x).before args s = true) (hdecl : (Cond.declares x).before args s = true) (hface : (Cond.interfaceMethod x.cls x.cls x.name x.desc).before args s = true)
    (hsel : (Cond.selects C x y).before args s = true) (hinst : (Cond.instanceMethod y).before args s = true) (hpub : (Cond.publicMethod y).before args s = true) (hunh : (Cond.unhidden C x.name x.desc).before args s = true)
    (hcast : (Cond.castable C x.cls).before args s = true) (hcode : (Cond.codeWith y bytes maxL ret hh).before args s = true) (hx : x.cls ≠ "java/lang/invoke/MethodHandle" ∧ x.cls ≠ "java/lang/invoke/VarHandle")
    {W : Nat} {Pre : Pt → Array Value → Prop} {Post : Pt → Array Value → Option Value → Pt → Prop} {PostX : Pt → Array Value → Addr → Pt → Prop} (hK : vx_Back l R p e below s args y 5 W Pre Post PostX)
    {b : Addr} {cellB : Cell} {kB : Class} (hcell : T.heap[b]? = some cellB) (hobj : cellB.vm.isStatics = false) (hcls : s.vm.findClass C = some cellB.cls) (hkB : s.vm.classes[cellB.cls]? = some kB)
    {g : JFrame} (hg : g.method = m) (hsize : g.locals.size = c.maxLocals) {argsL rest : List Value} (hlen : ∀ sig, parseMethodDescriptor x.desc = some sig → argsL.length = sig.parameters.length)
    (hstack : g.stack = argsL.reverse ++ .ref b :: rest) (hW : 2 * g.monitorRoom + (rest.map fun v => v.category).sum ≤ W) (hdg : decode c.code g.pc = .ok (.invokeinterface index count, 5))
    (hpre : ∀ vm₁, s.WarmedH vm₁ → Pre ⟨T.setVm vm₁, locs, cells, slots⟩ (Value.ref b :: argsL).toArray) :
    (∃ (v : Option Value) (vm₁ : Vm) (B : Pt), s.WarmedH vm₁ ∧ Stand p l e R s m args below meth c B.U B.locs B.cells B.slots ∧ Post ⟨T.setVm vm₁, locs, cells, slots⟩ (Value.ref b :: argsL).toArray v B ∧
      ∀ target, Steps p.tables e below (B.U.setTop { g with pc := g.pc + 5, stack := v.toList ++ rest }) target → Steps p.tables e below (T.setTop g) target) ∨
    (∃ (q : Addr) (vm₁ : Vm) (B : Pt), s.WarmedH vm₁ ∧ Stand p l e R s m args below meth c B.U B.locs B.cells B.slots ∧ PostX ⟨T.setVm vm₁, locs, cells, slots⟩ (Value.ref b :: argsL).toArray q B ∧
      Steps p.tables e below (T.setTop g) ((B.U.setTop { g with stack := rest }).pushFrame (.throwing q))) := by
  obtain ⟨r0, r, hn, hrm, hstR, hsigR⟩ := Cond.declares_spec hdecl
  obtain ⟨cL, kL, r1, hcL, hkL, hiL, hfoundL, hn1⟩ := Cond.interfaceMethod_spec hface
  cases hn.symm.trans hn1
  have hr0cls : r0.cls = cL := Option.some.inj ((findClass_of_methodNamed hn).symm.trans hcL)
  obtain ⟨hnameR, hdescR⟩ := name_of_methodNamed hn hrm
  obtain ⟨mk, methM, hnamed, hmethM, -, habM⟩ := Cond.instanceMethod_spec hinst
  obtain ⟨c2, r2, m2, q1, q2, q3, q4, -⟩ := Cond.selects_spec hsel
  cases hcls.symm.trans q1
  cases hfoundL.symm.trans q2
  cases hnamed.symm.trans q3
  have hselP : selectMethod e.platform s.vm cellB.cls r0 = .method mk := by rw [Launch.admits_selectMethod X.admits]; exact q4
  have hpubM : hasFlag methM.accessFlags Acc.public_ = true := Cond.publicMethod_spec hnamed hmethM hpub
  have hway : ((cellB.cls :: s.vm.superclasses cellB.cls).any fun k => (declaredIn s.vm r.name r.desc k).any fun (_, z) => z.isPrivate || z.isStatic) = false := by
    rw [hnameR, hdescR]; exact Cond.unhidden_spec hcls hunh
  obtain ⟨c3, t3, w1, w2, w3⟩ := Cond.castable_spec hcast
  cases hcls.symm.trans w1
  cases hcL.symm.trans w2
  obtain ⟨vm₁, X₁, hstep₁⟩ := X.invokeinterface hexec hown hlink hn hrm hstR (by rw [hr0cls]; exact hkL) hiL hx (a := b) (cell := cellB) (kcell := kB) hcell
    (fun z h => by rw [h] at hobj; cases hobj) hkB (by rw [hr0cls]; exact w3) hselP hmethM hway hpubM habM (g := g) hg (argsL := argsL) (rest := rest) (hlen _ hsigR) hstack hdg
  rcases hK m meth c ⟨T.setVm vm₁, locs, cells, slots⟩ { g with stack := rest } (.invokeinterface index count) mk (Value.ref b :: argsL).toArray X₁ hg hsize hdg hW (X₁.named hnamed) (hpre vm₁ X₁.warmed) with ⟨v, B, X', hpost, hsteps⟩ | ⟨q, B, X', hpost, hsteps⟩
  · exact Or.inl ⟨v, vm₁, B, X₁.warmed, X', hpost, fun target h => hstep₁ _ fun acts => by rw [doInvoke_state]; exact hsteps.trans h⟩
  · exact Or.inr ⟨q, vm₁, B, X₁.warmed, X', hpost, hstep₁ _ fun acts => by rw [doInvoke_state]; exact hsteps⟩
theorem vx_runFW {x y : MethodName} {bytes cc : ByteArray} {maxL nL mc ms n index count : Nat} {ret : Option FieldType} {hh : List (Nat × Nat × Nat × Nat)} {ws : List Cond} {rm : Room} {Pc : Array Value → State → Prop} {Qc : Array Value → State → Outcome → State → Prop} {XC : String → State → State → Prop} {free : Addr → Prop} {Ts : List Cond} {own C : String} {cC : ClassId} {b : Addr} {As rest : List Value} {g : JFrame}
    (hat : ClassAt s C cC) (S : CallFix p m c cc nL s args Ts own) (hM : vx_Met l y ws rm Pc Qc XC mc ms free) (cw : va_CIW R s args own C index x y bytes maxL ret hh ws rm mc ms n) (hp : PreV s H C b Pc As)
    (hg : g.method = m) (hn : As.length = n) (hsize : g.locals.size = nL) (hstack : g.stack = As.reverse ++ .ref b :: rest) (hW : 2 * g.monitorRoom + (rest.map fun v => v.category).sum ≤ 8) (hdg : decode cc g.pc = .ok (.invokeinterface index count, 5)) (hf : cells + mc ≤ R.cells ∧ slots + ms ≤ R.slots) :
    vx_Run5 p l e R s m args below meth c H locs cells slots mc ms g rest (Qc (Value.ref b :: As).toArray) XC free := by
  obtain ⟨hrc, hrs, hfr, hlo, hws, hcw⟩ := cw.back
  have hini := cw.init
  have hK : vx_Back l R p e below s args y 5 8 (PreOf R mc ms Pc) (PostOf Qc mc ms free) (vx_Post XC mc ms free) := vx_backW (hh := hh) (bytes := bytes) (maxL := maxL) (ret := ret) hM hp.1 hrc hrs hfr hlo hws hcw (fun a' U hW => word_at hW (Or.inl (by first | rfl | simp [Cond.onTables, Cond.keeps, Cond.steady])) hini)
  obtain ⟨hx, hb, hml, ho, -⟩ := S
  obtain ⟨-, ⟨cellB, hcB, hoB, hclB⟩, hPc⟩ := hp
  obtain ⟨hfc, kB, hkB, -⟩ := hat
  cases hfc.symm.trans hclB
  intro T hT X
  rcases vx_callIFW X hx (C := C) (hh := hh) (bytes := bytes) (maxL := maxL) (ret := ret) ho cw.link cw.decl cw.face cw.sel cw.inst cw.pub cw.unh cw.cast cw.code cw.notMH hK (by rw [hT]; exact hcB) hoB hclB hkB hg (hsize.trans hml.symm) (argsL := As) (rest := rest) (fun sig h => hn.trans (cw.len sig h)) hstack hW (by rw [hb]; exact hdg)
    (fun vm₁ hW₁ => ⟨hf.1, hf.2, hPc (T.setVm vm₁) hT hW₁⟩) with ⟨v, vm₁, ⟨U', l2, c2, s2⟩, hW₁, X', ⟨g', mk, t, L, e1, e2, hq, h1, hL, h2, h3⟩, st⟩ | ⟨q, vm₁, ⟨U', l2, c2, s2⟩, hW₁, X', ⟨g', mk, t, L, E, ce, e1, e2, hq, hce, hcv, hcl, h1, hL, h2, h3⟩, st⟩
  · dsimp only [Pt.U, Pt.locs, Pt.cells, Pt.slots] at X' e1 e2 h1 h2 h3 st
    subst h1; subst h2; subst h3
    exact Or.inl ⟨v, (T.setVm vm₁).calling g' mk (Value.ref b :: As).toArray, t, U', L, hT, X', hL, e1, e2, hq, st⟩
  · dsimp only [Pt.U, Pt.locs, Pt.cells, Pt.slots] at X' e1 e2 h1 h2 h3 st hcl
    subst h1; subst h2; subst h3
    exact Or.inr ⟨q, (T.setVm vm₁).calling g' mk (Value.ref b :: As).toArray, t, U', L, E, ce, hT, X', hL, e1, e2, hq, hce, hcv, vx_cls hW₁ hcl, st⟩
end
/-! ===== END ===== -/
/-! ===== BEGIN .. of methods that hand back an object of the pool ===== -/
section
variable {p : Program} {l : Launch} {e : Env} {R : Room} {s : State} {m : MethodId} {args : Array Value} {below : List Frame} {meth : Method} {c : Code} {H : Heap} {locs : List Loc} {cells slots : Nat} {Q : State → Prop}
variable {mc ms : Nat} {free : Addr → Prop} {A0 A1 : Nat → Prop} {H0 : Heap} {a : Array Value} {pc : Nat} {ls : Array Slot} {st0 rest : List Value}
theorem vx_callq {S SX : Type} {post : Option Nat → S → Prop} {px : SX → Prop} {B : S → State → Prop} {BX : String → SX → State → Prop} {AX : Nat → Prop} (hr : vx_Run p l e R s m args below meth c H locs cells slots mc ms (F0 m pc ls st0) rest (va_Qq post B A1 a) (vx_X px BX AX) free) (hS : va_S A0 H0 H locs) (hA : ∀ q, q < H.size → A1 q → A0 q) (hf : ∀ q, free q → A0 q) (hAX : ∀ q, q < H.size → AX q → A0 q)
    (kx : ∀ (E : String) (ce : Cell) (q9 : Addr) (u : SX) (t : State) (H1 : Heap) (locs1 : List Loc), t.heap = H1 → s.vm.Alike t.vm → px u → BX E u t → H.size ≤ H1.size → (∀ q : Nat, q < H.size → ¬ AX q → H1[q]? = H[q]?) → va_S A0 H0 H1 locs1 → H1[q9]? = some ce → ce.vm = .none → s.vm.findClass E = some ce.cls → vx_W p l e R s m args below meth c H1 locs1 (cells + mc) (slots + ms) Q (F0 m pc ls rest) q9)
    (kk : ∀ (r : Option Nat) (u : S) (t : State) (H1 : Heap) (locs1 : List Loc), t.heap = H1 → s.vm.Alike t.vm → post r u → B u t → H.size ≤ H1.size → (∀ q : Nat, q < H.size → ¬ A1 q → H1[q]? = H[q]?) → va_S A0 H0 H1 locs1 → W p l e R s m args below meth c H1 locs1 (cells + mc) (slots + ms) Q (F0 m (pc + 3) ls (va_rf r :: rest))) : W p l e R s m args below meth c H locs cells slots Q (F0 m pc ls st0) := by
  intro T hT X
  rcases hr T hT X with ⟨v, st₀, t, T', L, h0, X', hL, e1, e2, ⟨⟨r, u, hv, hp, hb⟩, hF⟩, st⟩ | ⟨q, st₀, t, T', L, E, ce, h0, X', hL, e1, e2, ⟨u, hp, hb, hF⟩, hce, hcv, hcl, st⟩
  · cases hv
    obtain ⟨k1, k2, k3⟩ := vx_keep h0 e1 hS hA hf hL hF
    obtain ⟨t2, a1, b1⟩ := kk r u t T'.heap (locs ++ L) e1.symm (by rw [← e2]; exact X'.warmed.alike) hp hb k1 k2 k3 T' rfl X'
    exact ⟨t2, st t2 a1, b1⟩
  · obtain ⟨k1, k2, k3⟩ := vx_keep h0 e1 hS hAX hf hL hF
    obtain ⟨t2, a1, b1⟩ := kx E ce q u t T'.heap (locs ++ L) e1.symm (by rw [← e2]; exact X'.warmed.alike) hp hb k1 k2 k3 (by rw [e1]; exact hce) hcv hcl T' rfl X'
    exact ⟨t2, st.trans a1, b1⟩
end
/-! ===== END ===== -/
/-! ===== BEGIN .. a constant ===== -/
section
variable {p : Program} {l : Launch} {e : Env} {R : Room} {s : State} {m : MethodId} {args : Array Value} {below : List Frame} {meth : Method} {c : Code} {H : Heap} {locs : List Loc} {cells slots : Nat} {Q : State → Prop}
variable {mc ms : Nat} {free : Addr → Prop} {A0 A1 : Nat → Prop} {H0 : Heap} {a : Array Value} {pc : Nat} {ls : Array Slot} {st0 rest : List Value}
theorem vx_calle {ad : Nat → Nat} {S SX : Type} {post : Option Nat → S → Prop} {px : SX → Prop} {B : S → State → Prop} {BX : String → SX → State → Prop} {AX : Nat → Prop} (hr : vx_Run p l e R s m args below meth c H locs cells slots mc ms (F0 m pc ls st0) rest (va_Qe ad post B A1 a) (vx_X px BX AX) free) (hS : va_S A0 H0 H locs) (hA : ∀ q, q < H.size → A1 q → A0 q) (hf : ∀ q, free q → A0 q) (hAX : ∀ q, q < H.size → AX q → A0 q)
    (kx : ∀ (E : String) (ce : Cell) (q9 : Addr) (u : SX) (t : State) (H1 : Heap) (locs1 : List Loc), t.heap = H1 → s.vm.Alike t.vm → px u → BX E u t → H.size ≤ H1.size → (∀ q : Nat, q < H.size → ¬ AX q → H1[q]? = H[q]?) → va_S A0 H0 H1 locs1 → H1[q9]? = some ce → ce.vm = .none → s.vm.findClass E = some ce.cls → vx_W p l e R s m args below meth c H1 locs1 (cells + mc) (slots + ms) Q (F0 m pc ls rest) q9)
    (kk : ∀ (r : Option Nat) (u : S) (t : State) (H1 : Heap) (locs1 : List Loc), t.heap = H1 → s.vm.Alike t.vm → post r u → B u t → H.size ≤ H1.size → (∀ q : Nat, q < H.size → ¬ A1 q → H1[q]? = H[q]?) → va_S A0 H0 H1 locs1 → W p l e R s m args below meth c H1 locs1 (cells + mc) (slots + ms) Q (F0 m (pc + 3) ls (va_re ad r :: rest))) : W p l e R s m args below meth c H locs cells slots Q (F0 m pc ls st0) := by
  intro T hT X
  rcases hr T hT X with ⟨v, st₀, t, T', L, h0, X', hL, e1, e2, ⟨⟨r, u, hv, hp, hb⟩, hF⟩, st⟩ | ⟨q, st₀, t, T', L, E, ce, h0, X', hL, e1, e2, ⟨u, hp, hb, hF⟩, hce, hcv, hcl, st⟩
  · cases hv
    obtain ⟨k1, k2, k3⟩ := vx_keep h0 e1 hS hA hf hL hF
    obtain ⟨t2, a1, b1⟩ := kk r u t T'.heap (locs ++ L) e1.symm (by rw [← e2]; exact X'.warmed.alike) hp hb k1 k2 k3 T' rfl X'
    exact ⟨t2, st t2 a1, b1⟩
  · obtain ⟨k1, k2, k3⟩ := vx_keep h0 e1 hS hAX hf hL hF
    obtain ⟨t2, a1, b1⟩ := kx E ce q u t T'.heap (locs ++ L) e1.symm (by rw [← e2]; exact X'.warmed.alike) hp hb k1 k2 k3 (by rw [e1]; exact hce) hcv hcl T' rfl X'
    exact ⟨t2, st.trans a1, b1⟩
end
/-! ===== END ===== -/
/-! ===== BEGIN .. by an interface, an object ===== -/
section
variable {p : Program} {l : Launch} {e : Env} {R : Room} {s : State} {m : MethodId} {args : Array Value} {below : List Frame} {meth : Method} {c : Code} {H : Heap} {locs : List Loc} {cells slots : Nat} {Q : State → Prop}
variable {mc ms : Nat} {free : Addr → Prop} {A0 A1 : Nat → Prop} {H0 : Heap} {a : Array Value} {pc : Nat} {ls : Array Slot} {st0 rest : List Value}
theorem vx_callFq {S SX : Type} {post : Option Nat → S → Prop} {px : SX → Prop} {B : S → State → Prop} {BX : String → SX → State → Prop} {AX : Nat → Prop} (hr : vx_Run5 p l e R s m args below meth c H locs cells slots mc ms (F0 m pc ls st0) rest (va_Qq post B A1 a) (vx_X px BX AX) free) (hS : va_S A0 H0 H locs) (hA : ∀ q, q < H.size → A1 q → A0 q) (hf : ∀ q, free q → A0 q) (hAX : ∀ q, q < H.size → AX q → A0 q)
    (kx : ∀ (E : String) (ce : Cell) (q9 : Addr) (u : SX) (t : State) (H1 : Heap) (locs1 : List Loc), t.heap = H1 → s.vm.Alike t.vm → px u → BX E u t → H.size ≤ H1.size → (∀ q : Nat, q < H.size → ¬ AX q → H1[q]? = H[q]?) → va_S A0 H0 H1 locs1 → H1[q9]? = some ce → ce.vm = .none → s.vm.findClass E = some ce.cls → vx_W p l e R s m args below meth c H1 locs1 (cells + mc) (slots + ms) Q (F0 m pc ls rest) q9)
    (kk : ∀ (r : Option Nat) (u : S) (t : State) (H1 : Heap) (locs1 : List Loc), t.heap = H1 → s.vm.Alike t.vm → post r u → B u t → H.size ≤ H1.size → (∀ q : Nat, q < H.size → ¬ A1 q → H1[q]? = H[q]?) → va_S A0 H0 H1 locs1 → W p l e R s m args below meth c H1 locs1 (cells + mc) (slots + ms) Q (F0 m (pc + 5) ls (va_rf r :: rest))) : W p l e R s m args below meth c H locs cells slots Q (F0 m pc ls st0) := by
  intro T hT X
  rcases hr T hT X with ⟨v, st₀, t, T', L, h0, X', hL, e1, e2, ⟨⟨r, u, hv, hp, hb⟩, hF⟩, st⟩ | ⟨q, st₀, t, T', L, E, ce, h0, X', hL, e1, e2, ⟨u, hp, hb, hF⟩, hce, hcv, hcl, st⟩
  · cases hv
    obtain ⟨k1, k2, k3⟩ := vx_keep h0 e1 hS hA hf hL hF
    obtain ⟨t2, a1, b1⟩ := kk r u t T'.heap (locs ++ L) e1.symm (by rw [← e2]; exact X'.warmed.alike) hp hb k1 k2 k3 T' rfl X'
    exact ⟨t2, st t2 a1, b1⟩
  · obtain ⟨k1, k2, k3⟩ := vx_keep h0 e1 hS hAX hf hL hF
    obtain ⟨t2, a1, b1⟩ := kx E ce q u t T'.heap (locs ++ L) e1.symm (by rw [← e2]; exact X'.warmed.alike) hp hb k1 k2 k3 (by rw [e1]; exact hce) hcv hcl T' rfl X'
    exact ⟨t2, st.trans a1, b1⟩
end
/-! ===== END ===== -/
/-! ===== BEGIN .. by an interface, a constant ===== -/
section
variable {p : Program} {l : Launch} {e : Env} {R : Room} {s : State} {m : MethodId} {args : Array Value} {below : List Frame} {meth : Method} {c : Code} {H : Heap} {locs : List Loc} {cells slots : Nat} {Q : State → Prop}
variable {mc ms : Nat} {free : Addr → Prop} {A0 A1 : Nat → Prop} {H0 : Heap} {a : Array Value} {pc : Nat} {ls : Array Slot} {st0 rest : List Value}
theorem vx_callFe {ad : Nat → Nat} {S SX : Type} {post : Option Nat → S → Prop} {px : SX → Prop} {B : S → State → Prop} {BX : String → SX → State → Prop} {AX : Nat → Prop} (hr : vx_Run5 p l e R s m args below meth c H locs cells slots mc ms (F0 m pc ls st0) rest (va_Qe ad post B A1 a) (vx_X px BX AX) free) (hS : va_S A0 H0 H locs) (hA : ∀ q, q < H.size → A1 q → A0 q) (hf : ∀ q, free q → A0 q) (hAX : ∀ q, q < H.size → AX q → A0 q)
    (kx : ∀ (E : String) (ce : Cell) (q9 : Addr) (u : SX) (t : State) (H1 : Heap) (locs1 : List Loc), t.heap = H1 → s.vm.Alike t.vm → px u → BX E u t → H.size ≤ H1.size → (∀ q : Nat, q < H.size → ¬ AX q → H1[q]? = H[q]?) → va_S A0 H0 H1 locs1 → H1[q9]? = some ce → ce.vm = .none → s.vm.findClass E = some ce.cls → vx_W p l e R s m args below meth c H1 locs1 (cells + mc) (slots + ms) Q (F0 m pc ls rest) q9)
    (kk : ∀ (r : Option Nat) (u : S) (t : State) (H1 : Heap) (locs1 : List Loc), t.heap = H1 → s.vm.Alike t.vm → post r u → B u t → H.size ≤ H1.size → (∀ q : Nat, q < H.size → ¬ A1 q → H1[q]? = H[q]?) → va_S A0 H0 H1 locs1 → W p l e R s m args below meth c H1 locs1 (cells + mc) (slots + ms) Q (F0 m (pc + 5) ls (va_re ad r :: rest))) : W p l e R s m args below meth c H locs cells slots Q (F0 m pc ls st0) := by
  intro T hT X
  rcases hr T hT X with ⟨v, st₀, t, T', L, h0, X', hL, e1, e2, ⟨⟨r, u, hv, hp, hb⟩, hF⟩, st⟩ | ⟨q, st₀, t, T', L, E, ce, h0, X', hL, e1, e2, ⟨u, hp, hb, hF⟩, hce, hcv, hcl, st⟩
  · cases hv
    obtain ⟨k1, k2, k3⟩ := vx_keep h0 e1 hS hA hf hL hF
    obtain ⟨t2, a1, b1⟩ := kk r u t T'.heap (locs ++ L) e1.symm (by rw [← e2]; exact X'.warmed.alike) hp hb k1 k2 k3 T' rfl X'
    exact ⟨t2, st t2 a1, b1⟩
  · obtain ⟨k1, k2, k3⟩ := vx_keep h0 e1 hS hAX hf hL hF
    obtain ⟨t2, a1, b1⟩ := kx E ce q u t T'.heap (locs ++ L) e1.symm (by rw [← e2]; exact X'.warmed.alike) hp hb k1 k2 k3 (by rw [e1]; exact hce) hcv hcl T' rfl X'
    exact ⟨t2, st.trans a1, b1⟩
end
/-! ===== END ===== -/
/-! ===== BEGIN what the machine throws by itself: null at a field, at athrow ===== -/
section VXM2
variable {p : Program} {l : Launch} {e : Env} {R : Room} {s : State} {m : MethodId} {args : Array Value} {below : List Frame} {meth : Method} {c : Code} {H : Heap} {locs : List Loc} {cells slots : Nat}
variable {Q : State → Prop} {cc : ByteArray} {pc : Nat} {ls : Array Slot} {rest : List Value}
theorem vx_getfN {D cl tys} {own ref C : String} {T : u_T} {N ci index : Nat} {Ts : List Cond} (hexec : p.tables.exec = Jvm.exec) (hb : c.code = cc) (hts : ∀ w ∈ Ts, w.before args s = true) (hin : ∀ w ∈ u_ws C T N, w ∈ Ts) (hown : s.vm.findClass own = some m.cls) (hK : va_K D cl tys s) (hc : cl[ci]? = some (C, T, N)) (k : Nat) (hk : k < N) (hlink : (Cond.fieldLink own index ref (T k).2.1 (T k).2.2.1).before args s = true) (hsame : ∀ x, s.fieldFound? (T k).1 (T k).2.1 (T k).2.2.1 = some x → s.fieldFound? ref (T k).2.1 (T k).2.2.1 = some x) (hdg : decode cc pc = .ok (.getfield index, 3)) (kk : vx_NoteN p l e R s m args below meth c H locs cells slots Q (F0 m pc ls rest)) : W p l e R s m args below meth c H locs cells slots Q (F0 m pc ls (.null :: rest)) := by
  obtain ⟨hS, hfc, kC, hkC, -⟩ := hK.1 ci _ hc
  obtain ⟨cf, kf, fi, f, hi, -⟩ := hS k hk
  intro U hU X
  obtain ⟨vm', X1, st1⟩ := X.getfieldNull hexec hown hlink (hsame _ hi) (u_facts hfc hkC (u_lays hts hin hk) hi).1 (g := F0 m pc ls (.null :: rest)) rfl (rest := rest) rfl (by rw [hb]; exact hdg)
  obtain ⟨t, st, q⟩ := kk (U.setVm vm') hU X1
  exact ⟨t, st1 t st, q⟩
theorem vx_getfNN {D cl tys} {own ref C host : String} {T : u_T} {N ci index : Nat} {Ts : List Cond} (hexec : p.tables.exec = Jvm.exec) (hb : c.code = cc) (hts : ∀ w ∈ Ts, w.before args s = true) (hin : ∀ w ∈ u_ws C T N, w ∈ Ts) (hown : s.vm.findClass own = some m.cls) (hK : va_K D cl tys s) (hc : cl[ci]? = some (C, T, N)) (k : Nat) (hk : k < N) (hlink : (Cond.fieldLinkNest own index ref (T k).2.1 (T k).2.2.1 host).before args s = true) (hsame : ∀ x, s.fieldFound? (T k).1 (T k).2.1 (T k).2.2.1 = some x → s.fieldFound? ref (T k).2.1 (T k).2.2.1 = some x) (hdg : decode cc pc = .ok (.getfield index, 3)) (kk : vx_NoteN p l e R s m args below meth c H locs cells slots Q (F0 m pc ls rest)) : W p l e R s m args below meth c H locs cells slots Q (F0 m pc ls (.null :: rest)) := by
  obtain ⟨hS, hfc, kC, hkC, -⟩ := hK.1 ci _ hc
  obtain ⟨cf, kf, fi, f, hi, -⟩ := hS k hk
  intro U hU X
  obtain ⟨vm', X1, st1⟩ := X.getfieldNullNest hexec hown hlink (hsame _ hi) (u_facts hfc hkC (u_lays hts hin hk) hi).1 (g := F0 m pc ls (.null :: rest)) rfl (rest := rest) rfl (by rw [hb]; exact hdg)
  obtain ⟨t, st, q⟩ := kk (U.setVm vm') hU X1
  exact ⟨t, st1 t st, q⟩
theorem vx_putfN {D cl tys} {own ref C : String} {T : u_T} {N ci index : Nat} {Ts : List Cond} (hexec : p.tables.exec = Jvm.exec) (hb : c.code = cc) (hts : ∀ w ∈ Ts, w.before args s = true) (hin : ∀ w ∈ u_ws C T N, w ∈ Ts) (hown : s.vm.findClass own = some m.cls) (hK : va_K D cl tys s) (hc : cl[ci]? = some (C, T, N)) (k : Nat) (hk : k < N) (hlink : (Cond.fieldLink own index ref (T k).2.1 (T k).2.2.1).before args s = true) (hsame : ∀ x, s.fieldFound? (T k).1 (T k).2.1 (T k).2.2.1 = some x → s.fieldFound? ref (T k).2.1 (T k).2.2.1 = some x) (hfin : (T k).2.2.2 = false) {v : Value} (hdg : decode cc pc = .ok (.putfield index, 3)) (kk : vx_NoteN p l e R s m args below meth c H locs cells slots Q (F0 m pc ls rest)) : W p l e R s m args below meth c H locs cells slots Q (F0 m pc ls (v :: .null :: rest)) := by
  obtain ⟨hS, hfc, kC, hkC, -⟩ := hK.1 ci _ hc
  obtain ⟨cf, kf, fi, f, hi, -⟩ := hS k hk
  have hlay := hts _ (hin _ (u_in_lay hk))
  unfold u_lay at hlay
  rw [if_neg (by rw [hfin]; decide)] at hlay
  obtain ⟨c9, k9, cf9, kf9, fi9, f9, -, -, hi9, hst9, hnf9, -⟩ := Cond.lays_spec hlay
  cases hi.symm.trans hi9
  intro U hU X
  obtain ⟨vm', X1, st1⟩ := X.putfieldNull hexec hown hlink (hsame _ hi) hst9 hnf9 (g := F0 m pc ls (v :: .null :: rest)) rfl (v := v) (rest := rest) rfl (by rw [hb]; exact hdg)
  obtain ⟨t, st, q⟩ := kk (U.setVm vm') hU X1
  exact ⟨t, st1 t st, q⟩
theorem vx_putfNN {D cl tys} {own ref C host : String} {T : u_T} {N ci index : Nat} {Ts : List Cond} (hexec : p.tables.exec = Jvm.exec) (hb : c.code = cc) (hts : ∀ w ∈ Ts, w.before args s = true) (hin : ∀ w ∈ u_ws C T N, w ∈ Ts) (hown : s.vm.findClass own = some m.cls) (hK : va_K D cl tys s) (hc : cl[ci]? = some (C, T, N)) (k : Nat) (hk : k < N) (hlink : (Cond.fieldLinkNest own index ref (T k).2.1 (T k).2.2.1 host).before args s = true) (hsame : ∀ x, s.fieldFound? (T k).1 (T k).2.1 (T k).2.2.1 = some x → s.fieldFound? ref (T k).2.1 (T k).2.2.1 = some x) (hfin : (T k).2.2.2 = false) {v : Value} (hdg : decode cc pc = .ok (.putfield index, 3)) (kk : vx_NoteN p l e R s m args below meth c H locs cells slots Q (F0 m pc ls rest)) : W p l e R s m args below meth c H locs cells slots Q (F0 m pc ls (v :: .null :: rest)) := by
  obtain ⟨hS, hfc, kC, hkC, -⟩ := hK.1 ci _ hc
  obtain ⟨cf, kf, fi, f, hi, -⟩ := hS k hk
  have hlay := hts _ (hin _ (u_in_lay hk))
  unfold u_lay at hlay
  rw [if_neg (by rw [hfin]; decide)] at hlay
  obtain ⟨c9, k9, cf9, kf9, fi9, f9, -, -, hi9, hst9, hnf9, -⟩ := Cond.lays_spec hlay
  cases hi.symm.trans hi9
  intro U hU X
  obtain ⟨vm', X1, st1⟩ := X.putfieldNullNest hexec hown hlink (hsame _ hi) hst9 hnf9 (g := F0 m pc ls (v :: .null :: rest)) rfl (v := v) (rest := rest) rfl (by rw [hb]; exact hdg)
  obtain ⟨t, st, q⟩ := kk (U.setVm vm') hU X1
  exact ⟨t, st1 t st, q⟩
theorem vx_athrowN (hexec : p.tables.exec = Jvm.exec) (hb : c.code = cc) (hdg : decode cc pc = .ok (.athrow, 1)) (k : vx_NoteN p l e R s m args below meth c H locs cells slots Q (F0 m pc ls rest)) : W p l e R s m args below meth c H locs cells slots Q (F0 m pc ls (.null :: rest)) := by
  intro T hT X
  obtain ⟨t, st, q⟩ := k T hT X
  exact ⟨t, X.athrowNull hexec (g := F0 m pc ls (.null :: rest)) rfl (rest := rest) rfl (by rw [hb]; exact hdg) t st, q⟩
end VXM2
/-! ===== END ===== -/
end
section
def RX0 : String := "TonePlates$Curve"
def TX0 : u_T := fun k => match k with
  | _ => ("TonePlates$Curve", "items", "[I", true)
def tyX0 : Nat → FieldType := fun k => match k with
  | _ => .array .int
abbrev wsX00 : List Cond := u_ws RX0 TX0 1
theorem nmX0 : ∀ a, a < 1 → ∀ b, b < 1 → a ≠ b → (TX0 a).2.1 ≠ (TX0 b).2.1 := by decide +kernel
theorem tyX0_ok : ∀ k, k < 1 → parseFieldDescriptor (TX0 k).2.2.1 = some (tyX0 k) := by decide +kernel
abbrev cX0_init : ByteArray := prog_2_method_1_code
def yX0_init : MethodName := ⟨RX0, "<init>", "([I)V"⟩
abbrev cX0_toneAt : ByteArray := prog_2_method_2_code
def yX0_toneAt : MethodName := ⟨RX0, "toneAt", "([IIIII)I"⟩
abbrev cX0_operand : ByteArray := prog_2_method_3_code
def yX0_operand : MethodName := ⟨RX0, "operand", "(IIIII)I"⟩
abbrev cX0_result : ByteArray := prog_2_method_4_code
def yX0_result : MethodName := ⟨RX0, "result", "(IJJ)I"⟩
def RX1 : String := "TonePlates$Plate"
def TX1 : u_T := fun k => match k with
  | 0 => ("TonePlates$Plate", "name", "J", false)
  | 1 => ("TonePlates$Plate", "a", "I", false)
  | 2 => ("TonePlates$Plate", "b", "I", false)
  | 3 => ("TonePlates$Plate", "shape", "I", false)
  | 4 => ("TonePlates$Plate", "dx", "I", false)
  | 5 => ("TonePlates$Plate", "dy", "I", false)
  | 6 => ("TonePlates$Plate", "ink", "I", false)
  | _ => ("TonePlates$Plate", "curve", "LTonePlates$Curve;", false)
def tyX1 : Nat → FieldType := fun k => match k with
  | 0 => .long
  | 1 => .int
  | 2 => .int
  | 3 => .int
  | 4 => .int
  | 5 => .int
  | 6 => .int
  | _ => .object "TonePlates$Curve"
abbrev wsX10 : List Cond := u_ws RX1 TX1 8
theorem nmX1 : ∀ a, a < 8 → ∀ b, b < 8 → a ≠ b → (TX1 a).2.1 ≠ (TX1 b).2.1 := by decide +kernel
theorem tyX1_ok : ∀ k, k < 8 → parseFieldDescriptor (TX1 k).2.2.1 = some (tyX1 k) := by decide +kernel
abbrev cX1_init : ByteArray := prog_3_method_1_code
def yX1_init : MethodName := ⟨RX1, "<init>", "()V"⟩
abbrev cX1_p : ByteArray := prog_3_method_2_code
def yX1_p : MethodName := ⟨RX1, "p", "()I"⟩
abbrev cX1_become : ByteArray := prog_3_method_3_code
def yX1_become : MethodName := ⟨RX1, "become", "(LTonePlates$Plate;)V"⟩
def RX2 : String := "TonePlates$Print"
def TX2 : u_T := fun k => match k with
  | 0 => ("TonePlates$Print", "tones", "[[I", true)
  | 1 => ("TonePlates$Print", "inks", "[I", true)
  | 2 => ("TonePlates$Print", "dots", "[I", true)
  | 3 => ("TonePlates$Print", "screens", "[LTonePlates$Screen;", true)
  | 4 => ("TonePlates$Print", "starts", "[I", true)
  | 5 => ("TonePlates$Print", "open", "[I", true)
  | 6 => ("TonePlates$Print", "hasTones", "Z", false)
  | _ => ("TonePlates$Print", "hasDots", "Z", false)
def tyX2 : Nat → FieldType := fun k => match k with
  | 0 => .array (.array .int)
  | 1 => .array .int
  | 2 => .array .int
  | 3 => .array (.object "TonePlates$Screen")
  | 4 => .array .int
  | 5 => .array .int
  | 6 => .boolean
  | _ => .boolean
abbrev wsX20 : List Cond := u_ws RX2 TX2 8
theorem nmX2 : ∀ a, a < 8 → ∀ b, b < 8 → a ≠ b → (TX2 a).2.1 ≠ (TX2 b).2.1 := by decide +kernel
theorem tyX2_ok : ∀ k, k < 8 → parseFieldDescriptor (TX2 k).2.2.1 = some (tyX2 k) := by decide +kernel
abbrev cX2_init : ByteArray := prog_4_method_1_code
def yX2_init : MethodName := ⟨RX2, "<init>", "()V"⟩
abbrev cX2_forgetTones : ByteArray := prog_4_method_2_code
def yX2_forgetTones : MethodName := ⟨RX2, "forgetTones", "()V"⟩
abbrev cX2_forgetDots : ByteArray := prog_4_method_3_code
def yX2_forgetDots : MethodName := ⟨RX2, "forgetDots", "()V"⟩
abbrev cX2_update : ByteArray := prog_4_method_4_code
def yX2_update : MethodName := ⟨RX2, "update", "(LTonePlates$Sheet;)V"⟩
abbrev cX2_takeTones : ByteArray := prog_4_method_5_code
def yX2_takeTones : MethodName := ⟨RX2, "takeTones", "(LTonePlates$Sheet;I)V"⟩
abbrev cX2_putDots : ByteArray := prog_4_method_6_code
def yX2_putDots : MethodName := ⟨RX2, "putDots", "(LTonePlates$Sheet;I)V"⟩
abbrev cX2_rankAt : ByteArray := prog_4_method_7_code
def yX2_rankAt : MethodName := ⟨RX2, "rankAt", "(LTonePlates$Sheet;III)I"⟩
abbrev cX2_isDark : ByteArray := prog_4_method_8_code
def yX2_isDark : MethodName := ⟨RX2, "isDark", "(LTonePlates$Sheet;III)Z"⟩
abbrev cX2_hasDot : ByteArray := prog_4_method_9_code
def yX2_hasDot : MethodName := ⟨RX2, "hasDot", "(II)Z"⟩
abbrev cX2_isSpot : ByteArray := prog_4_method_10_code
def yX2_isSpot : MethodName := ⟨RX2, "isSpot", "(LTonePlates$Sheet;III)Z"⟩
abbrev cX2_isDotAt : ByteArray := prog_4_method_11_code
def yX2_isDotAt : MethodName := ⟨RX2, "isDotAt", "(LTonePlates$Sheet;III)Z"⟩
abbrev cX2_dotsOfAll : ByteArray := prog_4_method_13_code
def yX2_dotsOfAll : MethodName := ⟨RX2, "dotsOfAll", "(LTonePlates$Sheet;)I"⟩
abbrev cX2_cellsHaving : ByteArray := prog_4_method_14_code
def yX2_cellsHaving : MethodName := ⟨RX2, "cellsHaving", "(LTonePlates$Sheet;I)I"⟩
def RX3 : String := "TonePlates$Screen"
def TX3 : u_T := fun k => match k with
  | 0 => ("TonePlates$Screen", "a", "I", false)
  | 1 => ("TonePlates$Screen", "b", "I", false)
  | 2 => ("TonePlates$Screen", "p", "I", false)
  | 3 => ("TonePlates$Screen", "shape", "I", false)
  | _ => ("TonePlates$Screen", "ranks", "[I", true)
def tyX3 : Nat → FieldType := fun k => match k with
  | 0 => .int
  | 1 => .int
  | 2 => .int
  | 3 => .int
  | _ => .array .int
abbrev wsX30 : List Cond := u_ws RX3 TX3 5
theorem nmX3 : ∀ a, a < 5 → ∀ b, b < 5 → a ≠ b → (TX3 a).2.1 ≠ (TX3 b).2.1 := by decide +kernel
theorem tyX3_ok : ∀ k, k < 5 → parseFieldDescriptor (TX3 k).2.2.1 = some (tyX3 k) := by decide +kernel
abbrev cX3_init : ByteArray := prog_5_method_1_code
def yX3_init : MethodName := ⟨RX3, "<init>", "()V"⟩
abbrev cX3_fit : ByteArray := prog_5_method_2_code
def yX3_fit : MethodName := ⟨RX3, "fit", "(LTonePlates$Plate;[I)V"⟩
abbrev cX3_rankOf : ByteArray := prog_5_method_3_code
def yX3_rankOf : MethodName := ⟨RX3, "rankOf", "(II)I"⟩
abbrev cX3_measureAt : ByteArray := prog_5_method_4_code
def yX3_measureAt : MethodName := ⟨RX3, "measureAt", "(II)I"⟩
def RX4 : String := "TonePlates$SetupReader"
def TX4 : u_T := fun k => match k with
  | 0 => ("TonePlates$SetupReader", "error", "I", false)
  | 1 => ("TonePlates$SetupReader", "errorOffset", "I", false)
  | 2 => ("TonePlates$SetupReader", "text", "[B", false)
  | 3 => ("TonePlates$SetupReader", "length", "I", false)
  | 4 => ("TonePlates$SetupReader", "sheet", "LTonePlates$Sheet;", false)
  | 5 => ("TonePlates$SetupReader", "hasTones", "Z", false)
  | 6 => ("TonePlates$SetupReader", "hasLimit", "Z", false)
  | 7 => ("TonePlates$SetupReader", "kind", "I", false)
  | 8 => ("TonePlates$SetupReader", "start", "I", false)
  | 9 => ("TonePlates$SetupReader", "end", "I", false)
  | 10 => ("TonePlates$SetupReader", "number", "I", false)
  | 11 => ("TonePlates$SetupReader", "items", "[I", true)
  | _ => ("TonePlates$SetupReader", "itemCount", "I", false)
def tyX4 : Nat → FieldType := fun k => match k with
  | 0 => .int
  | 1 => .int
  | 2 => .array .byte
  | 3 => .int
  | 4 => .object "TonePlates$Sheet"
  | 5 => .boolean
  | 6 => .boolean
  | 7 => .int
  | 8 => .int
  | 9 => .int
  | 10 => .int
  | 11 => .array .int
  | _ => .int
abbrev wsX40 : List Cond := u_ws RX4 TX4 13
theorem nmX4 : ∀ a, a < 13 → ∀ b, b < 13 → a ≠ b → (TX4 a).2.1 ≠ (TX4 b).2.1 := by decide +kernel
theorem tyX4_ok : ∀ k, k < 13 → parseFieldDescriptor (TX4 k).2.2.1 = some (tyX4 k) := by decide +kernel
abbrev cX4_init : ByteArray := prog_6_method_1_code
def yX4_init : MethodName := ⟨RX4, "<init>", "()V"⟩
abbrev cX4_read : ByteArray := prog_6_method_2_code
def yX4_read : MethodName := ⟨RX4, "read", "([BILTonePlates$Sheet;)Z"⟩
abbrev cX4_readPicture : ByteArray := prog_6_method_3_code
def yX4_readPicture : MethodName := ⟨RX4, "readPicture", "()Z"⟩
abbrev cX4_readStatement : ByteArray := prog_6_method_4_code
def yX4_readStatement : MethodName := ⟨RX4, "readStatement", "()Z"⟩
abbrev cX4_readTones : ByteArray := prog_6_method_5_code
def yX4_readTones : MethodName := ⟨RX4, "readTones", "()Z"⟩
abbrev cX4_readPlate : ByteArray := prog_6_method_6_code
def yX4_readPlate : MethodName := ⟨RX4, "readPlate", "()Z"⟩
abbrev cX4_readInk : ByteArray := prog_6_method_7_code
def yX4_readInk : MethodName := ⟨RX4, "readInk", "()Z"⟩
abbrev cX4_readLimit : ByteArray := prog_6_method_8_code
def yX4_readLimit : MethodName := ⟨RX4, "readLimit", "()Z"⟩
abbrev cX4_readSum : ByteArray := prog_6_method_9_code
def yX4_readSum : MethodName := ⟨RX4, "readSum", "(I)Z"⟩
abbrev cX4_readTerm : ByteArray := prog_6_method_10_code
def yX4_readTerm : MethodName := ⟨RX4, "readTerm", "(I)Z"⟩
abbrev cX4_readFactor : ByteArray := prog_6_method_11_code
def yX4_readFactor : MethodName := ⟨RX4, "readFactor", "(I)Z"⟩
abbrev cX4_variableHere : ByteArray := prog_6_method_12_code
def yX4_variableHere : MethodName := ⟨RX4, "variableHere", "()I"⟩
abbrev cX4_shapeHere : ByteArray := prog_6_method_13_code
def yX4_shapeHere : MethodName := ⟨RX4, "shapeHere", "()I"⟩
abbrev cX4_addItem : ByteArray := prog_6_method_14_code
def yX4_addItem : MethodName := ⟨RX4, "addItem", "(I)V"⟩
abbrev cX4_takeNumber : ByteArray := prog_6_method_15_code
def yX4_takeNumber : MethodName := ⟨RX4, "takeNumber", "(II)Z"⟩
abbrev cX4_takeSign : ByteArray := prog_6_method_16_code
def yX4_takeSign : MethodName := ⟨RX4, "takeSign", "(C)Z"⟩
abbrev cX4_isName : ByteArray := prog_6_method_17_code
def yX4_isName : MethodName := ⟨RX4, "isName", "()Z"⟩
abbrev cX4_isSign : ByteArray := prog_6_method_18_code
def yX4_isSign : MethodName := ⟨RX4, "isSign", "(C)Z"⟩
abbrev cX4_isWord : ByteArray := prog_6_method_19_code
def yX4_isWord : MethodName := ⟨RX4, "isWord", "(Ljava/lang/String;)Z"⟩
abbrev cX4_fail : ByteArray := prog_6_method_20_code
def yX4_fail : MethodName := ⟨RX4, "fail", "(I)Z"⟩
abbrev cX4_advance : ByteArray := prog_6_method_21_code
def yX4_advance : MethodName := ⟨RX4, "advance", "()V"⟩
abbrev cX4_takeRun : ByteArray := prog_6_method_22_code
def yX4_takeRun : MethodName := ⟨RX4, "takeRun", "(CCI)V"⟩
def RX5 : String := "TonePlates$Sheet"
def TX5 : u_T := fun k => match k with
  | 0 => ("TonePlates$Sheet", "width", "I", false)
  | 1 => ("TonePlates$Sheet", "height", "I", false)
  | 2 => ("TonePlates$Sheet", "limit", "I", false)
  | 3 => ("TonePlates$Sheet", "plateCount", "I", false)
  | 4 => ("TonePlates$Sheet", "plates", "[LTonePlates$Plate;", true)
  | 5 => ("TonePlates$Sheet", "tones", "[I", true)
  | _ => ("TonePlates$Sheet", "cleaned", "[I", true)
def tyX5 : Nat → FieldType := fun k => match k with
  | 0 => .int
  | 1 => .int
  | 2 => .int
  | 3 => .int
  | 4 => .array (.object "TonePlates$Plate")
  | 5 => .array .int
  | _ => .array .int
abbrev wsX50 : List Cond := u_ws RX5 TX5 7
theorem nmX5 : ∀ a, a < 7 → ∀ b, b < 7 → a ≠ b → (TX5 a).2.1 ≠ (TX5 b).2.1 := by decide +kernel
theorem tyX5_ok : ∀ k, k < 7 → parseFieldDescriptor (TX5 k).2.2.1 = some (tyX5 k) := by decide +kernel
abbrev cX5_init : ByteArray := prog_7_method_1_code
def yX5_init : MethodName := ⟨RX5, "<init>", "()V"⟩
abbrev cX5_empty : ByteArray := prog_7_method_2_code
def yX5_empty : MethodName := ⟨RX5, "empty", "(II)V"⟩
abbrev cX5_become : ByteArray := prog_7_method_3_code
def yX5_become : MethodName := ⟨RX5, "become", "(LTonePlates$Sheet;)V"⟩
abbrev cX5_addPlate : ByteArray := prog_7_method_4_code
def yX5_addPlate : MethodName := ⟨RX5, "addPlate", "(JIIILTonePlates$Curve;)V"⟩
abbrev cX5_cells : ByteArray := prog_7_method_5_code
def yX5_cells : MethodName := ⟨RX5, "cells", "()I"⟩
abbrev cX5_indexOfCell : ByteArray := prog_7_method_6_code
def yX5_indexOfCell : MethodName := ⟨RX5, "indexOfCell", "(II)I"⟩
abbrev cX5_indexOfName : ByteArray := prog_7_method_7_code
def yX5_indexOfName : MethodName := ⟨RX5, "indexOfName", "(J)I"⟩
abbrev cX5_isCleaned : ByteArray := prog_7_method_8_code
def yX5_isCleaned : MethodName := ⟨RX5, "isCleaned", "(II)Z"⟩
abbrev cX5_cleanedOfAll : ByteArray := prog_7_method_9_code
def yX5_cleanedOfAll : MethodName := ⟨RX5, "cleanedOfAll", "()I"⟩
def RX6 : String := "TonePlates"
def TX6 : u_T := fun k => match k with
  | 0 => ("TonePlates", "buffer", "[B", true)
  | 1 => ("TonePlates", "bufferLength", "I", false)
  | 2 => ("TonePlates", "latestErrorOffset", "I", false)
  | 3 => ("TonePlates", "versions", "[LTonePlates$Sheet;", true)
  | 4 => ("TonePlates", "current", "I", false)
  | 5 => ("TonePlates", "undoable", "I", false)
  | 6 => ("TonePlates", "sheet", "LTonePlates$Sheet;", false)
  | 7 => ("TonePlates", "print", "LTonePlates$Print;", true)
  | _ => ("TonePlates", "reader", "LTonePlates$SetupReader;", true)
def tyX6 : Nat → FieldType := fun k => match k with
  | 0 => .array .byte
  | 1 => .int
  | 2 => .int
  | 3 => .array (.object "TonePlates$Sheet")
  | 4 => .int
  | 5 => .int
  | 6 => .object "TonePlates$Sheet"
  | 7 => .object "TonePlates$Print"
  | _ => .object "TonePlates$SetupReader"
abbrev wsX60 : List Cond := u_ws RX6 TX6 9
theorem nmX6 : ∀ a, a < 9 → ∀ b, b < 9 → a ≠ b → (TX6 a).2.1 ≠ (TX6 b).2.1 := by decide +kernel
theorem tyX6_ok : ∀ k, k < 9 → parseFieldDescriptor (TX6 k).2.2.1 = some (tyX6 k) := by decide +kernel
abbrev cX6_init : ByteArray := prog_1_method_1_code
def yX6_init : MethodName := ⟨RX6, "<init>", "()V"⟩
abbrev cX6_append : ByteArray := prog_1_method_2_code
def yX6_append : MethodName := ⟨RX6, "append", "(IIIII)I"⟩
abbrev cX6_load : ByteArray := prog_1_method_3_code
def yX6_load : MethodName := ⟨RX6, "load", "(I)I"⟩
abbrev cX6_state : ByteArray := prog_1_method_5_code
def yX6_state : MethodName := ⟨RX6, "state", "(I)I"⟩
abbrev cX6_cell : ByteArray := prog_1_method_8_code
def yX6_cell : MethodName := ⟨RX6, "cell", "(IIII)I"⟩
abbrev cX6_tone : ByteArray := prog_1_method_9_code
def yX6_tone : MethodName := ⟨RX6, "tone", "(II)I"⟩
abbrev cX6_inks : ByteArray := prog_1_method_10_code
def yX6_inks : MethodName := ⟨RX6, "inks", "(II)I"⟩
abbrev cX6_why : ByteArray := prog_1_method_11_code
def yX6_why : MethodName := ⟨RX6, "why", "(III)I"⟩
abbrev cX6_paint : ByteArray := prog_1_method_19_code
def yX6_paint : MethodName := ⟨RX6, "paint", "(IIIII)I"⟩
abbrev cX6_shape : ByteArray := prog_1_method_21_code
def yX6_shape : MethodName := ⟨RX6, "shape", "(II)I"⟩
abbrev cX6_shift : ByteArray := prog_1_method_22_code
def yX6_shift : MethodName := ⟨RX6, "shift", "(III)I"⟩
abbrev cX6_limit : ByteArray := prog_1_method_23_code
def yX6_limit : MethodName := ⟨RX6, "limit", "(I)I"⟩
abbrev cX6_undo : ByteArray := prog_1_method_28_code
def yX6_undo : MethodName := ⟨RX6, "undo", "()I"⟩
abbrev cX6_appendWord : ByteArray := prog_1_method_30_code
def yX6_appendWord : MethodName := ⟨RX6, "appendWord", "(I)V"⟩
abbrev cX6_requireBuffered : ByteArray := prog_1_method_31_code
def yX6_requireBuffered : MethodName := ⟨RX6, "requireBuffered", "(I)V"⟩
abbrev cX6_requirePlate : ByteArray := prog_1_method_32_code
def yX6_requirePlate : MethodName := ⟨RX6, "requirePlate", "(I)V"⟩
abbrev cX6_requireCell : ByteArray := prog_1_method_33_code
def yX6_requireCell : MethodName := ⟨RX6, "requireCell", "(II)V"⟩
abbrev cX6_draftSheet : ByteArray := prog_1_method_34_code
def yX6_draftSheet : MethodName := ⟨RX6, "draftSheet", "()LTonePlates$Sheet;"⟩
abbrev cX6_useDraft : ByteArray := prog_1_method_35_code
def yX6_useDraft : MethodName := ⟨RX6, "useDraft", "()V"⟩
abbrev cX6_startChange : ByteArray := prog_1_method_36_code
def yX6_startChange : MethodName := ⟨RX6, "startChange", "()V"⟩
abbrev cX6_sumOfTones : ByteArray := prog_1_method_40_code
def yX6_sumOfTones : MethodName := ⟨RX6, "sumOfTones", "([II)I"⟩
abbrev cX6_packedName : ByteArray := prog_1_method_41_code
def yX6_packedName : MethodName := ⟨RX6, "packedName", "([BII)J"⟩
abbrev cX6_remainder : ByteArray := prog_1_method_42_code
def yX6_remainder : MethodName := ⟨RX6, "remainder", "(II)I"⟩
abbrev cX6_limited : ByteArray := prog_1_method_43_code
def yX6_limited : MethodName := ⟨RX6, "limited", "(JII)I"⟩
def RX7 : String := "TonePlatesLaw$Place"
def TX7 : u_T := fun k => match k with
  | 0 => ("TonePlatesLaw$Place", "x", "I", true)
  | 1 => ("TonePlatesLaw$Place", "y", "I", true)
  | _ => ("TonePlatesLaw$Place", "measure", "I", true)
def tyX7 : Nat → FieldType := fun k => match k with
  | 0 => .int
  | 1 => .int
  | _ => .int
abbrev wsX70 : List Cond := u_ws RX7 TX7 3
theorem nmX7 : ∀ a, a < 3 → ∀ b, b < 3 → a ≠ b → (TX7 a).2.1 ≠ (TX7 b).2.1 := by decide +kernel
theorem tyX7_ok : ∀ k, k < 3 → parseFieldDescriptor (TX7 k).2.2.1 = some (tyX7 k) := by decide +kernel
abbrev cX7_init : ByteArray := prog_9_method_1_code
def yX7_init : MethodName := ⟨RX7, "<init>", "(III)V"⟩
abbrev cX7_isAhead : ByteArray := prog_9_method_2_code
def yX7_isAhead : MethodName := ⟨RX7, "isAhead", "(LTonePlatesLaw$Place;)Z"⟩
def RX8 : String := "TonePlatesLaw$Screen"
def TX8 : u_T := fun k => match k with
  | 0 => ("TonePlatesLaw$Screen", "a", "I", true)
  | 1 => ("TonePlatesLaw$Screen", "b", "I", true)
  | 2 => ("TonePlatesLaw$Screen", "p", "I", true)
  | 3 => ("TonePlatesLaw$Screen", "shape", "I", true)
  | 4 => ("TonePlatesLaw$Screen", "dx", "I", false)
  | 5 => ("TonePlatesLaw$Screen", "dy", "I", false)
  | _ => ("TonePlatesLaw$Screen", "order", "Ljava/util/ArrayList;", true)
def tyX8 : Nat → FieldType := fun k => match k with
  | 0 => .int
  | 1 => .int
  | 2 => .int
  | 3 => .int
  | 4 => .int
  | 5 => .int
  | _ => .object "java/util/ArrayList"
abbrev wsX80 : List Cond := u_ws RX8 TX8 7
theorem nmX8 : ∀ a, a < 7 → ∀ b, b < 7 → a ≠ b → (TX8 a).2.1 ≠ (TX8 b).2.1 := by decide +kernel
theorem tyX8_ok : ∀ k, k < 7 → parseFieldDescriptor (TX8 k).2.2.1 = some (tyX8 k) := by decide +kernel
abbrev cX8_init : ByteArray := prog_10_method_1_code
def yX8_init : MethodName := ⟨RX8, "<init>", "(III)V"⟩
abbrev cX8_measure : ByteArray := prog_10_method_2_code
def yX8_measure : MethodName := ⟨RX8, "measure", "(II)I"⟩
abbrev cX8_comes : ByteArray := prog_10_method_3_code
def yX8_comes : MethodName := ⟨RX8, "comes", "(LTonePlatesLaw$Place;)V"⟩
abbrev cX8_rank : ByteArray := prog_10_method_4_code
def yX8_rank : MethodName := ⟨RX8, "rank", "(II)I"⟩
def RX9 : String := "TonePlatesModel"
def TX9 : u_T := fun k => match k with
  | _ => ("", "", "", false)
def tyX9 : Nat → FieldType := fun k => match k with
  | _ => .int
abbrev wsX90 : List Cond := u_ws RX9 TX9 0
theorem nmX9 : ∀ a, a < 0 → ∀ b, b < 0 → a ≠ b → (TX9 a).2.1 ≠ (TX9 b).2.1 := by decide +kernel
theorem tyX9_ok : ∀ k, k < 0 → parseFieldDescriptor (TX9 k).2.2.1 = some (tyX9 k) := by decide +kernel
def RJx145de : String := "java/io/Serializable"
def TJx145de : u_T := fun k => match k with
  | _ => ("", "", "", false)
def tyJx145de : Nat → FieldType := fun k => match k with
  | _ => .int
abbrev wsJx145de0 : List Cond := u_ws RJx145de TJx145de 0
theorem nmJx145de : ∀ a, a < 0 → ∀ b, b < 0 → a ≠ b → (TJx145de a).2.1 ≠ (TJx145de b).2.1 := by decide +kernel
theorem tyJx145de_ok : ∀ k, k < 0 → parseFieldDescriptor (TJx145de k).2.2.1 = some (tyJx145de k) := by decide +kernel
def RJ5 : String := "java/lang/AbstractStringBuilder"
def TJ5 : u_T := fun k => match k with
  | _ => ("", "", "", false)
def tyJ5 : Nat → FieldType := fun k => match k with
  | _ => .int
abbrev wsJ50 : List Cond := u_ws RJ5 TJ5 0
theorem nmJ5 : ∀ a, a < 0 → ∀ b, b < 0 → a ≠ b → (TJ5 a).2.1 ≠ (TJ5 b).2.1 := by decide +kernel
theorem tyJ5_ok : ∀ k, k < 0 → parseFieldDescriptor (TJ5 k).2.2.1 = some (tyJ5 k) := by decide +kernel
abbrev cJ5_init_d00df : ByteArray := prog_13_method_2_code
def yJ5_init_d00df : MethodName := ⟨RJ5, "<init>", "(I)V"⟩
abbrev cJ5_init_a7421 : ByteArray := prog_13_method_3_code
def yJ5_init_a7421 : MethodName := ⟨RJ5, "<init>", "(Ljava/lang/String;)V"⟩
abbrev cJ5_length_8abf5 : ByteArray := prog_13_method_6_code
def yJ5_length_8abf5 : MethodName := ⟨RJ5, "length", "()I"⟩
abbrev cJ5_ensureCapacityInternal_d00df : ByteArray := prog_13_method_9_code
def yJ5_ensureCapacityInternal_d00df : MethodName := ⟨RJ5, "ensureCapacityInternal", "(I)V"⟩
abbrev cJ5_newCapacity_0f7a4 : ByteArray := prog_13_method_10_code
def yJ5_newCapacity_0f7a4 : MethodName := ⟨RJ5, "newCapacity", "(I)I"⟩
abbrev cJ5_inflate_da8c8 : ByteArray := prog_13_method_11_code
def yJ5_inflate_da8c8 : MethodName := ⟨RJ5, "inflate", "()V"⟩
abbrev cJ5_append_cf1ce : ByteArray := prog_13_method_22_code
def yJ5_append_cf1ce : MethodName := ⟨RJ5, "append", "(Ljava/lang/String;)Ljava/lang/AbstractStringBuilder;"⟩
abbrev cJ5_appendNull_278bc : ByteArray := prog_13_method_26_code
def yJ5_appendNull_278bc : MethodName := ⟨RJ5, "appendNull", "()Ljava/lang/AbstractStringBuilder;"⟩
abbrev cJ5_append_3fe6f : ByteArray := prog_13_method_31_code
def yJ5_append_3fe6f : MethodName := ⟨RJ5, "append", "(C)Ljava/lang/AbstractStringBuilder;"⟩
abbrev cJ5_append_c97b9 : ByteArray := prog_13_method_32_code
def yJ5_append_c97b9 : MethodName := ⟨RJ5, "append", "(I)Ljava/lang/AbstractStringBuilder;"⟩
abbrev cJ5_getValue_6d5f1 : ByteArray := prog_13_method_64_code
def yJ5_getValue_6d5f1 : MethodName := ⟨RJ5, "getValue", "()[B"⟩
abbrev cJ5_isLatin1_aae02 : ByteArray := prog_13_method_68_code
def yJ5_isLatin1_aae02 : MethodName := ⟨RJ5, "isLatin1", "()Z"⟩
abbrev cJ5_inflateIfNeededFor_a7421 : ByteArray := prog_13_method_71_code
def yJ5_inflateIfNeededFor_a7421 : MethodName := ⟨RJ5, "inflateIfNeededFor", "(Ljava/lang/String;)V"⟩
abbrev cJ5_putStringAt_47b60 : ByteArray := prog_13_method_73_code
def yJ5_putStringAt_47b60 : MethodName := ⟨RJ5, "putStringAt", "(ILjava/lang/String;)V"⟩
def RJx2cfe8 : String := "java/lang/Appendable"
def TJx2cfe8 : u_T := fun k => match k with
  | _ => ("", "", "", false)
def tyJx2cfe8 : Nat → FieldType := fun k => match k with
  | _ => .int
abbrev wsJx2cfe80 : List Cond := u_ws RJx2cfe8 TJx2cfe8 0
theorem nmJx2cfe8 : ∀ a, a < 0 → ∀ b, b < 0 → a ≠ b → (TJx2cfe8 a).2.1 ≠ (TJx2cfe8 b).2.1 := by decide +kernel
theorem tyJx2cfe8_ok : ∀ k, k < 0 → parseFieldDescriptor (TJx2cfe8 k).2.2.1 = some (tyJx2cfe8 k) := by decide +kernel
def RJx9f9b0 : String := "java/lang/CharSequence"
def TJx9f9b0 : u_T := fun k => match k with
  | _ => ("", "", "", false)
def tyJx9f9b0 : Nat → FieldType := fun k => match k with
  | _ => .int
abbrev wsJx9f9b00 : List Cond := u_ws RJx9f9b0 TJx9f9b0 0
theorem nmJx9f9b0 : ∀ a, a < 0 → ∀ b, b < 0 → a ≠ b → (TJx9f9b0 a).2.1 ≠ (TJx9f9b0 b).2.1 := by decide +kernel
theorem tyJx9f9b0_ok : ∀ k, k < 0 → parseFieldDescriptor (TJx9f9b0 k).2.2.1 = some (tyJx9f9b0 k) := by decide +kernel
def RJx8e188 : String := "java/lang/Cloneable"
def TJx8e188 : u_T := fun k => match k with
  | _ => ("", "", "", false)
def tyJx8e188 : Nat → FieldType := fun k => match k with
  | _ => .int
abbrev wsJx8e1880 : List Cond := u_ws RJx8e188 TJx8e188 0
theorem nmJx8e188 : ∀ a, a < 0 → ∀ b, b < 0 → a ≠ b → (TJx8e188 a).2.1 ≠ (TJx8e188 b).2.1 := by decide +kernel
theorem tyJx8e188_ok : ∀ k, k < 0 → parseFieldDescriptor (TJx8e188 k).2.2.1 = some (tyJx8e188 k) := by decide +kernel
def RJxb160c : String := "java/lang/Comparable"
def TJxb160c : u_T := fun k => match k with
  | _ => ("", "", "", false)
def tyJxb160c : Nat → FieldType := fun k => match k with
  | _ => .int
abbrev wsJxb160c0 : List Cond := u_ws RJxb160c TJxb160c 0
theorem nmJxb160c : ∀ a, a < 0 → ∀ b, b < 0 → a ≠ b → (TJxb160c a).2.1 ≠ (TJxb160c b).2.1 := by decide +kernel
theorem tyJxb160c_ok : ∀ k, k < 0 → parseFieldDescriptor (TJxb160c k).2.2.1 = some (tyJxb160c k) := by decide +kernel
def RJ6 : String := "java/lang/Integer"
def TJ6 : u_T := fun k => match k with
  | _ => ("", "", "", false)
def tyJ6 : Nat → FieldType := fun k => match k with
  | _ => .int
abbrev wsJ60 : List Cond := u_ws RJ6 TJ6 0
theorem nmJ6 : ∀ a, a < 0 → ∀ b, b < 0 → a ≠ b → (TJ6 a).2.1 ≠ (TJ6 b).2.1 := by decide +kernel
theorem tyJ6_ok : ∀ k, k < 0 → parseFieldDescriptor (TJ6 k).2.2.1 = some (tyJ6 k) := by decide +kernel
abbrev cJ6_getChars_ba4f3 : ByteArray := prog_21_method_12_code
def yJ6_getChars_ba4f3 : MethodName := ⟨RJ6, "getChars", "(II[B)I"⟩
abbrev cJ6_stringSize_0f7a4 : ByteArray := prog_21_method_13_code
def yJ6_stringSize_0f7a4 : MethodName := ⟨RJ6, "stringSize", "(I)I"⟩
abbrev cJ6_bitCount_0f7a4 : ByteArray := prog_21_method_49_code
def yJ6_bitCount_0f7a4 : MethodName := ⟨RJ6, "bitCount", "(I)I"⟩
def RJxab1ab : String := "java/lang/Iterable"
def TJxab1ab : u_T := fun k => match k with
  | _ => ("", "", "", false)
def tyJxab1ab : Nat → FieldType := fun k => match k with
  | _ => .int
abbrev wsJxab1ab0 : List Cond := u_ws RJxab1ab TJxab1ab 0
theorem nmJxab1ab : ∀ a, a < 0 → ∀ b, b < 0 → a ≠ b → (TJxab1ab a).2.1 ≠ (TJxab1ab b).2.1 := by decide +kernel
theorem tyJxab1ab_ok : ∀ k, k < 0 → parseFieldDescriptor (TJxab1ab k).2.2.1 = some (tyJxab1ab k) := by decide +kernel
def RJ9 : String := "java/lang/Math"
def TJ9 : u_T := fun k => match k with
  | _ => ("", "", "", false)
def tyJ9 : Nat → FieldType := fun k => match k with
  | _ => .int
abbrev wsJ90 : List Cond := u_ws RJ9 TJ9 0
theorem nmJ9 : ∀ a, a < 0 → ∀ b, b < 0 → a ≠ b → (TJ9 a).2.1 ≠ (TJ9 b).2.1 := by decide +kernel
theorem tyJ9_ok : ∀ k, k < 0 → parseFieldDescriptor (TJ9 k).2.2.1 = some (tyJ9 k) := by decide +kernel
abbrev cJ9_floorMod_7cf53 : ByteArray := prog_23_method_50_code
def yJ9_floorMod_7cf53 : MethodName := ⟨RJ9, "floorMod", "(II)I"⟩
abbrev cJ9_abs_0f7a4 : ByteArray := prog_23_method_59_code
def yJ9_abs_0f7a4 : MethodName := ⟨RJ9, "abs", "(I)I"⟩
abbrev cJ9_max_7cf53 : ByteArray := prog_23_method_65_code
def yJ9_max_7cf53 : MethodName := ⟨RJ9, "max", "(II)I"⟩
abbrev cJ9_max_f86c9 : ByteArray := prog_23_method_66_code
def yJ9_max_f86c9 : MethodName := ⟨RJ9, "max", "(JJ)J"⟩
abbrev cJ9_min_7cf53 : ByteArray := prog_23_method_69_code
def yJ9_min_7cf53 : MethodName := ⟨RJ9, "min", "(II)I"⟩
abbrev cJ9_min_f86c9 : ByteArray := prog_23_method_70_code
def yJ9_min_f86c9 : MethodName := ⟨RJ9, "min", "(JJ)J"⟩
def RJxd2413 : String := "java/lang/Number"
def TJxd2413 : u_T := fun k => match k with
  | _ => ("", "", "", false)
def tyJxd2413 : Nat → FieldType := fun k => match k with
  | _ => .int
abbrev wsJxd24130 : List Cond := u_ws RJxd2413 TJxd2413 0
theorem nmJxd2413 : ∀ a, a < 0 → ∀ b, b < 0 → a ≠ b → (TJxd2413 a).2.1 ≠ (TJxd2413 b).2.1 := by decide +kernel
theorem tyJxd2413_ok : ∀ k, k < 0 → parseFieldDescriptor (TJxd2413 k).2.2.1 = some (tyJxd2413 k) := by decide +kernel
def RJ0 : String := "java/lang/String"
def TJ0 : u_T := fun k => match k with
  | 0 => ("java/lang/String", "value", "[B", true)
  | 1 => ("java/lang/String", "coder", "B", true)
  | 2 => ("java/lang/String", "hash", "I", false)
  | _ => ("java/lang/String", "hashIsZero", "Z", false)
def tyJ0 : Nat → FieldType := fun k => match k with
  | 0 => .array .byte
  | 1 => .byte
  | 2 => .int
  | _ => .boolean
abbrev wsJ00 : List Cond := u_ws RJ0 TJ0 4
theorem nmJ0 : ∀ a, a < 4 → ∀ b, b < 4 → a ≠ b → (TJ0 a).2.1 ≠ (TJ0 b).2.1 := by decide +kernel
theorem tyJ0_ok : ∀ k, k < 4 → parseFieldDescriptor (TJ0 k).2.2.1 = some (tyJ0 k) := by decide +kernel
abbrev cJ0_init_81219 : ByteArray := prog_26_method_53_code
def yJ0_init_81219 : MethodName := ⟨RJ0, "<init>", "(Ljava/lang/StringBuilder;)V"⟩
abbrev cJ0_length_8abf5 : ByteArray := prog_26_method_54_code
def yJ0_length_8abf5 : MethodName := ⟨RJ0, "length", "()I"⟩
abbrev cJ0_charAt_5068e : ByteArray := prog_26_method_56_code
def yJ0_charAt_5068e : MethodName := ⟨RJ0, "charAt", "(I)C"⟩
abbrev cJ0_getBytes_840e7 : ByteArray := prog_26_method_147_code
def yJ0_getBytes_840e7 : MethodName := ⟨RJ0, "getBytes", "([BIB)V"⟩
abbrev cJ0_init_db425 : ByteArray := prog_26_method_150_code
def yJ0_init_db425 : MethodName := ⟨RJ0, "<init>", "(Ljava/lang/AbstractStringBuilder;Ljava/lang/Void;)V"⟩
abbrev cJ0_coder_7d493 : ByteArray := prog_26_method_152_code
def yJ0_coder_7d493 : MethodName := ⟨RJ0, "coder", "()B"⟩
abbrev cJ0_isLatin1_aae02 : ByteArray := prog_26_method_154_code
def yJ0_isLatin1_aae02 : MethodName := ⟨RJ0, "isLatin1", "()Z"⟩
abbrev cJ0_checkIndex_df160 : ByteArray := prog_26_method_155_code
def yJ0_checkIndex_df160 : MethodName := ⟨RJ0, "checkIndex", "(II)V"⟩
abbrev cJ0_checkBoundsOffCount_cabcc : ByteArray := prog_26_method_157_code
def yJ0_checkBoundsOffCount_cabcc : MethodName := ⟨RJ0, "checkBoundsOffCount", "(III)I"⟩
abbrev cJ0_checkBoundsBeginEnd_23922 : ByteArray := prog_26_method_158_code
def yJ0_checkBoundsBeginEnd_23922 : MethodName := ⟨RJ0, "checkBoundsBeginEnd", "(III)V"⟩
def RJ4 : String := "java/lang/StringBuilder"
def TJ4 : u_T := fun k => match k with
  | 0 => ("java/lang/AbstractStringBuilder", "value", "[B", false)
  | 1 => ("java/lang/AbstractStringBuilder", "coder", "B", false)
  | 2 => ("java/lang/AbstractStringBuilder", "maybeLatin1", "Z", false)
  | _ => ("java/lang/AbstractStringBuilder", "count", "I", false)
def tyJ4 : Nat → FieldType := fun k => match k with
  | 0 => .array .byte
  | 1 => .byte
  | 2 => .boolean
  | _ => .int
abbrev wsJ40 : List Cond := u_ws RJ4 TJ4 4
theorem nmJ4 : ∀ a, a < 4 → ∀ b, b < 4 → a ≠ b → (TJ4 a).2.1 ≠ (TJ4 b).2.1 := by decide +kernel
theorem tyJ4_ok : ∀ k, k < 4 → parseFieldDescriptor (TJ4 k).2.2.1 = some (tyJ4 k) := by decide +kernel
abbrev cJ4_init_da8c8 : ByteArray := prog_27_method_1_code
def yJ4_init_da8c8 : MethodName := ⟨RJ4, "<init>", "()V"⟩
abbrev cJ4_init_a7421 : ByteArray := prog_27_method_3_code
def yJ4_init_a7421 : MethodName := ⟨RJ4, "<init>", "(Ljava/lang/String;)V"⟩
abbrev cJ4_append_15ec4 : ByteArray := prog_27_method_7_code
def yJ4_append_15ec4 : MethodName := ⟨RJ4, "append", "(Ljava/lang/String;)Ljava/lang/StringBuilder;"⟩
abbrev cJ4_append_cf468 : ByteArray := prog_27_method_14_code
def yJ4_append_cf468 : MethodName := ⟨RJ4, "append", "(C)Ljava/lang/StringBuilder;"⟩
abbrev cJ4_append_bf812 : ByteArray := prog_27_method_15_code
def yJ4_append_bf812 : MethodName := ⟨RJ4, "append", "(I)Ljava/lang/StringBuilder;"⟩
abbrev cJ4_toString_0e30d : ByteArray := prog_27_method_42_code
def yJ4_toString_0e30d : MethodName := ⟨RJ4, "toString", "()Ljava/lang/String;"⟩
abbrev cJ4_append_cf1ce : ByteArray := prog_27_method_80_code
def yJ4_append_cf1ce : MethodName := ⟨RJ4, "append", "(Ljava/lang/String;)Ljava/lang/AbstractStringBuilder;"⟩
abbrev cJ4_length_8abf5 : ByteArray := prog_27_method_93_code
def yJ4_length_8abf5 : MethodName := ⟨RJ4, "length", "()I"⟩
def RJ1 : String := "java/lang/StringLatin1"
def TJ1 : u_T := fun k => match k with
  | _ => ("", "", "", false)
def tyJ1 : Nat → FieldType := fun k => match k with
  | _ => .int
abbrev wsJ10 : List Cond := u_ws RJ1 TJ1 0
theorem nmJ1 : ∀ a, a < 0 → ∀ b, b < 0 → a ≠ b → (TJ1 a).2.1 ≠ (TJ1 b).2.1 := by decide +kernel
theorem tyJ1_ok : ∀ k, k < 0 → parseFieldDescriptor (TJ1 k).2.2.1 = some (tyJ1 k) := by decide +kernel
abbrev cJ1_charAt_3b067 : ByteArray := prog_28_method_2_code
def yJ1_charAt_3b067 : MethodName := ⟨RJ1, "charAt", "([BI)C"⟩
abbrev cJ1_canEncode_fc78d : ByteArray := prog_28_method_3_code
def yJ1_canEncode_fc78d : MethodName := ⟨RJ1, "canEncode", "(C)Z"⟩
abbrev cJ1_inflate_0e8fd : ByteArray := prog_28_method_50_code
def yJ1_inflate_0e8fd : MethodName := ⟨RJ1, "inflate", "([BI[BII)V"⟩
def RJ2 : String := "java/lang/StringUTF16"
def TJ2 : u_T := fun k => match k with
  | _ => ("", "", "", false)
def tyJ2 : Nat → FieldType := fun k => match k with
  | _ => .int
abbrev wsJ20 : List Cond := u_ws RJ2 TJ2 0
theorem nmJ2 : ∀ a, a < 0 → ∀ b, b < 0 → a ≠ b → (TJ2 a).2.1 ≠ (TJ2 b).2.1 := by decide +kernel
theorem tyJ2_ok : ∀ k, k < 0 → parseFieldDescriptor (TJ2 k).2.2.1 = some (tyJ2 k) := by decide +kernel
abbrev cJ2_newBytesFor_77867 : ByteArray := prog_29_method_2_code
def yJ2_newBytesFor_77867 : MethodName := ⟨RJ2, "newBytesFor", "(I)[B"⟩
abbrev cJ2_newBytesLength_0f7a4 : ByteArray := prog_29_method_3_code
def yJ2_newBytesLength_0f7a4 : MethodName := ⟨RJ2, "newBytesLength", "(I)I"⟩
abbrev cJ2_putChar_b72d1 : ByteArray := prog_29_method_4_code
def yJ2_putChar_b72d1 : MethodName := ⟨RJ2, "putChar", "([BII)V"⟩
abbrev cJ2_getChar_3b067 : ByteArray := prog_29_method_5_code
def yJ2_getChar_3b067 : MethodName := ⟨RJ2, "getChar", "([BI)C"⟩
abbrev cJ2_length_9d52b : ByteArray := prog_29_method_6_code
def yJ2_length_9d52b : MethodName := ⟨RJ2, "length", "([B)I"⟩
abbrev cJ2_coderFromArrayLen_85cad : ByteArray := prog_29_method_15_code
def yJ2_coderFromArrayLen_85cad : MethodName := ⟨RJ2, "coderFromArrayLen", "([BI)B"⟩
abbrev cJ2_compress_39247 : ByteArray := prog_29_method_17_code
def yJ2_compress_39247 : MethodName := ⟨RJ2, "compress", "([BII)[B"⟩
abbrev cJ2_compress_5af95 : ByteArray := prog_29_method_22_code
def yJ2_compress_5af95 : MethodName := ⟨RJ2, "compress", "([BI[BII)I"⟩
abbrev cJ2_putCharSB_b72d1 : ByteArray := prog_29_method_71_code
def yJ2_putCharSB_b72d1 : MethodName := ⟨RJ2, "putCharSB", "([BII)V"⟩
abbrev cJ2_getChars_46870 : ByteArray := prog_29_method_77_code
def yJ2_getChars_46870 : MethodName := ⟨RJ2, "getChars", "(III[B)I"⟩
abbrev cJ2_putCharsAt_cd4e5 : ByteArray := prog_29_method_81_code
def yJ2_putCharsAt_cd4e5 : MethodName := ⟨RJ2, "putCharsAt", "([BICCCC)I"⟩
abbrev cJ2_charAt_3b067 : ByteArray := prog_29_method_83_code
def yJ2_charAt_3b067 : MethodName := ⟨RJ2, "charAt", "([BI)C"⟩
abbrev cJ2_inflate_0e8fd : ByteArray := prog_29_method_86_code
def yJ2_inflate_0e8fd : MethodName := ⟨RJ2, "inflate", "([BI[BII)V"⟩
abbrev cJ2_getChars_ba4f3 : ByteArray := prog_29_method_89_code
def yJ2_getChars_ba4f3 : MethodName := ⟨RJ2, "getChars", "(II[B)I"⟩
abbrev cJ2_checkIndex_2214a : ByteArray := prog_29_method_91_code
def yJ2_checkIndex_2214a : MethodName := ⟨RJ2, "checkIndex", "(I[B)V"⟩
abbrev cJ2_checkBoundsBeginEnd_d044e : ByteArray := prog_29_method_93_code
def yJ2_checkBoundsBeginEnd_d044e : MethodName := ⟨RJ2, "checkBoundsBeginEnd", "(II[B)V"⟩
abbrev cJ2_checkBoundsOffCount_d044e : ByteArray := prog_29_method_94_code
def yJ2_checkBoundsOffCount_d044e : MethodName := ⟨RJ2, "checkBoundsOffCount", "(II[B)V"⟩
def RJ10 : String := "java/lang/System"
def TJ10 : u_T := fun k => match k with
  | _ => ("", "", "", false)
def tyJ10 : Nat → FieldType := fun k => match k with
  | _ => .int
abbrev wsJ100 : List Cond := u_ws RJ10 TJ10 0
theorem nmJ10 : ∀ a, a < 0 → ∀ b, b < 0 → a ≠ b → (TJ10 a).2.1 ≠ (TJ10 b).2.1 := by decide +kernel
theorem tyJ10_ok : ∀ k, k < 0 → parseFieldDescriptor (TJ10 k).2.2.1 = some (tyJ10 k) := by decide +kernel
def RJxfd54e : String := "java/lang/constant/Constable"
def TJxfd54e : u_T := fun k => match k with
  | _ => ("", "", "", false)
def tyJxfd54e : Nat → FieldType := fun k => match k with
  | _ => .int
abbrev wsJxfd54e0 : List Cond := u_ws RJxfd54e TJxfd54e 0
theorem nmJxfd54e : ∀ a, a < 0 → ∀ b, b < 0 → a ≠ b → (TJxfd54e a).2.1 ≠ (TJxfd54e b).2.1 := by decide +kernel
theorem tyJxfd54e_ok : ∀ k, k < 0 → parseFieldDescriptor (TJxfd54e k).2.2.1 = some (tyJxfd54e k) := by decide +kernel
def RJx3cf43 : String := "java/lang/constant/ConstantDesc"
def TJx3cf43 : u_T := fun k => match k with
  | _ => ("", "", "", false)
def tyJx3cf43 : Nat → FieldType := fun k => match k with
  | _ => .int
abbrev wsJx3cf430 : List Cond := u_ws RJx3cf43 TJx3cf43 0
theorem nmJx3cf43 : ∀ a, a < 0 → ∀ b, b < 0 → a ≠ b → (TJx3cf43 a).2.1 ≠ (TJx3cf43 b).2.1 := by decide +kernel
theorem tyJx3cf43_ok : ∀ k, k < 0 → parseFieldDescriptor (TJx3cf43 k).2.2.1 = some (tyJx3cf43 k) := by decide +kernel
def RJxa1e45 : String := "java/util/AbstractCollection"
def TJxa1e45 : u_T := fun k => match k with
  | _ => ("", "", "", false)
def tyJxa1e45 : Nat → FieldType := fun k => match k with
  | _ => .int
abbrev wsJxa1e450 : List Cond := u_ws RJxa1e45 TJxa1e45 0
theorem nmJxa1e45 : ∀ a, a < 0 → ∀ b, b < 0 → a ≠ b → (TJxa1e45 a).2.1 ≠ (TJxa1e45 b).2.1 := by decide +kernel
theorem tyJxa1e45_ok : ∀ k, k < 0 → parseFieldDescriptor (TJxa1e45 k).2.2.1 = some (tyJxa1e45 k) := by decide +kernel
abbrev cJxa1e45_init_da8c8 : ByteArray := prog_34_method_1_code
def yJxa1e45_init_da8c8 : MethodName := ⟨RJxa1e45, "<init>", "()V"⟩
def RJxc12de : String := "java/util/AbstractList"
def TJxc12de : u_T := fun k => match k with
  | _ => ("", "", "", false)
def tyJxc12de : Nat → FieldType := fun k => match k with
  | _ => .int
abbrev wsJxc12de0 : List Cond := u_ws RJxc12de TJxc12de 0
theorem nmJxc12de : ∀ a, a < 0 → ∀ b, b < 0 → a ≠ b → (TJxc12de a).2.1 ≠ (TJxc12de b).2.1 := by decide +kernel
theorem tyJxc12de_ok : ∀ k, k < 0 → parseFieldDescriptor (TJxc12de k).2.2.1 = some (tyJxc12de k) := by decide +kernel
abbrev cJxc12de_init_da8c8 : ByteArray := prog_35_method_1_code
def yJxc12de_init_da8c8 : MethodName := ⟨RJxc12de, "<init>", "()V"⟩
def RJx4a65c : String := "java/util/ArrayList"
def TJx4a65c : u_T := fun k => match k with
  | 0 => ("java/util/AbstractList", "modCount", "I", false)
  | 1 => ("java/util/ArrayList", "elementData", "[Ljava/lang/Object;", false)
  | _ => ("java/util/ArrayList", "size", "I", false)
def tyJx4a65c : Nat → FieldType := fun k => match k with
  | 0 => .int
  | 1 => .array (.object "java/lang/Object")
  | _ => .int
abbrev wsJx4a65c0 : List Cond := u_ws RJx4a65c TJx4a65c 3
theorem nmJx4a65c : ∀ a, a < 3 → ∀ b, b < 3 → a ≠ b → (TJx4a65c a).2.1 ≠ (TJx4a65c b).2.1 := by decide +kernel
theorem tyJx4a65c_ok : ∀ k, k < 3 → parseFieldDescriptor (TJx4a65c k).2.2.1 = some (tyJx4a65c k) := by decide +kernel
abbrev cJx4a65c_init_da8c8 : ByteArray := prog_36_method_2_code
def yJx4a65c_init_da8c8 : MethodName := ⟨RJx4a65c, "<init>", "()V"⟩
abbrev cJx4a65c_grow_92f84 : ByteArray := prog_36_method_6_code
def yJx4a65c_grow_92f84 : MethodName := ⟨RJx4a65c, "grow", "(I)[Ljava/lang/Object;"⟩
abbrev cJx4a65c_grow_d5877 : ByteArray := prog_36_method_7_code
def yJx4a65c_grow_d5877 : MethodName := ⟨RJx4a65c, "grow", "()[Ljava/lang/Object;"⟩
abbrev cJx4a65c_size_8abf5 : ByteArray := prog_36_method_8_code
def yJx4a65c_size_8abf5 : MethodName := ⟨RJx4a65c, "size", "()I"⟩
abbrev cJx4a65c_elementData_915e3 : ByteArray := prog_36_method_18_code
def yJx4a65c_elementData_915e3 : MethodName := ⟨RJx4a65c, "elementData", "(I)Ljava/lang/Object;"⟩
abbrev cJx4a65c_get_915e3 : ByteArray := prog_36_method_20_code
def yJx4a65c_get_915e3 : MethodName := ⟨RJx4a65c, "get", "(I)Ljava/lang/Object;"⟩
abbrev cJx4a65c_set_bcc79 : ByteArray := prog_36_method_23_code
def yJx4a65c_set_bcc79 : MethodName := ⟨RJx4a65c, "set", "(ILjava/lang/Object;)Ljava/lang/Object;"⟩
abbrev cJx4a65c_add_72be8 : ByteArray := prog_36_method_24_code
def yJx4a65c_add_72be8 : MethodName := ⟨RJx4a65c, "add", "(Ljava/lang/Object;[Ljava/lang/Object;I)V"⟩
abbrev cJx4a65c_add_9ea2d : ByteArray := prog_36_method_25_code
def yJx4a65c_add_9ea2d : MethodName := ⟨RJx4a65c, "add", "(Ljava/lang/Object;)Z"⟩
abbrev cJx4a65c_add_7a177 : ByteArray := prog_36_method_26_code
def yJx4a65c_add_7a177 : MethodName := ⟨RJx4a65c, "add", "(ILjava/lang/Object;)V"⟩
abbrev cJx4a65c_rangeCheckForAdd_d00df : ByteArray := prog_36_method_45_code
def yJx4a65c_rangeCheckForAdd_d00df : MethodName := ⟨RJx4a65c, "rangeCheckForAdd", "(I)V"⟩
def RJ7 : String := "java/util/Arrays"
def TJ7 : u_T := fun k => match k with
  | _ => ("", "", "", false)
def tyJ7 : Nat → FieldType := fun k => match k with
  | _ => .int
abbrev wsJ70 : List Cond := u_ws RJ7 TJ7 0
theorem nmJ7 : ∀ a, a < 0 → ∀ b, b < 0 → a ≠ b → (TJ7 a).2.1 ≠ (TJ7 b).2.1 := by decide +kernel
theorem tyJ7_ok : ∀ k, k < 0 → parseFieldDescriptor (TJ7 k).2.2.1 = some (tyJ7 k) := by decide +kernel
abbrev cJ7_fill_53178 : ByteArray := prog_37_method_103_code
def yJ7_fill_53178 : MethodName := ⟨RJ7, "fill", "([II)V"⟩
abbrev cJ7_copyOf_1904c : ByteArray := prog_37_method_119_code
def yJ7_copyOf_1904c : MethodName := ⟨RJ7, "copyOf", "([Ljava/lang/Object;I)[Ljava/lang/Object;"⟩
abbrev cJ7_copyOf_6403c : ByteArray := prog_37_method_120_code
def yJ7_copyOf_6403c : MethodName := ⟨RJ7, "copyOf", "([Ljava/lang/Object;ILjava/lang/Class;)[Ljava/lang/Object;"⟩
abbrev cJ7_copyOf_9075b : ByteArray := prog_37_method_121_code
def yJ7_copyOf_9075b : MethodName := ⟨RJ7, "copyOf", "([BI)[B"⟩
abbrev cJ7_copyOf_59c91 : ByteArray := prog_37_method_123_code
def yJ7_copyOf_59c91 : MethodName := ⟨RJ7, "copyOf", "([II)[I"⟩
abbrev cJ7_checkLength_df160 : ByteArray := prog_37_method_131_code
def yJ7_checkLength_df160 : MethodName := ⟨RJ7, "checkLength", "(II)V"⟩
abbrev cJ7_copyOfRange_39247 : ByteArray := prog_37_method_132_code
def yJ7_copyOfRange_39247 : MethodName := ⟨RJ7, "copyOfRange", "([BII)[B"⟩
abbrev cJ7_copyOfRangeByte_39247 : ByteArray := prog_37_method_133_code
def yJ7_copyOfRangeByte_39247 : MethodName := ⟨RJ7, "copyOfRangeByte", "([BII)[B"⟩
def RJx5ef63 : String := "java/util/Collection"
def TJx5ef63 : u_T := fun k => match k with
  | _ => ("", "", "", false)
def tyJx5ef63 : Nat → FieldType := fun k => match k with
  | _ => .int
abbrev wsJx5ef630 : List Cond := u_ws RJx5ef63 TJx5ef63 0
theorem nmJx5ef63 : ∀ a, a < 0 → ∀ b, b < 0 → a ≠ b → (TJx5ef63 a).2.1 ≠ (TJx5ef63 b).2.1 := by decide +kernel
theorem tyJx5ef63_ok : ∀ k, k < 0 → parseFieldDescriptor (TJx5ef63 k).2.2.1 = some (tyJx5ef63 k) := by decide +kernel
def RJxbd725 : String := "java/util/List"
def TJxbd725 : u_T := fun k => match k with
  | _ => ("", "", "", false)
def tyJxbd725 : Nat → FieldType := fun k => match k with
  | _ => .int
abbrev wsJxbd7250 : List Cond := u_ws RJxbd725 TJxbd725 0
theorem nmJxbd725 : ∀ a, a < 0 → ∀ b, b < 0 → a ≠ b → (TJxbd725 a).2.1 ≠ (TJxbd725 b).2.1 := by decide +kernel
theorem tyJxbd725_ok : ∀ k, k < 0 → parseFieldDescriptor (TJxbd725 k).2.2.1 = some (tyJxbd725 k) := by decide +kernel
def RJ15 : String := "java/util/Objects"
def TJ15 : u_T := fun k => match k with
  | _ => ("", "", "", false)
def tyJ15 : Nat → FieldType := fun k => match k with
  | _ => .int
abbrev wsJ150 : List Cond := u_ws RJ15 TJ15 0
theorem nmJ15 : ∀ a, a < 0 → ∀ b, b < 0 → a ≠ b → (TJ15 a).2.1 ≠ (TJ15 b).2.1 := by decide +kernel
theorem tyJ15_ok : ∀ k, k < 0 → parseFieldDescriptor (TJ15 k).2.2.1 = some (tyJ15 k) := by decide +kernel
abbrev cJ15_checkIndex_7cf53 : ByteArray := prog_40_method_17_code
def yJ15_checkIndex_7cf53 : MethodName := ⟨RJ15, "checkIndex", "(II)I"⟩
def RJxf0a74 : String := "java/util/RandomAccess"
def TJxf0a74 : u_T := fun k => match k with
  | _ => ("", "", "", false)
def tyJxf0a74 : Nat → FieldType := fun k => match k with
  | _ => .int
abbrev wsJxf0a740 : List Cond := u_ws RJxf0a74 TJxf0a74 0
theorem nmJxf0a74 : ∀ a, a < 0 → ∀ b, b < 0 → a ≠ b → (TJxf0a74 a).2.1 ≠ (TJxf0a74 b).2.1 := by decide +kernel
theorem tyJxf0a74_ok : ∀ k, k < 0 → parseFieldDescriptor (TJxf0a74 k).2.2.1 = some (tyJxf0a74 k) := by decide +kernel
def RJxa66e6 : String := "java/util/SequencedCollection"
def TJxa66e6 : u_T := fun k => match k with
  | _ => ("", "", "", false)
def tyJxa66e6 : Nat → FieldType := fun k => match k with
  | _ => .int
abbrev wsJxa66e60 : List Cond := u_ws RJxa66e6 TJxa66e6 0
theorem nmJxa66e6 : ∀ a, a < 0 → ∀ b, b < 0 → a ≠ b → (TJxa66e6 a).2.1 ≠ (TJxa66e6 b).2.1 := by decide +kernel
theorem tyJxa66e6_ok : ∀ k, k < 0 → parseFieldDescriptor (TJxa66e6 k).2.2.1 = some (tyJxa66e6 k) := by decide +kernel
def RJ8 : String := "jdk/internal/util/ArraysSupport"
def TJ8 : u_T := fun k => match k with
  | _ => ("", "", "", false)
def tyJ8 : Nat → FieldType := fun k => match k with
  | _ => .int
abbrev wsJ80 : List Cond := u_ws RJ8 TJ8 0
theorem nmJ8 : ∀ a, a < 0 → ∀ b, b < 0 → a ≠ b → (TJ8 a).2.1 ≠ (TJ8 b).2.1 := by decide +kernel
theorem tyJ8_ok : ∀ k, k < 0 → parseFieldDescriptor (TJ8 k).2.2.1 = some (tyJ8 k) := by decide +kernel
abbrev cJ8_newLength_cabcc : ByteArray := prog_43_method_27_code
def yJ8_newLength_cabcc : MethodName := ⟨RJ8, "newLength", "(III)I"⟩
abbrev cJ8_hugeLength_7cf53 : ByteArray := prog_43_method_28_code
def yJ8_hugeLength_7cf53 : MethodName := ⟨RJ8, "hugeLength", "(II)I"⟩
def RJ3 : String := "jdk/internal/util/Preconditions"
def TJ3 : u_T := fun k => match k with
  | _ => ("", "", "", false)
def tyJ3 : Nat → FieldType := fun k => match k with
  | _ => .int
abbrev wsJ30 : List Cond := u_ws RJ3 TJ3 0
theorem nmJ3 : ∀ a, a < 0 → ∀ b, b < 0 → a ≠ b → (TJ3 a).2.1 ≠ (TJ3 b).2.1 := by decide +kernel
theorem tyJ3_ok : ∀ k, k < 0 → parseFieldDescriptor (TJ3 k).2.2.1 = some (tyJ3 k) := by decide +kernel
abbrev cJ3_checkIndex_8e157 : ByteArray := prog_44_method_11_code
def yJ3_checkIndex_8e157 : MethodName := ⟨RJ3, "checkIndex", "(IILjava/util/function/BiFunction;)I"⟩
abbrev cJ3_checkFromToIndex_8c36e : ByteArray := prog_44_method_12_code
def yJ3_checkFromToIndex_8c36e : MethodName := ⟨RJ3, "checkFromToIndex", "(IIILjava/util/function/BiFunction;)I"⟩
abbrev cJ3_checkFromIndexSize_8c36e : ByteArray := prog_44_method_13_code
def yJ3_checkFromIndexSize_8c36e : MethodName := ⟨RJ3, "checkFromIndexSize", "(IIILjava/util/function/BiFunction;)I"⟩
def RL : String := "TonePlatesLaw"
abbrev cL_cell : ByteArray := method_2_code
def yL_cell : MethodName := ⟨RL, "cell", "([II)I"⟩
abbrev cL_bound : ByteArray := method_3_code
def yL_bound : MethodName := ⟨RL, "bound", "(II)I"⟩
abbrev cL_feeds : ByteArray := method_4_code
def yL_feeds : MethodName := ⟨RL, "feeds", "(LTonePlates;Ljava/lang/String;)I"⟩
abbrev cL_read : ByteArray := method_5_code
def yL_read : MethodName := ⟨RL, "read", "(LTonePlates;Ljava/lang/String;)I"⟩
abbrev cL_shapeOf : ByteArray := method_6_code
def yL_shapeOf : MethodName := ⟨RL, "shapeOf", "(I)Ljava/lang/String;"⟩
abbrev cL_toneOf : ByteArray := method_7_code
def yL_toneOf : MethodName := ⟨RL, "toneOf", "(III)I"⟩
abbrev cL_isPrinted : ByteArray := method_8_code
def yL_isPrinted : MethodName := ⟨RL, "isPrinted", "(LTonePlates;Ljava/util/ArrayList;[[II)Z"⟩
abbrev cL_law : ByteArray := code
def yL_law : MethodName := ⟨RL, "law", "([I)Z"⟩
abbrev vwCl : List vw_C := [(RJ0, TJ0, 4), (RJ4, TJ4, 4), (RJx4a65c, TJx4a65c, 3), (RX0, TX0, 1), (RX1, TX1, 8), (RX2, TX2, 8), (RX3, TX3, 5), (RX4, TX4, 13), (RX5, TX5, 7), (RX6, TX6, 9), (RX7, TX7, 3), (RX8, TX8, 7)]
end
section
theorem dX0_init_0 : decode cX0_init 0 = .ok (.aload_n 0, 1) := by decide +kernel
theorem dX0_init_1 : decode cX0_init 1 = .ok (.invokespecial 3, 3) := by decide +kernel
theorem dX0_init_4 : decode cX0_init 4 = .ok (.aload_n 0, 1) := by decide +kernel
theorem dX0_init_5 : decode cX0_init 5 = .ok (.aload_n 1, 1) := by decide +kernel
theorem dX0_init_6 : decode cX0_init 6 = .ok (.putfield 9, 3) := by decide +kernel
theorem dX0_init_9 : decode cX0_init 9 = .ok (.return_, 1) := by decide +kernel
theorem dX0_toneAt_0 : decode cX0_toneAt 0 = .ok (.iconst 0, 1) := by decide +kernel
theorem dX0_toneAt_1 : decode cX0_toneAt 1 = .ok (.istore 6, 2) := by decide +kernel
theorem dX0_toneAt_3 : decode cX0_toneAt 3 = .ok (.aload_n 0, 1) := by decide +kernel
theorem dX0_toneAt_4 : decode cX0_toneAt 4 = .ok (.getfield 9, 3) := by decide +kernel
theorem dX0_toneAt_7 : decode cX0_toneAt 7 = .ok (.astore 7, 2) := by decide +kernel
theorem dX0_toneAt_9 : decode cX0_toneAt 9 = .ok (.aload 7, 2) := by decide +kernel
theorem dX0_toneAt_11 : decode cX0_toneAt 11 = .ok (.arraylength, 1) := by decide +kernel
theorem dX0_toneAt_12 : decode cX0_toneAt 12 = .ok (.istore 8, 2) := by decide +kernel
theorem dX0_toneAt_14 : decode cX0_toneAt 14 = .ok (.iconst 0, 1) := by decide +kernel
theorem dX0_toneAt_15 : decode cX0_toneAt 15 = .ok (.istore 9, 2) := by decide +kernel
theorem dX0_toneAt_17 : decode cX0_toneAt 17 = .ok (.iload 9, 2) := by decide +kernel
theorem dX0_toneAt_19 : decode cX0_toneAt 19 = .ok (.iload 8, 2) := by decide +kernel
theorem dX0_toneAt_21 : decode cX0_toneAt 21 = .ok (.if_icmp .ge 90, 3) := by decide +kernel
theorem dX0_toneAt_24 : decode cX0_toneAt 24 = .ok (.aload 7, 2) := by decide +kernel
theorem dX0_toneAt_26 : decode cX0_toneAt 26 = .ok (.iload 9, 2) := by decide +kernel
theorem dX0_toneAt_28 : decode cX0_toneAt 28 = .ok (.iaload, 1) := by decide +kernel
theorem dX0_toneAt_29 : decode cX0_toneAt 29 = .ok (.istore 10, 2) := by decide +kernel
theorem dX0_toneAt_31 : decode cX0_toneAt 31 = .ok (.iload 10, 2) := by decide +kernel
theorem dX0_toneAt_33 : decode cX0_toneAt 33 = .ok (.bipush (-5), 2) := by decide +kernel
theorem dX0_toneAt_35 : decode cX0_toneAt 35 = .ok (.if_icmp .le 31, 3) := by decide +kernel
theorem dX0_toneAt_38 : decode cX0_toneAt 38 = .ok (.iload 6, 2) := by decide +kernel
theorem dX0_toneAt_40 : decode cX0_toneAt 40 = .ok (.aload_n 1, 1) := by decide +kernel
theorem dX0_toneAt_41 : decode cX0_toneAt 41 = .ok (.arraylength, 1) := by decide +kernel
theorem dX0_toneAt_42 : decode cX0_toneAt 42 = .ok (.if_icmp .ge 63, 3) := by decide +kernel
theorem dX0_toneAt_45 : decode cX0_toneAt 45 = .ok (.aload_n 1, 1) := by decide +kernel
theorem dX0_toneAt_46 : decode cX0_toneAt 46 = .ok (.iload 6, 2) := by decide +kernel
theorem dX0_toneAt_48 : decode cX0_toneAt 48 = .ok (.iload 10, 2) := by decide +kernel
theorem dX0_toneAt_50 : decode cX0_toneAt 50 = .ok (.iload_n 2, 1) := by decide +kernel
theorem dX0_toneAt_51 : decode cX0_toneAt 51 = .ok (.iload_n 3, 1) := by decide +kernel
theorem dX0_toneAt_52 : decode cX0_toneAt 52 = .ok (.iload 4, 2) := by decide +kernel
theorem dX0_toneAt_54 : decode cX0_toneAt 54 = .ok (.iload 5, 2) := by decide +kernel
theorem dX0_toneAt_56 : decode cX0_toneAt 56 = .ok (.invokestatic 15, 3) := by decide +kernel
theorem dX0_toneAt_59 : decode cX0_toneAt 59 = .ok (.iastore, 1) := by decide +kernel
theorem dX0_toneAt_60 : decode cX0_toneAt 60 = .ok (.iinc 6 1, 3) := by decide +kernel
theorem dX0_toneAt_63 : decode cX0_toneAt 63 = .ok (.goto 42, 3) := by decide +kernel
theorem dX0_toneAt_66 : decode cX0_toneAt 66 = .ok (.iload 6, 2) := by decide +kernel
theorem dX0_toneAt_68 : decode cX0_toneAt 68 = .ok (.iconst 2, 1) := by decide +kernel
theorem dX0_toneAt_69 : decode cX0_toneAt 69 = .ok (.if_icmp .lt 36, 3) := by decide +kernel
theorem dX0_toneAt_72 : decode cX0_toneAt 72 = .ok (.iload 6, 2) := by decide +kernel
theorem dX0_toneAt_74 : decode cX0_toneAt 74 = .ok (.aload_n 1, 1) := by decide +kernel
theorem dX0_toneAt_75 : decode cX0_toneAt 75 = .ok (.arraylength, 1) := by decide +kernel
theorem dX0_toneAt_76 : decode cX0_toneAt 76 = .ok (.if_icmp .gt 29, 3) := by decide +kernel
theorem dX0_toneAt_79 : decode cX0_toneAt 79 = .ok (.iinc 6 (-1), 3) := by decide +kernel
theorem dX0_toneAt_82 : decode cX0_toneAt 82 = .ok (.aload_n 1, 1) := by decide +kernel
theorem dX0_toneAt_83 : decode cX0_toneAt 83 = .ok (.iload 6, 2) := by decide +kernel
theorem dX0_toneAt_85 : decode cX0_toneAt 85 = .ok (.iconst 1, 1) := by decide +kernel
theorem dX0_toneAt_86 : decode cX0_toneAt 86 = .ok (.isub, 1) := by decide +kernel
theorem dX0_toneAt_87 : decode cX0_toneAt 87 = .ok (.iload 10, 2) := by decide +kernel
theorem dX0_toneAt_89 : decode cX0_toneAt 89 = .ok (.aload_n 1, 1) := by decide +kernel
theorem dX0_toneAt_90 : decode cX0_toneAt 90 = .ok (.iload 6, 2) := by decide +kernel
theorem dX0_toneAt_92 : decode cX0_toneAt 92 = .ok (.iconst 1, 1) := by decide +kernel
theorem dX0_toneAt_93 : decode cX0_toneAt 93 = .ok (.isub, 1) := by decide +kernel
theorem dX0_toneAt_94 : decode cX0_toneAt 94 = .ok (.iaload, 1) := by decide +kernel
theorem dX0_toneAt_95 : decode cX0_toneAt 95 = .ok (.i2l, 1) := by decide +kernel
theorem dX0_toneAt_96 : decode cX0_toneAt 96 = .ok (.aload_n 1, 1) := by decide +kernel
theorem dX0_toneAt_97 : decode cX0_toneAt 97 = .ok (.iload 6, 2) := by decide +kernel
theorem dX0_toneAt_99 : decode cX0_toneAt 99 = .ok (.iaload, 1) := by decide +kernel
theorem dX0_toneAt_100 : decode cX0_toneAt 100 = .ok (.i2l, 1) := by decide +kernel
theorem dX0_toneAt_101 : decode cX0_toneAt 101 = .ok (.invokestatic 19, 3) := by decide +kernel
theorem dX0_toneAt_104 : decode cX0_toneAt 104 = .ok (.iastore, 1) := by decide +kernel
theorem dX0_toneAt_105 : decode cX0_toneAt 105 = .ok (.iinc 9 1, 3) := by decide +kernel
theorem dX0_toneAt_108 : decode cX0_toneAt 108 = .ok (.goto (-91), 3) := by decide +kernel
theorem dX0_toneAt_111 : decode cX0_toneAt 111 = .ok (.iload 6, 2) := by decide +kernel
theorem dX0_toneAt_113 : decode cX0_toneAt 113 = .ok (.iconst 1, 1) := by decide +kernel
theorem dX0_toneAt_114 : decode cX0_toneAt 114 = .ok (.if_icmp .ge 7, 3) := by decide +kernel
theorem dX0_toneAt_117 : decode cX0_toneAt 117 = .ok (.iconst 0, 1) := by decide +kernel
theorem dX0_toneAt_118 : decode cX0_toneAt 118 = .ok (.goto 13, 3) := by decide +kernel
theorem dX0_toneAt_121 : decode cX0_toneAt 121 = .ok (.aload_n 1, 1) := by decide +kernel
theorem dX0_toneAt_122 : decode cX0_toneAt 122 = .ok (.iconst 0, 1) := by decide +kernel
theorem dX0_toneAt_123 : decode cX0_toneAt 123 = .ok (.iaload, 1) := by decide +kernel
theorem dX0_toneAt_124 : decode cX0_toneAt 124 = .ok (.i2l, 1) := by decide +kernel
theorem dX0_toneAt_125 : decode cX0_toneAt 125 = .ok (.iconst 0, 1) := by decide +kernel
theorem dX0_toneAt_126 : decode cX0_toneAt 126 = .ok (.bipush 100, 2) := by decide +kernel
theorem dX0_toneAt_128 : decode cX0_toneAt 128 = .ok (.invokestatic 23, 3) := by decide +kernel
theorem dX0_toneAt_131 : decode cX0_toneAt 131 = .ok (.ireturn, 1) := by decide +kernel
theorem dX0_operand_0 : decode cX0_operand 0 = .ok (.iload_n 0, 1) := by decide +kernel
theorem dX0_operand_1 : decode cX0_operand 1 = .ok (.tableswitch 40 (-4) (-1) #[37, 35, 33, 31], 31) := by decide +kernel
theorem dX0_operand_32 : decode cX0_operand 32 = .ok (.iload_n 1, 1) := by decide +kernel
theorem dX0_operand_33 : decode cX0_operand 33 = .ok (.ireturn, 1) := by decide +kernel
theorem dX0_operand_34 : decode cX0_operand 34 = .ok (.iload_n 2, 1) := by decide +kernel
theorem dX0_operand_35 : decode cX0_operand 35 = .ok (.ireturn, 1) := by decide +kernel
theorem dX0_operand_36 : decode cX0_operand 36 = .ok (.iload_n 3, 1) := by decide +kernel
theorem dX0_operand_37 : decode cX0_operand 37 = .ok (.ireturn, 1) := by decide +kernel
theorem dX0_operand_38 : decode cX0_operand 38 = .ok (.iload 4, 2) := by decide +kernel
theorem dX0_operand_40 : decode cX0_operand 40 = .ok (.ireturn, 1) := by decide +kernel
theorem dX0_operand_41 : decode cX0_operand 41 = .ok (.iload_n 0, 1) := by decide +kernel
theorem dX0_operand_42 : decode cX0_operand 42 = .ok (.ireturn, 1) := by decide +kernel
theorem dX0_result_0 : decode cX0_result 0 = .ok (.iload_n 0, 1) := by decide +kernel
theorem dX0_result_1 : decode cX0_result 1 = .ok (.tableswitch 60 (-7) (-5) #[49, 38, 27], 27) := by decide +kernel
theorem dX0_result_28 : decode cX0_result 28 = .ok (.lload_n 1, 1) := by decide +kernel
theorem dX0_result_29 : decode cX0_result 29 = .ok (.lload_n 3, 1) := by decide +kernel
theorem dX0_result_30 : decode cX0_result 30 = .ok (.ladd, 1) := by decide +kernel
theorem dX0_result_31 : decode cX0_result 31 = .ok (.ldc 27, 2) := by decide +kernel
theorem dX0_result_33 : decode cX0_result 33 = .ok (.ldc 28, 2) := by decide +kernel
theorem dX0_result_35 : decode cX0_result 35 = .ok (.invokestatic 23, 3) := by decide +kernel
theorem dX0_result_38 : decode cX0_result 38 = .ok (.ireturn, 1) := by decide +kernel
theorem dX0_result_39 : decode cX0_result 39 = .ok (.lload_n 1, 1) := by decide +kernel
theorem dX0_result_40 : decode cX0_result 40 = .ok (.lload_n 3, 1) := by decide +kernel
theorem dX0_result_41 : decode cX0_result 41 = .ok (.lsub, 1) := by decide +kernel
theorem dX0_result_42 : decode cX0_result 42 = .ok (.ldc 27, 2) := by decide +kernel
theorem dX0_result_44 : decode cX0_result 44 = .ok (.ldc 28, 2) := by decide +kernel
theorem dX0_result_46 : decode cX0_result 46 = .ok (.invokestatic 23, 3) := by decide +kernel
theorem dX0_result_49 : decode cX0_result 49 = .ok (.ireturn, 1) := by decide +kernel
theorem dX0_result_50 : decode cX0_result 50 = .ok (.lload_n 1, 1) := by decide +kernel
theorem dX0_result_51 : decode cX0_result 51 = .ok (.lload_n 3, 1) := by decide +kernel
theorem dX0_result_52 : decode cX0_result 52 = .ok (.lmul, 1) := by decide +kernel
theorem dX0_result_53 : decode cX0_result 53 = .ok (.ldc 27, 2) := by decide +kernel
theorem dX0_result_55 : decode cX0_result 55 = .ok (.ldc 28, 2) := by decide +kernel
theorem dX0_result_57 : decode cX0_result 57 = .ok (.invokestatic 23, 3) := by decide +kernel
theorem dX0_result_60 : decode cX0_result 60 = .ok (.ireturn, 1) := by decide +kernel
theorem dX0_result_61 : decode cX0_result 61 = .ok (.lload_n 3, 1) := by decide +kernel
theorem dX0_result_62 : decode cX0_result 62 = .ok (.lconst 0, 1) := by decide +kernel
theorem dX0_result_63 : decode cX0_result 63 = .ok (.lcmp, 1) := by decide +kernel
theorem dX0_result_64 : decode cX0_result 64 = .ok (.ifCond .ne 7, 3) := by decide +kernel
theorem dX0_result_67 : decode cX0_result 67 = .ok (.iconst 0, 1) := by decide +kernel
theorem dX0_result_68 : decode cX0_result 68 = .ok (.goto 13, 3) := by decide +kernel
theorem dX0_result_71 : decode cX0_result 71 = .ok (.lload_n 1, 1) := by decide +kernel
theorem dX0_result_72 : decode cX0_result 72 = .ok (.lload_n 3, 1) := by decide +kernel
theorem dX0_result_73 : decode cX0_result 73 = .ok (.ldiv, 1) := by decide +kernel
theorem dX0_result_74 : decode cX0_result 74 = .ok (.ldc 27, 2) := by decide +kernel
theorem dX0_result_76 : decode cX0_result 76 = .ok (.ldc 28, 2) := by decide +kernel
theorem dX0_result_78 : decode cX0_result 78 = .ok (.invokestatic 23, 3) := by decide +kernel
theorem dX0_result_81 : decode cX0_result 81 = .ok (.ireturn, 1) := by decide +kernel
theorem dX1_init_0 : decode cX1_init 0 = .ok (.aload_n 0, 1) := by decide +kernel
theorem dX1_init_1 : decode cX1_init 1 = .ok (.invokespecial 1, 3) := by decide +kernel
theorem dX1_init_4 : decode cX1_init 4 = .ok (.aload_n 0, 1) := by decide +kernel
theorem dX1_init_5 : decode cX1_init 5 = .ok (.iconst 1, 1) := by decide +kernel
theorem dX1_init_6 : decode cX1_init 6 = .ok (.putfield 7, 3) := by decide +kernel
theorem dX1_init_9 : decode cX1_init 9 = .ok (.return_, 1) := by decide +kernel
theorem dX1_p_0 : decode cX1_p 0 = .ok (.aload_n 0, 1) := by decide +kernel
theorem dX1_p_1 : decode cX1_p 1 = .ok (.getfield 7, 3) := by decide +kernel
theorem dX1_p_4 : decode cX1_p 4 = .ok (.aload_n 0, 1) := by decide +kernel
theorem dX1_p_5 : decode cX1_p 5 = .ok (.getfield 7, 3) := by decide +kernel
theorem dX1_p_8 : decode cX1_p 8 = .ok (.imul, 1) := by decide +kernel
theorem dX1_p_9 : decode cX1_p 9 = .ok (.aload_n 0, 1) := by decide +kernel
theorem dX1_p_10 : decode cX1_p 10 = .ok (.getfield 13, 3) := by decide +kernel
theorem dX1_p_13 : decode cX1_p 13 = .ok (.aload_n 0, 1) := by decide +kernel
theorem dX1_p_14 : decode cX1_p 14 = .ok (.getfield 13, 3) := by decide +kernel
theorem dX1_p_17 : decode cX1_p 17 = .ok (.imul, 1) := by decide +kernel
theorem dX1_p_18 : decode cX1_p 18 = .ok (.iadd, 1) := by decide +kernel
theorem dX1_p_19 : decode cX1_p 19 = .ok (.ireturn, 1) := by decide +kernel
theorem dX1_become_0 : decode cX1_become 0 = .ok (.aload_n 0, 1) := by decide +kernel
theorem dX1_become_1 : decode cX1_become 1 = .ok (.aload_n 1, 1) := by decide +kernel
theorem dX1_become_2 : decode cX1_become 2 = .ok (.getfield 16, 3) := by decide +kernel
theorem dX1_become_5 : decode cX1_become 5 = .ok (.putfield 16, 3) := by decide +kernel
theorem dX1_become_8 : decode cX1_become 8 = .ok (.aload_n 0, 1) := by decide +kernel
theorem dX1_become_9 : decode cX1_become 9 = .ok (.aload_n 1, 1) := by decide +kernel
theorem dX1_become_10 : decode cX1_become 10 = .ok (.getfield 7, 3) := by decide +kernel
theorem dX1_become_13 : decode cX1_become 13 = .ok (.putfield 7, 3) := by decide +kernel
theorem dX1_become_16 : decode cX1_become 16 = .ok (.aload_n 0, 1) := by decide +kernel
theorem dX1_become_17 : decode cX1_become 17 = .ok (.aload_n 1, 1) := by decide +kernel
theorem dX1_become_18 : decode cX1_become 18 = .ok (.getfield 13, 3) := by decide +kernel
theorem dX1_become_21 : decode cX1_become 21 = .ok (.putfield 13, 3) := by decide +kernel
theorem dX1_become_24 : decode cX1_become 24 = .ok (.aload_n 0, 1) := by decide +kernel
theorem dX1_become_25 : decode cX1_become 25 = .ok (.aload_n 1, 1) := by decide +kernel
theorem dX1_become_26 : decode cX1_become 26 = .ok (.getfield 20, 3) := by decide +kernel
theorem dX1_become_29 : decode cX1_become 29 = .ok (.putfield 20, 3) := by decide +kernel
theorem dX1_become_32 : decode cX1_become 32 = .ok (.aload_n 0, 1) := by decide +kernel
theorem dX1_become_33 : decode cX1_become 33 = .ok (.aload_n 1, 1) := by decide +kernel
theorem dX1_become_34 : decode cX1_become 34 = .ok (.getfield 23, 3) := by decide +kernel
theorem dX1_become_37 : decode cX1_become 37 = .ok (.putfield 23, 3) := by decide +kernel
theorem dX1_become_40 : decode cX1_become 40 = .ok (.aload_n 0, 1) := by decide +kernel
theorem dX1_become_41 : decode cX1_become 41 = .ok (.aload_n 1, 1) := by decide +kernel
theorem dX1_become_42 : decode cX1_become 42 = .ok (.getfield 26, 3) := by decide +kernel
theorem dX1_become_45 : decode cX1_become 45 = .ok (.putfield 26, 3) := by decide +kernel
theorem dX1_become_48 : decode cX1_become 48 = .ok (.aload_n 0, 1) := by decide +kernel
theorem dX1_become_49 : decode cX1_become 49 = .ok (.aload_n 1, 1) := by decide +kernel
theorem dX1_become_50 : decode cX1_become 50 = .ok (.getfield 29, 3) := by decide +kernel
theorem dX1_become_53 : decode cX1_become 53 = .ok (.putfield 29, 3) := by decide +kernel
theorem dX1_become_56 : decode cX1_become 56 = .ok (.aload_n 0, 1) := by decide +kernel
theorem dX1_become_57 : decode cX1_become 57 = .ok (.aload_n 1, 1) := by decide +kernel
theorem dX1_become_58 : decode cX1_become 58 = .ok (.getfield 32, 3) := by decide +kernel
theorem dX1_become_61 : decode cX1_become 61 = .ok (.putfield 32, 3) := by decide +kernel
theorem dX1_become_64 : decode cX1_become 64 = .ok (.return_, 1) := by decide +kernel
theorem dX2_init_0 : decode cX2_init 0 = .ok (.aload_n 0, 1) := by decide +kernel
theorem dX2_init_1 : decode cX2_init 1 = .ok (.invokespecial 3, 3) := by decide +kernel
theorem dX2_init_4 : decode cX2_init 4 = .ok (.aload_n 0, 1) := by decide +kernel
theorem dX2_init_5 : decode cX2_init 5 = .ok (.iconst 4, 1) := by decide +kernel
theorem dX2_init_6 : decode cX2_init 6 = .ok (.sipush 192, 3) := by decide +kernel
theorem dX2_init_9 : decode cX2_init 9 = .ok (.multianewarray 9 2, 4) := by decide +kernel
theorem dX2_init_13 : decode cX2_init 13 = .ok (.putfield 11, 3) := by decide +kernel
theorem dX2_init_16 : decode cX2_init 16 = .ok (.aload_n 0, 1) := by decide +kernel
theorem dX2_init_17 : decode cX2_init 17 = .ok (.sipush 192, 3) := by decide +kernel
theorem dX2_init_20 : decode cX2_init 20 = .ok (.newarray .int, 2) := by decide +kernel
theorem dX2_init_22 : decode cX2_init 22 = .ok (.putfield 16, 3) := by decide +kernel
theorem dX2_init_25 : decode cX2_init 25 = .ok (.aload_n 0, 1) := by decide +kernel
theorem dX2_init_26 : decode cX2_init 26 = .ok (.iconst 4, 1) := by decide +kernel
theorem dX2_init_27 : decode cX2_init 27 = .ok (.newarray .int, 2) := by decide +kernel
theorem dX2_init_29 : decode cX2_init 29 = .ok (.putfield 20, 3) := by decide +kernel
theorem dX2_init_32 : decode cX2_init 32 = .ok (.aload_n 0, 1) := by decide +kernel
theorem dX2_init_33 : decode cX2_init 33 = .ok (.iconst 4, 1) := by decide +kernel
theorem dX2_init_34 : decode cX2_init 34 = .ok (.anewarray 23, 3) := by decide +kernel
theorem dX2_init_37 : decode cX2_init 37 = .ok (.putfield 25, 3) := by decide +kernel
theorem dX2_init_40 : decode cX2_init 40 = .ok (.aload_n 0, 1) := by decide +kernel
theorem dX2_init_41 : decode cX2_init 41 = .ok (.sipush 650, 3) := by decide +kernel
theorem dX2_init_44 : decode cX2_init 44 = .ok (.newarray .int, 2) := by decide +kernel
theorem dX2_init_46 : decode cX2_init 46 = .ok (.putfield 29, 3) := by decide +kernel
theorem dX2_init_49 : decode cX2_init 49 = .ok (.aload_n 0, 1) := by decide +kernel
theorem dX2_init_50 : decode cX2_init 50 = .ok (.bipush 11, 2) := by decide +kernel
theorem dX2_init_52 : decode cX2_init 52 = .ok (.newarray .int, 2) := by decide +kernel
theorem dX2_init_54 : decode cX2_init 54 = .ok (.putfield 34, 3) := by decide +kernel
theorem dX2_init_57 : decode cX2_init 57 = .ok (.aload_n 0, 1) := by decide +kernel
theorem dX2_init_58 : decode cX2_init 58 = .ok (.iconst 0, 1) := by decide +kernel
theorem dX2_init_59 : decode cX2_init 59 = .ok (.putfield 37, 3) := by decide +kernel
theorem dX2_init_62 : decode cX2_init 62 = .ok (.aload_n 0, 1) := by decide +kernel
theorem dX2_init_63 : decode cX2_init 63 = .ok (.iconst 0, 1) := by decide +kernel
theorem dX2_init_64 : decode cX2_init 64 = .ok (.putfield 41, 3) := by decide +kernel
theorem dX2_init_67 : decode cX2_init 67 = .ok (.iconst 0, 1) := by decide +kernel
theorem dX2_init_68 : decode cX2_init 68 = .ok (.istore_n 1, 1) := by decide +kernel
theorem dX2_init_69 : decode cX2_init 69 = .ok (.iload_n 1, 1) := by decide +kernel
theorem dX2_init_70 : decode cX2_init 70 = .ok (.iconst 4, 1) := by decide +kernel
theorem dX2_init_71 : decode cX2_init 71 = .ok (.if_icmp .ge 22, 3) := by decide +kernel
theorem dX2_init_74 : decode cX2_init 74 = .ok (.aload_n 0, 1) := by decide +kernel
theorem dX2_init_75 : decode cX2_init 75 = .ok (.getfield 25, 3) := by decide +kernel
theorem dX2_init_78 : decode cX2_init 78 = .ok (.iload_n 1, 1) := by decide +kernel
theorem dX2_init_79 : decode cX2_init 79 = .ok (.new 23, 3) := by decide +kernel
theorem dX2_init_82 : decode cX2_init 82 = .ok (.dup, 1) := by decide +kernel
theorem dX2_init_83 : decode cX2_init 83 = .ok (.invokespecial 44, 3) := by decide +kernel
theorem dX2_init_86 : decode cX2_init 86 = .ok (.aastore, 1) := by decide +kernel
theorem dX2_init_87 : decode cX2_init 87 = .ok (.iinc 1 1, 3) := by decide +kernel
theorem dX2_init_90 : decode cX2_init 90 = .ok (.goto (-21), 3) := by decide +kernel
theorem dX2_init_93 : decode cX2_init 93 = .ok (.return_, 1) := by decide +kernel
theorem dX2_forgetTones_0 : decode cX2_forgetTones 0 = .ok (.aload_n 0, 1) := by decide +kernel
theorem dX2_forgetTones_1 : decode cX2_forgetTones 1 = .ok (.iconst 0, 1) := by decide +kernel
theorem dX2_forgetTones_2 : decode cX2_forgetTones 2 = .ok (.putfield 37, 3) := by decide +kernel
theorem dX2_forgetTones_5 : decode cX2_forgetTones 5 = .ok (.aload_n 0, 1) := by decide +kernel
theorem dX2_forgetTones_6 : decode cX2_forgetTones 6 = .ok (.iconst 0, 1) := by decide +kernel
theorem dX2_forgetTones_7 : decode cX2_forgetTones 7 = .ok (.putfield 41, 3) := by decide +kernel
theorem dX2_forgetTones_10 : decode cX2_forgetTones 10 = .ok (.return_, 1) := by decide +kernel
theorem dX2_forgetDots_0 : decode cX2_forgetDots 0 = .ok (.aload_n 0, 1) := by decide +kernel
theorem dX2_forgetDots_1 : decode cX2_forgetDots 1 = .ok (.iconst 0, 1) := by decide +kernel
theorem dX2_forgetDots_2 : decode cX2_forgetDots 2 = .ok (.putfield 41, 3) := by decide +kernel
theorem dX2_forgetDots_5 : decode cX2_forgetDots 5 = .ok (.return_, 1) := by decide +kernel
theorem dX2_update_0 : decode cX2_update 0 = .ok (.aload_n 0, 1) := by decide +kernel
theorem dX2_update_1 : decode cX2_update 1 = .ok (.getfield 37, 3) := by decide +kernel
theorem dX2_update_4 : decode cX2_update 4 = .ok (.ifCond .ne 30, 3) := by decide +kernel
theorem dX2_update_7 : decode cX2_update 7 = .ok (.iconst 0, 1) := by decide +kernel
theorem dX2_update_8 : decode cX2_update 8 = .ok (.istore_n 2, 1) := by decide +kernel
theorem dX2_update_9 : decode cX2_update 9 = .ok (.iload_n 2, 1) := by decide +kernel
theorem dX2_update_10 : decode cX2_update 10 = .ok (.aload_n 1, 1) := by decide +kernel
theorem dX2_update_11 : decode cX2_update 11 = .ok (.getfield 45, 3) := by decide +kernel
theorem dX2_update_14 : decode cX2_update 14 = .ok (.if_icmp .ge 15, 3) := by decide +kernel
theorem dX2_update_17 : decode cX2_update 17 = .ok (.aload_n 0, 1) := by decide +kernel
theorem dX2_update_18 : decode cX2_update 18 = .ok (.aload_n 1, 1) := by decide +kernel
theorem dX2_update_19 : decode cX2_update 19 = .ok (.iload_n 2, 1) := by decide +kernel
theorem dX2_update_20 : decode cX2_update 20 = .ok (.invokevirtual 51, 3) := by decide +kernel
theorem dX2_update_23 : decode cX2_update 23 = .ok (.iinc 2 1, 3) := by decide +kernel
theorem dX2_update_26 : decode cX2_update 26 = .ok (.goto (-17), 3) := by decide +kernel
theorem dX2_update_29 : decode cX2_update 29 = .ok (.aload_n 0, 1) := by decide +kernel
theorem dX2_update_30 : decode cX2_update 30 = .ok (.iconst 1, 1) := by decide +kernel
theorem dX2_update_31 : decode cX2_update 31 = .ok (.putfield 37, 3) := by decide +kernel
theorem dX2_update_34 : decode cX2_update 34 = .ok (.aload_n 0, 1) := by decide +kernel
theorem dX2_update_35 : decode cX2_update 35 = .ok (.getfield 41, 3) := by decide +kernel
theorem dX2_update_38 : decode cX2_update 38 = .ok (.ifCond .ne 38, 3) := by decide +kernel
theorem dX2_update_41 : decode cX2_update 41 = .ok (.aload_n 0, 1) := by decide +kernel
theorem dX2_update_42 : decode cX2_update 42 = .ok (.getfield 16, 3) := by decide +kernel
theorem dX2_update_45 : decode cX2_update 45 = .ok (.iconst 0, 1) := by decide +kernel
theorem dX2_update_46 : decode cX2_update 46 = .ok (.invokestatic 55, 3) := by decide +kernel
theorem dX2_update_49 : decode cX2_update 49 = .ok (.iconst 0, 1) := by decide +kernel
theorem dX2_update_50 : decode cX2_update 50 = .ok (.istore_n 2, 1) := by decide +kernel
theorem dX2_update_51 : decode cX2_update 51 = .ok (.iload_n 2, 1) := by decide +kernel
theorem dX2_update_52 : decode cX2_update 52 = .ok (.aload_n 1, 1) := by decide +kernel
theorem dX2_update_53 : decode cX2_update 53 = .ok (.getfield 45, 3) := by decide +kernel
theorem dX2_update_56 : decode cX2_update 56 = .ok (.if_icmp .ge 15, 3) := by decide +kernel
theorem dX2_update_59 : decode cX2_update 59 = .ok (.aload_n 0, 1) := by decide +kernel
theorem dX2_update_60 : decode cX2_update 60 = .ok (.aload_n 1, 1) := by decide +kernel
theorem dX2_update_61 : decode cX2_update 61 = .ok (.iload_n 2, 1) := by decide +kernel
theorem dX2_update_62 : decode cX2_update 62 = .ok (.invokevirtual 61, 3) := by decide +kernel
theorem dX2_update_65 : decode cX2_update 65 = .ok (.iinc 2 1, 3) := by decide +kernel
theorem dX2_update_68 : decode cX2_update 68 = .ok (.goto (-17), 3) := by decide +kernel
theorem dX2_update_71 : decode cX2_update 71 = .ok (.aload_n 0, 1) := by decide +kernel
theorem dX2_update_72 : decode cX2_update 72 = .ok (.iconst 1, 1) := by decide +kernel
theorem dX2_update_73 : decode cX2_update 73 = .ok (.putfield 41, 3) := by decide +kernel
theorem dX2_update_76 : decode cX2_update 76 = .ok (.return_, 1) := by decide +kernel
theorem dX2_takeTones_0 : decode cX2_takeTones 0 = .ok (.aload_n 1, 1) := by decide +kernel
theorem dX2_takeTones_1 : decode cX2_takeTones 1 = .ok (.getfield 64, 3) := by decide +kernel
theorem dX2_takeTones_4 : decode cX2_takeTones 4 = .ok (.iload_n 2, 1) := by decide +kernel
theorem dX2_takeTones_5 : decode cX2_takeTones 5 = .ok (.aaload, 1) := by decide +kernel
theorem dX2_takeTones_6 : decode cX2_takeTones 6 = .ok (.getfield 68, 3) := by decide +kernel
theorem dX2_takeTones_9 : decode cX2_takeTones 9 = .ok (.astore_n 3, 1) := by decide +kernel
theorem dX2_takeTones_10 : decode cX2_takeTones 10 = .ok (.aload_n 0, 1) := by decide +kernel
theorem dX2_takeTones_11 : decode cX2_takeTones 11 = .ok (.getfield 11, 3) := by decide +kernel
theorem dX2_takeTones_14 : decode cX2_takeTones 14 = .ok (.iload_n 2, 1) := by decide +kernel
theorem dX2_takeTones_15 : decode cX2_takeTones 15 = .ok (.aaload, 1) := by decide +kernel
theorem dX2_takeTones_16 : decode cX2_takeTones 16 = .ok (.astore 4, 2) := by decide +kernel
theorem dX2_takeTones_18 : decode cX2_takeTones 18 = .ok (.iconst 0, 1) := by decide +kernel
theorem dX2_takeTones_19 : decode cX2_takeTones 19 = .ok (.istore 5, 2) := by decide +kernel
theorem dX2_takeTones_21 : decode cX2_takeTones 21 = .ok (.iload 5, 2) := by decide +kernel
theorem dX2_takeTones_23 : decode cX2_takeTones 23 = .ok (.aload_n 1, 1) := by decide +kernel
theorem dX2_takeTones_24 : decode cX2_takeTones 24 = .ok (.getfield 74, 3) := by decide +kernel
theorem dX2_takeTones_27 : decode cX2_takeTones 27 = .ok (.if_icmp .ge 75, 3) := by decide +kernel
theorem dX2_takeTones_30 : decode cX2_takeTones 30 = .ok (.iconst 0, 1) := by decide +kernel
theorem dX2_takeTones_31 : decode cX2_takeTones 31 = .ok (.istore 6, 2) := by decide +kernel
theorem dX2_takeTones_33 : decode cX2_takeTones 33 = .ok (.iload 6, 2) := by decide +kernel
theorem dX2_takeTones_35 : decode cX2_takeTones 35 = .ok (.aload_n 1, 1) := by decide +kernel
theorem dX2_takeTones_36 : decode cX2_takeTones 36 = .ok (.getfield 77, 3) := by decide +kernel
theorem dX2_takeTones_39 : decode cX2_takeTones 39 = .ok (.if_icmp .ge 57, 3) := by decide +kernel
theorem dX2_takeTones_42 : decode cX2_takeTones 42 = .ok (.aload_n 1, 1) := by decide +kernel
theorem dX2_takeTones_43 : decode cX2_takeTones 43 = .ok (.iload 6, 2) := by decide +kernel
theorem dX2_takeTones_45 : decode cX2_takeTones 45 = .ok (.iload 5, 2) := by decide +kernel
theorem dX2_takeTones_47 : decode cX2_takeTones 47 = .ok (.invokevirtual 80, 3) := by decide +kernel
theorem dX2_takeTones_50 : decode cX2_takeTones 50 = .ok (.istore 7, 2) := by decide +kernel
theorem dX2_takeTones_52 : decode cX2_takeTones 52 = .ok (.aload_n 1, 1) := by decide +kernel
theorem dX2_takeTones_53 : decode cX2_takeTones 53 = .ok (.getfield 84, 3) := by decide +kernel
theorem dX2_takeTones_56 : decode cX2_takeTones 56 = .ok (.iload 7, 2) := by decide +kernel
theorem dX2_takeTones_58 : decode cX2_takeTones 58 = .ok (.iaload, 1) := by decide +kernel
theorem dX2_takeTones_59 : decode cX2_takeTones 59 = .ok (.istore 8, 2) := by decide +kernel
theorem dX2_takeTones_61 : decode cX2_takeTones 61 = .ok (.aload 4, 2) := by decide +kernel
theorem dX2_takeTones_63 : decode cX2_takeTones 63 = .ok (.iload 7, 2) := by decide +kernel
theorem dX2_takeTones_65 : decode cX2_takeTones 65 = .ok (.aload_n 3, 1) := by decide +kernel
theorem dX2_takeTones_66 : decode cX2_takeTones 66 = .ok (.ifnonnull 8, 3) := by decide +kernel
theorem dX2_takeTones_69 : decode cX2_takeTones 69 = .ok (.iload 8, 2) := by decide +kernel
theorem dX2_takeTones_71 : decode cX2_takeTones 71 = .ok (.goto 18, 3) := by decide +kernel
theorem dX2_takeTones_74 : decode cX2_takeTones 74 = .ok (.aload_n 3, 1) := by decide +kernel
theorem dX2_takeTones_75 : decode cX2_takeTones 75 = .ok (.aload_n 0, 1) := by decide +kernel
theorem dX2_takeTones_76 : decode cX2_takeTones 76 = .ok (.getfield 34, 3) := by decide +kernel
theorem dX2_takeTones_79 : decode cX2_takeTones 79 = .ok (.iload 8, 2) := by decide +kernel
theorem dX2_takeTones_81 : decode cX2_takeTones 81 = .ok (.iload 6, 2) := by decide +kernel
theorem dX2_takeTones_83 : decode cX2_takeTones 83 = .ok (.iload 5, 2) := by decide +kernel
theorem dX2_takeTones_85 : decode cX2_takeTones 85 = .ok (.iload_n 2, 1) := by decide +kernel
theorem dX2_takeTones_86 : decode cX2_takeTones 86 = .ok (.invokevirtual 86, 3) := by decide +kernel
theorem dX2_takeTones_89 : decode cX2_takeTones 89 = .ok (.iastore, 1) := by decide +kernel
theorem dX2_takeTones_90 : decode cX2_takeTones 90 = .ok (.iinc 6 1, 3) := by decide +kernel
theorem dX2_takeTones_93 : decode cX2_takeTones 93 = .ok (.goto (-60), 3) := by decide +kernel
theorem dX2_takeTones_96 : decode cX2_takeTones 96 = .ok (.iinc 5 1, 3) := by decide +kernel
theorem dX2_takeTones_99 : decode cX2_takeTones 99 = .ok (.goto (-78), 3) := by decide +kernel
theorem dX2_takeTones_102 : decode cX2_takeTones 102 = .ok (.return_, 1) := by decide +kernel
theorem dX2_putDots_0 : decode cX2_putDots 0 = .ok (.aload_n 0, 1) := by decide +kernel
theorem dX2_putDots_1 : decode cX2_putDots 1 = .ok (.getfield 25, 3) := by decide +kernel
theorem dX2_putDots_4 : decode cX2_putDots 4 = .ok (.iload_n 2, 1) := by decide +kernel
theorem dX2_putDots_5 : decode cX2_putDots 5 = .ok (.aaload, 1) := by decide +kernel
theorem dX2_putDots_6 : decode cX2_putDots 6 = .ok (.aload_n 1, 1) := by decide +kernel
theorem dX2_putDots_7 : decode cX2_putDots 7 = .ok (.getfield 64, 3) := by decide +kernel
theorem dX2_putDots_10 : decode cX2_putDots 10 = .ok (.iload_n 2, 1) := by decide +kernel
theorem dX2_putDots_11 : decode cX2_putDots 11 = .ok (.aaload, 1) := by decide +kernel
theorem dX2_putDots_12 : decode cX2_putDots 12 = .ok (.aload_n 0, 1) := by decide +kernel
theorem dX2_putDots_13 : decode cX2_putDots 13 = .ok (.getfield 29, 3) := by decide +kernel
theorem dX2_putDots_16 : decode cX2_putDots 16 = .ok (.invokevirtual 90, 3) := by decide +kernel
theorem dX2_putDots_19 : decode cX2_putDots 19 = .ok (.iconst 0, 1) := by decide +kernel
theorem dX2_putDots_20 : decode cX2_putDots 20 = .ok (.istore_n 3, 1) := by decide +kernel
theorem dX2_putDots_21 : decode cX2_putDots 21 = .ok (.iconst 0, 1) := by decide +kernel
theorem dX2_putDots_22 : decode cX2_putDots 22 = .ok (.istore 4, 2) := by decide +kernel
theorem dX2_putDots_24 : decode cX2_putDots 24 = .ok (.iload 4, 2) := by decide +kernel
theorem dX2_putDots_26 : decode cX2_putDots 26 = .ok (.aload_n 1, 1) := by decide +kernel
theorem dX2_putDots_27 : decode cX2_putDots 27 = .ok (.getfield 74, 3) := by decide +kernel
theorem dX2_putDots_30 : decode cX2_putDots 30 = .ok (.if_icmp .ge 105, 3) := by decide +kernel
theorem dX2_putDots_33 : decode cX2_putDots 33 = .ok (.iconst 0, 1) := by decide +kernel
theorem dX2_putDots_34 : decode cX2_putDots 34 = .ok (.istore 5, 2) := by decide +kernel
theorem dX2_putDots_36 : decode cX2_putDots 36 = .ok (.iload 5, 2) := by decide +kernel
theorem dX2_putDots_38 : decode cX2_putDots 38 = .ok (.aload_n 1, 1) := by decide +kernel
theorem dX2_putDots_39 : decode cX2_putDots 39 = .ok (.getfield 77, 3) := by decide +kernel
theorem dX2_putDots_42 : decode cX2_putDots 42 = .ok (.if_icmp .ge 87, 3) := by decide +kernel
theorem dX2_putDots_45 : decode cX2_putDots 45 = .ok (.aload_n 1, 1) := by decide +kernel
theorem dX2_putDots_46 : decode cX2_putDots 46 = .ok (.iload 5, 2) := by decide +kernel
theorem dX2_putDots_48 : decode cX2_putDots 48 = .ok (.iload 4, 2) := by decide +kernel
theorem dX2_putDots_50 : decode cX2_putDots 50 = .ok (.invokevirtual 80, 3) := by decide +kernel
theorem dX2_putDots_53 : decode cX2_putDots 53 = .ok (.istore 6, 2) := by decide +kernel
theorem dX2_putDots_55 : decode cX2_putDots 55 = .ok (.aload_n 0, 1) := by decide +kernel
theorem dX2_putDots_56 : decode cX2_putDots 56 = .ok (.getfield 16, 3) := by decide +kernel
theorem dX2_putDots_59 : decode cX2_putDots 59 = .ok (.iload 6, 2) := by decide +kernel
theorem dX2_putDots_61 : decode cX2_putDots 61 = .ok (.iaload, 1) := by decide +kernel
theorem dX2_putDots_62 : decode cX2_putDots 62 = .ok (.invokestatic 94, 3) := by decide +kernel
theorem dX2_putDots_65 : decode cX2_putDots 65 = .ok (.aload_n 1, 1) := by decide +kernel
theorem dX2_putDots_66 : decode cX2_putDots 66 = .ok (.getfield 100, 3) := by decide +kernel
theorem dX2_putDots_69 : decode cX2_putDots 69 = .ok (.if_icmp .ge 7, 3) := by decide +kernel
theorem dX2_putDots_72 : decode cX2_putDots 72 = .ok (.iconst 1, 1) := by decide +kernel
theorem dX2_putDots_73 : decode cX2_putDots 73 = .ok (.goto 4, 3) := by decide +kernel
theorem dX2_putDots_76 : decode cX2_putDots 76 = .ok (.iconst 0, 1) := by decide +kernel
theorem dX2_putDots_77 : decode cX2_putDots 77 = .ok (.istore 7, 2) := by decide +kernel
theorem dX2_putDots_79 : decode cX2_putDots 79 = .ok (.iload 7, 2) := by decide +kernel
theorem dX2_putDots_81 : decode cX2_putDots 81 = .ok (.ifCond .eq 42, 3) := by decide +kernel
theorem dX2_putDots_84 : decode cX2_putDots 84 = .ok (.aload_n 1, 1) := by decide +kernel
theorem dX2_putDots_85 : decode cX2_putDots 85 = .ok (.iload_n 2, 1) := by decide +kernel
theorem dX2_putDots_86 : decode cX2_putDots 86 = .ok (.iload 6, 2) := by decide +kernel
theorem dX2_putDots_88 : decode cX2_putDots 88 = .ok (.invokevirtual 103, 3) := by decide +kernel
theorem dX2_putDots_91 : decode cX2_putDots 91 = .ok (.ifCond .ne 32, 3) := by decide +kernel
theorem dX2_putDots_94 : decode cX2_putDots 94 = .ok (.aload_n 0, 1) := by decide +kernel
theorem dX2_putDots_95 : decode cX2_putDots 95 = .ok (.aload_n 1, 1) := by decide +kernel
theorem dX2_putDots_96 : decode cX2_putDots 96 = .ok (.iload_n 2, 1) := by decide +kernel
theorem dX2_putDots_97 : decode cX2_putDots 97 = .ok (.iload 5, 2) := by decide +kernel
theorem dX2_putDots_99 : decode cX2_putDots 99 = .ok (.iload 4, 2) := by decide +kernel
theorem dX2_putDots_101 : decode cX2_putDots 101 = .ok (.invokevirtual 107, 3) := by decide +kernel
theorem dX2_putDots_104 : decode cX2_putDots 104 = .ok (.ifCond .eq 19, 3) := by decide +kernel
theorem dX2_putDots_107 : decode cX2_putDots 107 = .ok (.aload_n 0, 1) := by decide +kernel
theorem dX2_putDots_108 : decode cX2_putDots 108 = .ok (.getfield 16, 3) := by decide +kernel
theorem dX2_putDots_111 : decode cX2_putDots 111 = .ok (.iload 6, 2) := by decide +kernel
theorem dX2_putDots_113 : decode cX2_putDots 113 = .ok (.dup2, 1) := by decide +kernel
theorem dX2_putDots_114 : decode cX2_putDots 114 = .ok (.iaload, 1) := by decide +kernel
theorem dX2_putDots_115 : decode cX2_putDots 115 = .ok (.iconst 1, 1) := by decide +kernel
theorem dX2_putDots_116 : decode cX2_putDots 116 = .ok (.iload_n 2, 1) := by decide +kernel
theorem dX2_putDots_117 : decode cX2_putDots 117 = .ok (.ishl, 1) := by decide +kernel
theorem dX2_putDots_118 : decode cX2_putDots 118 = .ok (.ior, 1) := by decide +kernel
theorem dX2_putDots_119 : decode cX2_putDots 119 = .ok (.iastore, 1) := by decide +kernel
theorem dX2_putDots_120 : decode cX2_putDots 120 = .ok (.iinc 3 1, 3) := by decide +kernel
theorem dX2_putDots_123 : decode cX2_putDots 123 = .ok (.iinc 5 1, 3) := by decide +kernel
theorem dX2_putDots_126 : decode cX2_putDots 126 = .ok (.goto (-90), 3) := by decide +kernel
theorem dX2_putDots_129 : decode cX2_putDots 129 = .ok (.iinc 4 1, 3) := by decide +kernel
theorem dX2_putDots_132 : decode cX2_putDots 132 = .ok (.goto (-108), 3) := by decide +kernel
theorem dX2_putDots_135 : decode cX2_putDots 135 = .ok (.aload_n 0, 1) := by decide +kernel
theorem dX2_putDots_136 : decode cX2_putDots 136 = .ok (.getfield 20, 3) := by decide +kernel
theorem dX2_putDots_139 : decode cX2_putDots 139 = .ok (.iload_n 2, 1) := by decide +kernel
theorem dX2_putDots_140 : decode cX2_putDots 140 = .ok (.iload_n 3, 1) := by decide +kernel
theorem dX2_putDots_141 : decode cX2_putDots 141 = .ok (.iastore, 1) := by decide +kernel
theorem dX2_putDots_142 : decode cX2_putDots 142 = .ok (.return_, 1) := by decide +kernel
theorem dX2_rankAt_0 : decode cX2_rankAt 0 = .ok (.aload_n 0, 1) := by decide +kernel
theorem dX2_rankAt_1 : decode cX2_rankAt 1 = .ok (.getfield 25, 3) := by decide +kernel
theorem dX2_rankAt_4 : decode cX2_rankAt 4 = .ok (.iload_n 2, 1) := by decide +kernel
theorem dX2_rankAt_5 : decode cX2_rankAt 5 = .ok (.aaload, 1) := by decide +kernel
theorem dX2_rankAt_6 : decode cX2_rankAt 6 = .ok (.iload_n 3, 1) := by decide +kernel
theorem dX2_rankAt_7 : decode cX2_rankAt 7 = .ok (.aload_n 1, 1) := by decide +kernel
theorem dX2_rankAt_8 : decode cX2_rankAt 8 = .ok (.getfield 64, 3) := by decide +kernel
theorem dX2_rankAt_11 : decode cX2_rankAt 11 = .ok (.iload_n 2, 1) := by decide +kernel
theorem dX2_rankAt_12 : decode cX2_rankAt 12 = .ok (.aaload, 1) := by decide +kernel
theorem dX2_rankAt_13 : decode cX2_rankAt 13 = .ok (.getfield 111, 3) := by decide +kernel
theorem dX2_rankAt_16 : decode cX2_rankAt 16 = .ok (.iadd, 1) := by decide +kernel
theorem dX2_rankAt_17 : decode cX2_rankAt 17 = .ok (.iload 4, 2) := by decide +kernel
theorem dX2_rankAt_19 : decode cX2_rankAt 19 = .ok (.aload_n 1, 1) := by decide +kernel
theorem dX2_rankAt_20 : decode cX2_rankAt 20 = .ok (.getfield 64, 3) := by decide +kernel
theorem dX2_rankAt_23 : decode cX2_rankAt 23 = .ok (.iload_n 2, 1) := by decide +kernel
theorem dX2_rankAt_24 : decode cX2_rankAt 24 = .ok (.aaload, 1) := by decide +kernel
theorem dX2_rankAt_25 : decode cX2_rankAt 25 = .ok (.getfield 114, 3) := by decide +kernel
theorem dX2_rankAt_28 : decode cX2_rankAt 28 = .ok (.iadd, 1) := by decide +kernel
theorem dX2_rankAt_29 : decode cX2_rankAt 29 = .ok (.invokevirtual 117, 3) := by decide +kernel
theorem dX2_rankAt_32 : decode cX2_rankAt 32 = .ok (.ireturn, 1) := by decide +kernel
theorem dX2_isDark_0 : decode cX2_isDark 0 = .ok (.aload_n 1, 1) := by decide +kernel
theorem dX2_isDark_1 : decode cX2_isDark 1 = .ok (.getfield 64, 3) := by decide +kernel
theorem dX2_isDark_4 : decode cX2_isDark 4 = .ok (.iload_n 2, 1) := by decide +kernel
theorem dX2_isDark_5 : decode cX2_isDark 5 = .ok (.aaload, 1) := by decide +kernel
theorem dX2_isDark_6 : decode cX2_isDark 6 = .ok (.invokevirtual 120, 3) := by decide +kernel
theorem dX2_isDark_9 : decode cX2_isDark 9 = .ok (.istore 5, 2) := by decide +kernel
theorem dX2_isDark_11 : decode cX2_isDark 11 = .ok (.aload_n 0, 1) := by decide +kernel
theorem dX2_isDark_12 : decode cX2_isDark 12 = .ok (.aload_n 1, 1) := by decide +kernel
theorem dX2_isDark_13 : decode cX2_isDark 13 = .ok (.iload_n 2, 1) := by decide +kernel
theorem dX2_isDark_14 : decode cX2_isDark 14 = .ok (.iload_n 3, 1) := by decide +kernel
theorem dX2_isDark_15 : decode cX2_isDark 15 = .ok (.iload 4, 2) := by decide +kernel
theorem dX2_isDark_17 : decode cX2_isDark 17 = .ok (.invokevirtual 124, 3) := by decide +kernel
theorem dX2_isDark_20 : decode cX2_isDark 20 = .ok (.bipush 100, 2) := by decide +kernel
theorem dX2_isDark_22 : decode cX2_isDark 22 = .ok (.imul, 1) := by decide +kernel
theorem dX2_isDark_23 : decode cX2_isDark 23 = .ok (.aload_n 0, 1) := by decide +kernel
theorem dX2_isDark_24 : decode cX2_isDark 24 = .ok (.getfield 11, 3) := by decide +kernel
theorem dX2_isDark_27 : decode cX2_isDark 27 = .ok (.iload_n 2, 1) := by decide +kernel
theorem dX2_isDark_28 : decode cX2_isDark 28 = .ok (.aaload, 1) := by decide +kernel
theorem dX2_isDark_29 : decode cX2_isDark 29 = .ok (.aload_n 1, 1) := by decide +kernel
theorem dX2_isDark_30 : decode cX2_isDark 30 = .ok (.iload_n 3, 1) := by decide +kernel
theorem dX2_isDark_31 : decode cX2_isDark 31 = .ok (.iload 4, 2) := by decide +kernel
theorem dX2_isDark_33 : decode cX2_isDark 33 = .ok (.invokevirtual 80, 3) := by decide +kernel
theorem dX2_isDark_36 : decode cX2_isDark 36 = .ok (.iaload, 1) := by decide +kernel
theorem dX2_isDark_37 : decode cX2_isDark 37 = .ok (.iload 5, 2) := by decide +kernel
theorem dX2_isDark_39 : decode cX2_isDark 39 = .ok (.imul, 1) := by decide +kernel
theorem dX2_isDark_40 : decode cX2_isDark 40 = .ok (.iload 5, 2) := by decide +kernel
theorem dX2_isDark_42 : decode cX2_isDark 42 = .ok (.imul, 1) := by decide +kernel
theorem dX2_isDark_43 : decode cX2_isDark 43 = .ok (.if_icmp .ge 7, 3) := by decide +kernel
theorem dX2_isDark_46 : decode cX2_isDark 46 = .ok (.iconst 1, 1) := by decide +kernel
theorem dX2_isDark_47 : decode cX2_isDark 47 = .ok (.goto 4, 3) := by decide +kernel
theorem dX2_isDark_50 : decode cX2_isDark 50 = .ok (.iconst 0, 1) := by decide +kernel
theorem dX2_isDark_51 : decode cX2_isDark 51 = .ok (.ireturn, 1) := by decide +kernel
theorem dX2_hasDot_0 : decode cX2_hasDot 0 = .ok (.aload_n 0, 1) := by decide +kernel
theorem dX2_hasDot_1 : decode cX2_hasDot 1 = .ok (.getfield 16, 3) := by decide +kernel
theorem dX2_hasDot_4 : decode cX2_hasDot 4 = .ok (.iload_n 2, 1) := by decide +kernel
theorem dX2_hasDot_5 : decode cX2_hasDot 5 = .ok (.iaload, 1) := by decide +kernel
theorem dX2_hasDot_6 : decode cX2_hasDot 6 = .ok (.iload_n 1, 1) := by decide +kernel
theorem dX2_hasDot_7 : decode cX2_hasDot 7 = .ok (.ishr, 1) := by decide +kernel
theorem dX2_hasDot_8 : decode cX2_hasDot 8 = .ok (.iconst 1, 1) := by decide +kernel
theorem dX2_hasDot_9 : decode cX2_hasDot 9 = .ok (.iand, 1) := by decide +kernel
theorem dX2_hasDot_10 : decode cX2_hasDot 10 = .ok (.iconst 1, 1) := by decide +kernel
theorem dX2_hasDot_11 : decode cX2_hasDot 11 = .ok (.if_icmp .ne 7, 3) := by decide +kernel
theorem dX2_hasDot_14 : decode cX2_hasDot 14 = .ok (.iconst 1, 1) := by decide +kernel
theorem dX2_hasDot_15 : decode cX2_hasDot 15 = .ok (.goto 4, 3) := by decide +kernel
theorem dX2_hasDot_18 : decode cX2_hasDot 18 = .ok (.iconst 0, 1) := by decide +kernel
theorem dX2_hasDot_19 : decode cX2_hasDot 19 = .ok (.ireturn, 1) := by decide +kernel
theorem dX2_isSpot_0 : decode cX2_isSpot 0 = .ok (.aload_n 0, 1) := by decide +kernel
theorem dX2_isSpot_1 : decode cX2_isSpot 1 = .ok (.aload_n 1, 1) := by decide +kernel
theorem dX2_isSpot_2 : decode cX2_isSpot 2 = .ok (.iload_n 2, 1) := by decide +kernel
theorem dX2_isSpot_3 : decode cX2_isSpot 3 = .ok (.iload_n 3, 1) := by decide +kernel
theorem dX2_isSpot_4 : decode cX2_isSpot 4 = .ok (.iload 4, 2) := by decide +kernel
theorem dX2_isSpot_6 : decode cX2_isSpot 6 = .ok (.invokevirtual 128, 3) := by decide +kernel
theorem dX2_isSpot_9 : decode cX2_isSpot 9 = .ok (.ifCond .eq 63, 3) := by decide +kernel
theorem dX2_isSpot_12 : decode cX2_isSpot 12 = .ok (.aload_n 0, 1) := by decide +kernel
theorem dX2_isSpot_13 : decode cX2_isSpot 13 = .ok (.aload_n 1, 1) := by decide +kernel
theorem dX2_isSpot_14 : decode cX2_isSpot 14 = .ok (.iload_n 2, 1) := by decide +kernel
theorem dX2_isSpot_15 : decode cX2_isSpot 15 = .ok (.iload_n 3, 1) := by decide +kernel
theorem dX2_isSpot_16 : decode cX2_isSpot 16 = .ok (.iload 4, 2) := by decide +kernel
theorem dX2_isSpot_18 : decode cX2_isSpot 18 = .ok (.iconst 1, 1) := by decide +kernel
theorem dX2_isSpot_19 : decode cX2_isSpot 19 = .ok (.isub, 1) := by decide +kernel
theorem dX2_isSpot_20 : decode cX2_isSpot 20 = .ok (.invokevirtual 128, 3) := by decide +kernel
theorem dX2_isSpot_23 : decode cX2_isSpot 23 = .ok (.ifCond .ne 49, 3) := by decide +kernel
theorem dX2_isSpot_26 : decode cX2_isSpot 26 = .ok (.aload_n 0, 1) := by decide +kernel
theorem dX2_isSpot_27 : decode cX2_isSpot 27 = .ok (.aload_n 1, 1) := by decide +kernel
theorem dX2_isSpot_28 : decode cX2_isSpot 28 = .ok (.iload_n 2, 1) := by decide +kernel
theorem dX2_isSpot_29 : decode cX2_isSpot 29 = .ok (.iload_n 3, 1) := by decide +kernel
theorem dX2_isSpot_30 : decode cX2_isSpot 30 = .ok (.iload 4, 2) := by decide +kernel
theorem dX2_isSpot_32 : decode cX2_isSpot 32 = .ok (.iconst 1, 1) := by decide +kernel
theorem dX2_isSpot_33 : decode cX2_isSpot 33 = .ok (.iadd, 1) := by decide +kernel
theorem dX2_isSpot_34 : decode cX2_isSpot 34 = .ok (.invokevirtual 128, 3) := by decide +kernel
theorem dX2_isSpot_37 : decode cX2_isSpot 37 = .ok (.ifCond .ne 35, 3) := by decide +kernel
theorem dX2_isSpot_40 : decode cX2_isSpot 40 = .ok (.aload_n 0, 1) := by decide +kernel
theorem dX2_isSpot_41 : decode cX2_isSpot 41 = .ok (.aload_n 1, 1) := by decide +kernel
theorem dX2_isSpot_42 : decode cX2_isSpot 42 = .ok (.iload_n 2, 1) := by decide +kernel
theorem dX2_isSpot_43 : decode cX2_isSpot 43 = .ok (.iload_n 3, 1) := by decide +kernel
theorem dX2_isSpot_44 : decode cX2_isSpot 44 = .ok (.iconst 1, 1) := by decide +kernel
theorem dX2_isSpot_45 : decode cX2_isSpot 45 = .ok (.isub, 1) := by decide +kernel
theorem dX2_isSpot_46 : decode cX2_isSpot 46 = .ok (.iload 4, 2) := by decide +kernel
theorem dX2_isSpot_48 : decode cX2_isSpot 48 = .ok (.invokevirtual 128, 3) := by decide +kernel
theorem dX2_isSpot_51 : decode cX2_isSpot 51 = .ok (.ifCond .ne 21, 3) := by decide +kernel
theorem dX2_isSpot_54 : decode cX2_isSpot 54 = .ok (.aload_n 0, 1) := by decide +kernel
theorem dX2_isSpot_55 : decode cX2_isSpot 55 = .ok (.aload_n 1, 1) := by decide +kernel
theorem dX2_isSpot_56 : decode cX2_isSpot 56 = .ok (.iload_n 2, 1) := by decide +kernel
theorem dX2_isSpot_57 : decode cX2_isSpot 57 = .ok (.iload_n 3, 1) := by decide +kernel
theorem dX2_isSpot_58 : decode cX2_isSpot 58 = .ok (.iconst 1, 1) := by decide +kernel
theorem dX2_isSpot_59 : decode cX2_isSpot 59 = .ok (.iadd, 1) := by decide +kernel
theorem dX2_isSpot_60 : decode cX2_isSpot 60 = .ok (.iload 4, 2) := by decide +kernel
theorem dX2_isSpot_62 : decode cX2_isSpot 62 = .ok (.invokevirtual 128, 3) := by decide +kernel
theorem dX2_isSpot_65 : decode cX2_isSpot 65 = .ok (.ifCond .ne 7, 3) := by decide +kernel
theorem dX2_isSpot_68 : decode cX2_isSpot 68 = .ok (.iconst 1, 1) := by decide +kernel
theorem dX2_isSpot_69 : decode cX2_isSpot 69 = .ok (.goto 4, 3) := by decide +kernel
theorem dX2_isSpot_72 : decode cX2_isSpot 72 = .ok (.iconst 0, 1) := by decide +kernel
theorem dX2_isSpot_73 : decode cX2_isSpot 73 = .ok (.ireturn, 1) := by decide +kernel
theorem dX2_isDotAt_0 : decode cX2_isDotAt 0 = .ok (.iload_n 3, 1) := by decide +kernel
theorem dX2_isDotAt_1 : decode cX2_isDotAt 1 = .ok (.ifCond .lt 44, 3) := by decide +kernel
theorem dX2_isDotAt_4 : decode cX2_isDotAt 4 = .ok (.iload_n 3, 1) := by decide +kernel
theorem dX2_isDotAt_5 : decode cX2_isDotAt 5 = .ok (.aload_n 1, 1) := by decide +kernel
theorem dX2_isDotAt_6 : decode cX2_isDotAt 6 = .ok (.getfield 77, 3) := by decide +kernel
theorem dX2_isDotAt_9 : decode cX2_isDotAt 9 = .ok (.if_icmp .ge 36, 3) := by decide +kernel
theorem dX2_isDotAt_12 : decode cX2_isDotAt 12 = .ok (.iload 4, 2) := by decide +kernel
theorem dX2_isDotAt_14 : decode cX2_isDotAt 14 = .ok (.ifCond .lt 31, 3) := by decide +kernel
theorem dX2_isDotAt_17 : decode cX2_isDotAt 17 = .ok (.iload 4, 2) := by decide +kernel
theorem dX2_isDotAt_19 : decode cX2_isDotAt 19 = .ok (.aload_n 1, 1) := by decide +kernel
theorem dX2_isDotAt_20 : decode cX2_isDotAt 20 = .ok (.getfield 74, 3) := by decide +kernel
theorem dX2_isDotAt_23 : decode cX2_isDotAt 23 = .ok (.if_icmp .ge 22, 3) := by decide +kernel
theorem dX2_isDotAt_26 : decode cX2_isDotAt 26 = .ok (.aload_n 0, 1) := by decide +kernel
theorem dX2_isDotAt_27 : decode cX2_isDotAt 27 = .ok (.iload_n 2, 1) := by decide +kernel
theorem dX2_isDotAt_28 : decode cX2_isDotAt 28 = .ok (.aload_n 1, 1) := by decide +kernel
theorem dX2_isDotAt_29 : decode cX2_isDotAt 29 = .ok (.iload_n 3, 1) := by decide +kernel
theorem dX2_isDotAt_30 : decode cX2_isDotAt 30 = .ok (.iload 4, 2) := by decide +kernel
theorem dX2_isDotAt_32 : decode cX2_isDotAt 32 = .ok (.invokevirtual 80, 3) := by decide +kernel
theorem dX2_isDotAt_35 : decode cX2_isDotAt 35 = .ok (.invokevirtual 131, 3) := by decide +kernel
theorem dX2_isDotAt_38 : decode cX2_isDotAt 38 = .ok (.ifCond .eq 7, 3) := by decide +kernel
theorem dX2_isDotAt_41 : decode cX2_isDotAt 41 = .ok (.iconst 1, 1) := by decide +kernel
theorem dX2_isDotAt_42 : decode cX2_isDotAt 42 = .ok (.goto 4, 3) := by decide +kernel
theorem dX2_isDotAt_45 : decode cX2_isDotAt 45 = .ok (.iconst 0, 1) := by decide +kernel
theorem dX2_isDotAt_46 : decode cX2_isDotAt 46 = .ok (.ireturn, 1) := by decide +kernel
theorem dX2_dotsOfAll_0 : decode cX2_dotsOfAll 0 = .ok (.iconst 0, 1) := by decide +kernel
theorem dX2_dotsOfAll_1 : decode cX2_dotsOfAll 1 = .ok (.istore_n 2, 1) := by decide +kernel
theorem dX2_dotsOfAll_2 : decode cX2_dotsOfAll 2 = .ok (.iconst 0, 1) := by decide +kernel
theorem dX2_dotsOfAll_3 : decode cX2_dotsOfAll 3 = .ok (.istore_n 3, 1) := by decide +kernel
theorem dX2_dotsOfAll_4 : decode cX2_dotsOfAll 4 = .ok (.iload_n 3, 1) := by decide +kernel
theorem dX2_dotsOfAll_5 : decode cX2_dotsOfAll 5 = .ok (.aload_n 1, 1) := by decide +kernel
theorem dX2_dotsOfAll_6 : decode cX2_dotsOfAll 6 = .ok (.getfield 45, 3) := by decide +kernel
theorem dX2_dotsOfAll_9 : decode cX2_dotsOfAll 9 = .ok (.if_icmp .ge 18, 3) := by decide +kernel
theorem dX2_dotsOfAll_12 : decode cX2_dotsOfAll 12 = .ok (.iload_n 2, 1) := by decide +kernel
theorem dX2_dotsOfAll_13 : decode cX2_dotsOfAll 13 = .ok (.aload_n 0, 1) := by decide +kernel
theorem dX2_dotsOfAll_14 : decode cX2_dotsOfAll 14 = .ok (.getfield 20, 3) := by decide +kernel
theorem dX2_dotsOfAll_17 : decode cX2_dotsOfAll 17 = .ok (.iload_n 3, 1) := by decide +kernel
theorem dX2_dotsOfAll_18 : decode cX2_dotsOfAll 18 = .ok (.iaload, 1) := by decide +kernel
theorem dX2_dotsOfAll_19 : decode cX2_dotsOfAll 19 = .ok (.iadd, 1) := by decide +kernel
theorem dX2_dotsOfAll_20 : decode cX2_dotsOfAll 20 = .ok (.istore_n 2, 1) := by decide +kernel
theorem dX2_dotsOfAll_21 : decode cX2_dotsOfAll 21 = .ok (.iinc 3 1, 3) := by decide +kernel
theorem dX2_dotsOfAll_24 : decode cX2_dotsOfAll 24 = .ok (.goto (-20), 3) := by decide +kernel
theorem dX2_dotsOfAll_27 : decode cX2_dotsOfAll 27 = .ok (.iload_n 2, 1) := by decide +kernel
theorem dX2_dotsOfAll_28 : decode cX2_dotsOfAll 28 = .ok (.ireturn, 1) := by decide +kernel
theorem dX2_cellsHaving_0 : decode cX2_cellsHaving 0 = .ok (.iconst 0, 1) := by decide +kernel
theorem dX2_cellsHaving_1 : decode cX2_cellsHaving 1 = .ok (.istore_n 3, 1) := by decide +kernel
theorem dX2_cellsHaving_2 : decode cX2_cellsHaving 2 = .ok (.iconst 0, 1) := by decide +kernel
theorem dX2_cellsHaving_3 : decode cX2_cellsHaving 3 = .ok (.istore 4, 2) := by decide +kernel
theorem dX2_cellsHaving_5 : decode cX2_cellsHaving 5 = .ok (.iload 4, 2) := by decide +kernel
theorem dX2_cellsHaving_7 : decode cX2_cellsHaving 7 = .ok (.aload_n 1, 1) := by decide +kernel
theorem dX2_cellsHaving_8 : decode cX2_cellsHaving 8 = .ok (.invokevirtual 137, 3) := by decide +kernel
theorem dX2_cellsHaving_11 : decode cX2_cellsHaving 11 = .ok (.if_icmp .ge 31, 3) := by decide +kernel
theorem dX2_cellsHaving_14 : decode cX2_cellsHaving 14 = .ok (.iload_n 3, 1) := by decide +kernel
theorem dX2_cellsHaving_15 : decode cX2_cellsHaving 15 = .ok (.aload_n 0, 1) := by decide +kernel
theorem dX2_cellsHaving_16 : decode cX2_cellsHaving 16 = .ok (.getfield 16, 3) := by decide +kernel
theorem dX2_cellsHaving_19 : decode cX2_cellsHaving 19 = .ok (.iload 4, 2) := by decide +kernel
theorem dX2_cellsHaving_21 : decode cX2_cellsHaving 21 = .ok (.iaload, 1) := by decide +kernel
theorem dX2_cellsHaving_22 : decode cX2_cellsHaving 22 = .ok (.invokestatic 94, 3) := by decide +kernel
theorem dX2_cellsHaving_25 : decode cX2_cellsHaving 25 = .ok (.iload_n 2, 1) := by decide +kernel
theorem dX2_cellsHaving_26 : decode cX2_cellsHaving 26 = .ok (.if_icmp .ne 7, 3) := by decide +kernel
theorem dX2_cellsHaving_29 : decode cX2_cellsHaving 29 = .ok (.iconst 1, 1) := by decide +kernel
theorem dX2_cellsHaving_30 : decode cX2_cellsHaving 30 = .ok (.goto 4, 3) := by decide +kernel
theorem dX2_cellsHaving_33 : decode cX2_cellsHaving 33 = .ok (.iconst 0, 1) := by decide +kernel
theorem dX2_cellsHaving_34 : decode cX2_cellsHaving 34 = .ok (.iadd, 1) := by decide +kernel
theorem dX2_cellsHaving_35 : decode cX2_cellsHaving 35 = .ok (.istore_n 3, 1) := by decide +kernel
theorem dX2_cellsHaving_36 : decode cX2_cellsHaving 36 = .ok (.iinc 4 1, 3) := by decide +kernel
theorem dX2_cellsHaving_39 : decode cX2_cellsHaving 39 = .ok (.goto (-34), 3) := by decide +kernel
theorem dX2_cellsHaving_42 : decode cX2_cellsHaving 42 = .ok (.iload_n 3, 1) := by decide +kernel
theorem dX2_cellsHaving_43 : decode cX2_cellsHaving 43 = .ok (.ireturn, 1) := by decide +kernel
theorem dX3_init_0 : decode cX3_init 0 = .ok (.aload_n 0, 1) := by decide +kernel
theorem dX3_init_1 : decode cX3_init 1 = .ok (.invokespecial 3, 3) := by decide +kernel
theorem dX3_init_4 : decode cX3_init 4 = .ok (.aload_n 0, 1) := by decide +kernel
theorem dX3_init_5 : decode cX3_init 5 = .ok (.iconst 0, 1) := by decide +kernel
theorem dX3_init_6 : decode cX3_init 6 = .ok (.putfield 9, 3) := by decide +kernel
theorem dX3_init_9 : decode cX3_init 9 = .ok (.aload_n 0, 1) := by decide +kernel
theorem dX3_init_10 : decode cX3_init 10 = .ok (.iconst 0, 1) := by decide +kernel
theorem dX3_init_11 : decode cX3_init 11 = .ok (.putfield 15, 3) := by decide +kernel
theorem dX3_init_14 : decode cX3_init 14 = .ok (.aload_n 0, 1) := by decide +kernel
theorem dX3_init_15 : decode cX3_init 15 = .ok (.iconst 0, 1) := by decide +kernel
theorem dX3_init_16 : decode cX3_init 16 = .ok (.putfield 18, 3) := by decide +kernel
theorem dX3_init_19 : decode cX3_init 19 = .ok (.aload_n 0, 1) := by decide +kernel
theorem dX3_init_20 : decode cX3_init 20 = .ok (.iconst (-1), 1) := by decide +kernel
theorem dX3_init_21 : decode cX3_init 21 = .ok (.putfield 21, 3) := by decide +kernel
theorem dX3_init_24 : decode cX3_init 24 = .ok (.aload_n 0, 1) := by decide +kernel
theorem dX3_init_25 : decode cX3_init 25 = .ok (.sipush 324, 3) := by decide +kernel
theorem dX3_init_28 : decode cX3_init 28 = .ok (.newarray .int, 2) := by decide +kernel
theorem dX3_init_30 : decode cX3_init 30 = .ok (.putfield 24, 3) := by decide +kernel
theorem dX3_init_33 : decode cX3_init 33 = .ok (.return_, 1) := by decide +kernel
theorem dX3_fit_0 : decode cX3_fit 0 = .ok (.aload_n 0, 1) := by decide +kernel
theorem dX3_fit_1 : decode cX3_fit 1 = .ok (.getfield 9, 3) := by decide +kernel
theorem dX3_fit_4 : decode cX3_fit 4 = .ok (.aload_n 1, 1) := by decide +kernel
theorem dX3_fit_5 : decode cX3_fit 5 = .ok (.getfield 28, 3) := by decide +kernel
theorem dX3_fit_8 : decode cX3_fit 8 = .ok (.if_icmp .ne 26, 3) := by decide +kernel
theorem dX3_fit_11 : decode cX3_fit 11 = .ok (.aload_n 0, 1) := by decide +kernel
theorem dX3_fit_12 : decode cX3_fit 12 = .ok (.getfield 15, 3) := by decide +kernel
theorem dX3_fit_15 : decode cX3_fit 15 = .ok (.aload_n 1, 1) := by decide +kernel
theorem dX3_fit_16 : decode cX3_fit 16 = .ok (.getfield 31, 3) := by decide +kernel
theorem dX3_fit_19 : decode cX3_fit 19 = .ok (.if_icmp .ne 15, 3) := by decide +kernel
theorem dX3_fit_22 : decode cX3_fit 22 = .ok (.aload_n 0, 1) := by decide +kernel
theorem dX3_fit_23 : decode cX3_fit 23 = .ok (.getfield 21, 3) := by decide +kernel
theorem dX3_fit_26 : decode cX3_fit 26 = .ok (.aload_n 1, 1) := by decide +kernel
theorem dX3_fit_27 : decode cX3_fit 27 = .ok (.getfield 32, 3) := by decide +kernel
theorem dX3_fit_30 : decode cX3_fit 30 = .ok (.if_icmp .ne 4, 3) := by decide +kernel
theorem dX3_fit_33 : decode cX3_fit 33 = .ok (.return_, 1) := by decide +kernel
theorem dX3_fit_34 : decode cX3_fit 34 = .ok (.aload_n 0, 1) := by decide +kernel
theorem dX3_fit_35 : decode cX3_fit 35 = .ok (.aload_n 1, 1) := by decide +kernel
theorem dX3_fit_36 : decode cX3_fit 36 = .ok (.getfield 28, 3) := by decide +kernel
theorem dX3_fit_39 : decode cX3_fit 39 = .ok (.putfield 9, 3) := by decide +kernel
theorem dX3_fit_42 : decode cX3_fit 42 = .ok (.aload_n 0, 1) := by decide +kernel
theorem dX3_fit_43 : decode cX3_fit 43 = .ok (.aload_n 1, 1) := by decide +kernel
theorem dX3_fit_44 : decode cX3_fit 44 = .ok (.getfield 31, 3) := by decide +kernel
theorem dX3_fit_47 : decode cX3_fit 47 = .ok (.putfield 15, 3) := by decide +kernel
theorem dX3_fit_50 : decode cX3_fit 50 = .ok (.aload_n 0, 1) := by decide +kernel
theorem dX3_fit_51 : decode cX3_fit 51 = .ok (.aload_n 1, 1) := by decide +kernel
theorem dX3_fit_52 : decode cX3_fit 52 = .ok (.invokevirtual 33, 3) := by decide +kernel
theorem dX3_fit_55 : decode cX3_fit 55 = .ok (.putfield 18, 3) := by decide +kernel
theorem dX3_fit_58 : decode cX3_fit 58 = .ok (.aload_n 0, 1) := by decide +kernel
theorem dX3_fit_59 : decode cX3_fit 59 = .ok (.aload_n 1, 1) := by decide +kernel
theorem dX3_fit_60 : decode cX3_fit 60 = .ok (.getfield 32, 3) := by decide +kernel
theorem dX3_fit_63 : decode cX3_fit 63 = .ok (.putfield 21, 3) := by decide +kernel
theorem dX3_fit_66 : decode cX3_fit 66 = .ok (.aload_n 2, 1) := by decide +kernel
theorem dX3_fit_67 : decode cX3_fit 67 = .ok (.iconst 0, 1) := by decide +kernel
theorem dX3_fit_68 : decode cX3_fit 68 = .ok (.invokestatic 36, 3) := by decide +kernel
theorem dX3_fit_71 : decode cX3_fit 71 = .ok (.iconst 0, 1) := by decide +kernel
theorem dX3_fit_72 : decode cX3_fit 72 = .ok (.istore_n 3, 1) := by decide +kernel
theorem dX3_fit_73 : decode cX3_fit 73 = .ok (.iload_n 3, 1) := by decide +kernel
theorem dX3_fit_74 : decode cX3_fit 74 = .ok (.aload_n 0, 1) := by decide +kernel
theorem dX3_fit_75 : decode cX3_fit 75 = .ok (.getfield 18, 3) := by decide +kernel
theorem dX3_fit_78 : decode cX3_fit 78 = .ok (.if_icmp .ge 42, 3) := by decide +kernel
theorem dX3_fit_81 : decode cX3_fit 81 = .ok (.iconst 0, 1) := by decide +kernel
theorem dX3_fit_82 : decode cX3_fit 82 = .ok (.istore 4, 2) := by decide +kernel
theorem dX3_fit_84 : decode cX3_fit 84 = .ok (.iload 4, 2) := by decide +kernel
theorem dX3_fit_86 : decode cX3_fit 86 = .ok (.aload_n 0, 1) := by decide +kernel
theorem dX3_fit_87 : decode cX3_fit 87 = .ok (.getfield 18, 3) := by decide +kernel
theorem dX3_fit_90 : decode cX3_fit 90 = .ok (.if_icmp .ge 24, 3) := by decide +kernel
theorem dX3_fit_93 : decode cX3_fit 93 = .ok (.aload_n 2, 1) := by decide +kernel
theorem dX3_fit_94 : decode cX3_fit 94 = .ok (.aload_n 0, 1) := by decide +kernel
theorem dX3_fit_95 : decode cX3_fit 95 = .ok (.iload 4, 2) := by decide +kernel
theorem dX3_fit_97 : decode cX3_fit 97 = .ok (.iload_n 3, 1) := by decide +kernel
theorem dX3_fit_98 : decode cX3_fit 98 = .ok (.invokevirtual 42, 3) := by decide +kernel
theorem dX3_fit_101 : decode cX3_fit 101 = .ok (.iconst 1, 1) := by decide +kernel
theorem dX3_fit_102 : decode cX3_fit 102 = .ok (.iadd, 1) := by decide +kernel
theorem dX3_fit_103 : decode cX3_fit 103 = .ok (.dup2, 1) := by decide +kernel
theorem dX3_fit_104 : decode cX3_fit 104 = .ok (.iaload, 1) := by decide +kernel
theorem dX3_fit_105 : decode cX3_fit 105 = .ok (.iconst 1, 1) := by decide +kernel
theorem dX3_fit_106 : decode cX3_fit 106 = .ok (.iadd, 1) := by decide +kernel
theorem dX3_fit_107 : decode cX3_fit 107 = .ok (.iastore, 1) := by decide +kernel
theorem dX3_fit_108 : decode cX3_fit 108 = .ok (.iinc 4 1, 3) := by decide +kernel
theorem dX3_fit_111 : decode cX3_fit 111 = .ok (.goto (-27), 3) := by decide +kernel
theorem dX3_fit_114 : decode cX3_fit 114 = .ok (.iinc 3 1, 3) := by decide +kernel
theorem dX3_fit_117 : decode cX3_fit 117 = .ok (.goto (-44), 3) := by decide +kernel
theorem dX3_fit_120 : decode cX3_fit 120 = .ok (.iconst 1, 1) := by decide +kernel
theorem dX3_fit_121 : decode cX3_fit 121 = .ok (.istore_n 3, 1) := by decide +kernel
theorem dX3_fit_122 : decode cX3_fit 122 = .ok (.iload_n 3, 1) := by decide +kernel
theorem dX3_fit_123 : decode cX3_fit 123 = .ok (.aload_n 2, 1) := by decide +kernel
theorem dX3_fit_124 : decode cX3_fit 124 = .ok (.arraylength, 1) := by decide +kernel
theorem dX3_fit_125 : decode cX3_fit 125 = .ok (.if_icmp .ge 20, 3) := by decide +kernel
theorem dX3_fit_128 : decode cX3_fit 128 = .ok (.aload_n 2, 1) := by decide +kernel
theorem dX3_fit_129 : decode cX3_fit 129 = .ok (.iload_n 3, 1) := by decide +kernel
theorem dX3_fit_130 : decode cX3_fit 130 = .ok (.dup2, 1) := by decide +kernel
theorem dX3_fit_131 : decode cX3_fit 131 = .ok (.iaload, 1) := by decide +kernel
theorem dX3_fit_132 : decode cX3_fit 132 = .ok (.aload_n 2, 1) := by decide +kernel
theorem dX3_fit_133 : decode cX3_fit 133 = .ok (.iload_n 3, 1) := by decide +kernel
theorem dX3_fit_134 : decode cX3_fit 134 = .ok (.iconst 1, 1) := by decide +kernel
theorem dX3_fit_135 : decode cX3_fit 135 = .ok (.isub, 1) := by decide +kernel
theorem dX3_fit_136 : decode cX3_fit 136 = .ok (.iaload, 1) := by decide +kernel
theorem dX3_fit_137 : decode cX3_fit 137 = .ok (.iadd, 1) := by decide +kernel
theorem dX3_fit_138 : decode cX3_fit 138 = .ok (.iastore, 1) := by decide +kernel
theorem dX3_fit_139 : decode cX3_fit 139 = .ok (.iinc 3 1, 3) := by decide +kernel
theorem dX3_fit_142 : decode cX3_fit 142 = .ok (.goto (-20), 3) := by decide +kernel
theorem dX3_fit_145 : decode cX3_fit 145 = .ok (.iconst 0, 1) := by decide +kernel
theorem dX3_fit_146 : decode cX3_fit 146 = .ok (.istore_n 3, 1) := by decide +kernel
theorem dX3_fit_147 : decode cX3_fit 147 = .ok (.iload_n 3, 1) := by decide +kernel
theorem dX3_fit_148 : decode cX3_fit 148 = .ok (.aload_n 0, 1) := by decide +kernel
theorem dX3_fit_149 : decode cX3_fit 149 = .ok (.getfield 18, 3) := by decide +kernel
theorem dX3_fit_152 : decode cX3_fit 152 = .ok (.if_icmp .ge 62, 3) := by decide +kernel
theorem dX3_fit_155 : decode cX3_fit 155 = .ok (.iconst 0, 1) := by decide +kernel
theorem dX3_fit_156 : decode cX3_fit 156 = .ok (.istore 4, 2) := by decide +kernel
theorem dX3_fit_158 : decode cX3_fit 158 = .ok (.iload 4, 2) := by decide +kernel
theorem dX3_fit_160 : decode cX3_fit 160 = .ok (.aload_n 0, 1) := by decide +kernel
theorem dX3_fit_161 : decode cX3_fit 161 = .ok (.getfield 18, 3) := by decide +kernel
theorem dX3_fit_164 : decode cX3_fit 164 = .ok (.if_icmp .ge 44, 3) := by decide +kernel
theorem dX3_fit_167 : decode cX3_fit 167 = .ok (.aload_n 0, 1) := by decide +kernel
theorem dX3_fit_168 : decode cX3_fit 168 = .ok (.iload 4, 2) := by decide +kernel
theorem dX3_fit_170 : decode cX3_fit 170 = .ok (.iload_n 3, 1) := by decide +kernel
theorem dX3_fit_171 : decode cX3_fit 171 = .ok (.invokevirtual 42, 3) := by decide +kernel
theorem dX3_fit_174 : decode cX3_fit 174 = .ok (.istore 5, 2) := by decide +kernel
theorem dX3_fit_176 : decode cX3_fit 176 = .ok (.aload_n 0, 1) := by decide +kernel
theorem dX3_fit_177 : decode cX3_fit 177 = .ok (.getfield 24, 3) := by decide +kernel
theorem dX3_fit_180 : decode cX3_fit 180 = .ok (.iload_n 3, 1) := by decide +kernel
theorem dX3_fit_181 : decode cX3_fit 181 = .ok (.aload_n 0, 1) := by decide +kernel
theorem dX3_fit_182 : decode cX3_fit 182 = .ok (.getfield 18, 3) := by decide +kernel
theorem dX3_fit_185 : decode cX3_fit 185 = .ok (.imul, 1) := by decide +kernel
theorem dX3_fit_186 : decode cX3_fit 186 = .ok (.iload 4, 2) := by decide +kernel
theorem dX3_fit_188 : decode cX3_fit 188 = .ok (.iadd, 1) := by decide +kernel
theorem dX3_fit_189 : decode cX3_fit 189 = .ok (.aload_n 2, 1) := by decide +kernel
theorem dX3_fit_190 : decode cX3_fit 190 = .ok (.iload 5, 2) := by decide +kernel
theorem dX3_fit_192 : decode cX3_fit 192 = .ok (.iaload, 1) := by decide +kernel
theorem dX3_fit_193 : decode cX3_fit 193 = .ok (.iastore, 1) := by decide +kernel
theorem dX3_fit_194 : decode cX3_fit 194 = .ok (.aload_n 2, 1) := by decide +kernel
theorem dX3_fit_195 : decode cX3_fit 195 = .ok (.iload 5, 2) := by decide +kernel
theorem dX3_fit_197 : decode cX3_fit 197 = .ok (.dup2, 1) := by decide +kernel
theorem dX3_fit_198 : decode cX3_fit 198 = .ok (.iaload, 1) := by decide +kernel
theorem dX3_fit_199 : decode cX3_fit 199 = .ok (.iconst 1, 1) := by decide +kernel
theorem dX3_fit_200 : decode cX3_fit 200 = .ok (.iadd, 1) := by decide +kernel
theorem dX3_fit_201 : decode cX3_fit 201 = .ok (.iastore, 1) := by decide +kernel
theorem dX3_fit_202 : decode cX3_fit 202 = .ok (.iinc 4 1, 3) := by decide +kernel
theorem dX3_fit_205 : decode cX3_fit 205 = .ok (.goto (-47), 3) := by decide +kernel
theorem dX3_fit_208 : decode cX3_fit 208 = .ok (.iinc 3 1, 3) := by decide +kernel
theorem dX3_fit_211 : decode cX3_fit 211 = .ok (.goto (-64), 3) := by decide +kernel
theorem dX3_fit_214 : decode cX3_fit 214 = .ok (.return_, 1) := by decide +kernel
theorem dX3_rankOf_0 : decode cX3_rankOf 0 = .ok (.aload_n 0, 1) := by decide +kernel
theorem dX3_rankOf_1 : decode cX3_rankOf 1 = .ok (.getfield 18, 3) := by decide +kernel
theorem dX3_rankOf_4 : decode cX3_rankOf 4 = .ok (.iconst 1, 1) := by decide +kernel
theorem dX3_rankOf_5 : decode cX3_rankOf 5 = .ok (.if_icmp .ge 7, 3) := by decide +kernel
theorem dX3_rankOf_8 : decode cX3_rankOf 8 = .ok (.iconst 0, 1) := by decide +kernel
theorem dX3_rankOf_9 : decode cX3_rankOf 9 = .ok (.goto 26, 3) := by decide +kernel
theorem dX3_rankOf_12 : decode cX3_rankOf 12 = .ok (.aload_n 0, 1) := by decide +kernel
theorem dX3_rankOf_13 : decode cX3_rankOf 13 = .ok (.getfield 24, 3) := by decide +kernel
theorem dX3_rankOf_16 : decode cX3_rankOf 16 = .ok (.iload_n 2, 1) := by decide +kernel
theorem dX3_rankOf_17 : decode cX3_rankOf 17 = .ok (.aload_n 0, 1) := by decide +kernel
theorem dX3_rankOf_18 : decode cX3_rankOf 18 = .ok (.getfield 18, 3) := by decide +kernel
theorem dX3_rankOf_21 : decode cX3_rankOf 21 = .ok (.irem, 1) := by decide +kernel
theorem dX3_rankOf_22 : decode cX3_rankOf 22 = .ok (.aload_n 0, 1) := by decide +kernel
theorem dX3_rankOf_23 : decode cX3_rankOf 23 = .ok (.getfield 18, 3) := by decide +kernel
theorem dX3_rankOf_26 : decode cX3_rankOf 26 = .ok (.imul, 1) := by decide +kernel
theorem dX3_rankOf_27 : decode cX3_rankOf 27 = .ok (.iload_n 1, 1) := by decide +kernel
theorem dX3_rankOf_28 : decode cX3_rankOf 28 = .ok (.aload_n 0, 1) := by decide +kernel
theorem dX3_rankOf_29 : decode cX3_rankOf 29 = .ok (.getfield 18, 3) := by decide +kernel
theorem dX3_rankOf_32 : decode cX3_rankOf 32 = .ok (.irem, 1) := by decide +kernel
theorem dX3_rankOf_33 : decode cX3_rankOf 33 = .ok (.iadd, 1) := by decide +kernel
theorem dX3_rankOf_34 : decode cX3_rankOf 34 = .ok (.iaload, 1) := by decide +kernel
theorem dX3_rankOf_35 : decode cX3_rankOf 35 = .ok (.ireturn, 1) := by decide +kernel
theorem dX3_measureAt_0 : decode cX3_measureAt 0 = .ok (.iconst 2, 1) := by decide +kernel
theorem dX3_measureAt_1 : decode cX3_measureAt 1 = .ok (.aload_n 0, 1) := by decide +kernel
theorem dX3_measureAt_2 : decode cX3_measureAt 2 = .ok (.getfield 9, 3) := by decide +kernel
theorem dX3_measureAt_5 : decode cX3_measureAt 5 = .ok (.iload_n 1, 1) := by decide +kernel
theorem dX3_measureAt_6 : decode cX3_measureAt 6 = .ok (.imul, 1) := by decide +kernel
theorem dX3_measureAt_7 : decode cX3_measureAt 7 = .ok (.aload_n 0, 1) := by decide +kernel
theorem dX3_measureAt_8 : decode cX3_measureAt 8 = .ok (.getfield 15, 3) := by decide +kernel
theorem dX3_measureAt_11 : decode cX3_measureAt 11 = .ok (.iload_n 2, 1) := by decide +kernel
theorem dX3_measureAt_12 : decode cX3_measureAt 12 = .ok (.imul, 1) := by decide +kernel
theorem dX3_measureAt_13 : decode cX3_measureAt 13 = .ok (.iadd, 1) := by decide +kernel
theorem dX3_measureAt_14 : decode cX3_measureAt 14 = .ok (.aload_n 0, 1) := by decide +kernel
theorem dX3_measureAt_15 : decode cX3_measureAt 15 = .ok (.getfield 18, 3) := by decide +kernel
theorem dX3_measureAt_18 : decode cX3_measureAt 18 = .ok (.invokestatic 46, 3) := by decide +kernel
theorem dX3_measureAt_21 : decode cX3_measureAt 21 = .ok (.imul, 1) := by decide +kernel
theorem dX3_measureAt_22 : decode cX3_measureAt 22 = .ok (.aload_n 0, 1) := by decide +kernel
theorem dX3_measureAt_23 : decode cX3_measureAt 23 = .ok (.getfield 18, 3) := by decide +kernel
theorem dX3_measureAt_26 : decode cX3_measureAt 26 = .ok (.isub, 1) := by decide +kernel
theorem dX3_measureAt_27 : decode cX3_measureAt 27 = .ok (.istore_n 3, 1) := by decide +kernel
theorem dX3_measureAt_28 : decode cX3_measureAt 28 = .ok (.iconst 2, 1) := by decide +kernel
theorem dX3_measureAt_29 : decode cX3_measureAt 29 = .ok (.aload_n 0, 1) := by decide +kernel
theorem dX3_measureAt_30 : decode cX3_measureAt 30 = .ok (.getfield 9, 3) := by decide +kernel
theorem dX3_measureAt_33 : decode cX3_measureAt 33 = .ok (.iload_n 2, 1) := by decide +kernel
theorem dX3_measureAt_34 : decode cX3_measureAt 34 = .ok (.imul, 1) := by decide +kernel
theorem dX3_measureAt_35 : decode cX3_measureAt 35 = .ok (.aload_n 0, 1) := by decide +kernel
theorem dX3_measureAt_36 : decode cX3_measureAt 36 = .ok (.getfield 15, 3) := by decide +kernel
theorem dX3_measureAt_39 : decode cX3_measureAt 39 = .ok (.iload_n 1, 1) := by decide +kernel
theorem dX3_measureAt_40 : decode cX3_measureAt 40 = .ok (.imul, 1) := by decide +kernel
theorem dX3_measureAt_41 : decode cX3_measureAt 41 = .ok (.isub, 1) := by decide +kernel
theorem dX3_measureAt_42 : decode cX3_measureAt 42 = .ok (.aload_n 0, 1) := by decide +kernel
theorem dX3_measureAt_43 : decode cX3_measureAt 43 = .ok (.getfield 18, 3) := by decide +kernel
theorem dX3_measureAt_46 : decode cX3_measureAt 46 = .ok (.invokestatic 46, 3) := by decide +kernel
theorem dX3_measureAt_49 : decode cX3_measureAt 49 = .ok (.imul, 1) := by decide +kernel
theorem dX3_measureAt_50 : decode cX3_measureAt 50 = .ok (.aload_n 0, 1) := by decide +kernel
theorem dX3_measureAt_51 : decode cX3_measureAt 51 = .ok (.getfield 18, 3) := by decide +kernel
theorem dX3_measureAt_54 : decode cX3_measureAt 54 = .ok (.isub, 1) := by decide +kernel
theorem dX3_measureAt_55 : decode cX3_measureAt 55 = .ok (.istore 4, 2) := by decide +kernel
theorem dX3_measureAt_57 : decode cX3_measureAt 57 = .ok (.aload_n 0, 1) := by decide +kernel
theorem dX3_measureAt_58 : decode cX3_measureAt 58 = .ok (.getfield 21, 3) := by decide +kernel
theorem dX3_measureAt_61 : decode cX3_measureAt 61 = .ok (.tableswitch 53 0 2 #[27, 37, 42], 27) := by decide +kernel
theorem dX3_measureAt_88 : decode cX3_measureAt 88 = .ok (.iload_n 3, 1) := by decide +kernel
theorem dX3_measureAt_89 : decode cX3_measureAt 89 = .ok (.iload_n 3, 1) := by decide +kernel
theorem dX3_measureAt_90 : decode cX3_measureAt 90 = .ok (.imul, 1) := by decide +kernel
theorem dX3_measureAt_91 : decode cX3_measureAt 91 = .ok (.iload 4, 2) := by decide +kernel
theorem dX3_measureAt_93 : decode cX3_measureAt 93 = .ok (.iload 4, 2) := by decide +kernel
theorem dX3_measureAt_95 : decode cX3_measureAt 95 = .ok (.imul, 1) := by decide +kernel
theorem dX3_measureAt_96 : decode cX3_measureAt 96 = .ok (.iadd, 1) := by decide +kernel
theorem dX3_measureAt_97 : decode cX3_measureAt 97 = .ok (.ireturn, 1) := by decide +kernel
theorem dX3_measureAt_98 : decode cX3_measureAt 98 = .ok (.iload_n 3, 1) := by decide +kernel
theorem dX3_measureAt_99 : decode cX3_measureAt 99 = .ok (.invokestatic 49, 3) := by decide +kernel
theorem dX3_measureAt_102 : decode cX3_measureAt 102 = .ok (.ireturn, 1) := by decide +kernel
theorem dX3_measureAt_103 : decode cX3_measureAt 103 = .ok (.iload_n 3, 1) := by decide +kernel
theorem dX3_measureAt_104 : decode cX3_measureAt 104 = .ok (.invokestatic 49, 3) := by decide +kernel
theorem dX3_measureAt_107 : decode cX3_measureAt 107 = .ok (.iload 4, 2) := by decide +kernel
theorem dX3_measureAt_109 : decode cX3_measureAt 109 = .ok (.invokestatic 49, 3) := by decide +kernel
theorem dX3_measureAt_112 : decode cX3_measureAt 112 = .ok (.iadd, 1) := by decide +kernel
theorem dX3_measureAt_113 : decode cX3_measureAt 113 = .ok (.ireturn, 1) := by decide +kernel
theorem dX3_measureAt_114 : decode cX3_measureAt 114 = .ok (.iload_n 3, 1) := by decide +kernel
theorem dX3_measureAt_115 : decode cX3_measureAt 115 = .ok (.invokestatic 49, 3) := by decide +kernel
theorem dX3_measureAt_118 : decode cX3_measureAt 118 = .ok (.iload 4, 2) := by decide +kernel
theorem dX3_measureAt_120 : decode cX3_measureAt 120 = .ok (.invokestatic 49, 3) := by decide +kernel
theorem dX3_measureAt_123 : decode cX3_measureAt 123 = .ok (.invokestatic 55, 3) := by decide +kernel
theorem dX3_measureAt_126 : decode cX3_measureAt 126 = .ok (.ireturn, 1) := by decide +kernel
theorem dX4_init_0 : decode cX4_init 0 = .ok (.aload_n 0, 1) := by decide +kernel
theorem dX4_init_1 : decode cX4_init 1 = .ok (.invokespecial 3, 3) := by decide +kernel
theorem dX4_init_4 : decode cX4_init 4 = .ok (.aload_n 0, 1) := by decide +kernel
theorem dX4_init_5 : decode cX4_init 5 = .ok (.sipush 600, 3) := by decide +kernel
theorem dX4_init_8 : decode cX4_init 8 = .ok (.newarray .int, 2) := by decide +kernel
theorem dX4_init_10 : decode cX4_init 10 = .ok (.putfield 9, 3) := by decide +kernel
theorem dX4_init_13 : decode cX4_init 13 = .ok (.return_, 1) := by decide +kernel
theorem dX4_read_0 : decode cX4_read 0 = .ok (.aload_n 0, 1) := by decide +kernel
theorem dX4_read_1 : decode cX4_read 1 = .ok (.aload_n 1, 1) := by decide +kernel
theorem dX4_read_2 : decode cX4_read 2 = .ok (.putfield 15, 3) := by decide +kernel
theorem dX4_read_5 : decode cX4_read 5 = .ok (.aload_n 0, 1) := by decide +kernel
theorem dX4_read_6 : decode cX4_read 6 = .ok (.iload_n 2, 1) := by decide +kernel
theorem dX4_read_7 : decode cX4_read 7 = .ok (.aload_n 1, 1) := by decide +kernel
theorem dX4_read_8 : decode cX4_read 8 = .ok (.arraylength, 1) := by decide +kernel
theorem dX4_read_9 : decode cX4_read 9 = .ok (.invokestatic 19, 3) := by decide +kernel
theorem dX4_read_12 : decode cX4_read 12 = .ok (.putfield 25, 3) := by decide +kernel
theorem dX4_read_15 : decode cX4_read 15 = .ok (.aload_n 0, 1) := by decide +kernel
theorem dX4_read_16 : decode cX4_read 16 = .ok (.aload_n 3, 1) := by decide +kernel
theorem dX4_read_17 : decode cX4_read 17 = .ok (.putfield 29, 3) := by decide +kernel
theorem dX4_read_20 : decode cX4_read 20 = .ok (.aload_n 0, 1) := by decide +kernel
theorem dX4_read_21 : decode cX4_read 21 = .ok (.iconst 0, 1) := by decide +kernel
theorem dX4_read_22 : decode cX4_read 22 = .ok (.putfield 33, 3) := by decide +kernel
theorem dX4_read_25 : decode cX4_read 25 = .ok (.aload_n 0, 1) := by decide +kernel
theorem dX4_read_26 : decode cX4_read 26 = .ok (.iconst (-1), 1) := by decide +kernel
theorem dX4_read_27 : decode cX4_read 27 = .ok (.putfield 36, 3) := by decide +kernel
theorem dX4_read_30 : decode cX4_read 30 = .ok (.aload_n 0, 1) := by decide +kernel
theorem dX4_read_31 : decode cX4_read 31 = .ok (.iconst 0, 1) := by decide +kernel
theorem dX4_read_32 : decode cX4_read 32 = .ok (.putfield 39, 3) := by decide +kernel
theorem dX4_read_35 : decode cX4_read 35 = .ok (.aload_n 0, 1) := by decide +kernel
theorem dX4_read_36 : decode cX4_read 36 = .ok (.iconst 0, 1) := by decide +kernel
theorem dX4_read_37 : decode cX4_read 37 = .ok (.putfield 43, 3) := by decide +kernel
theorem dX4_read_40 : decode cX4_read 40 = .ok (.aload_n 0, 1) := by decide +kernel
theorem dX4_read_41 : decode cX4_read 41 = .ok (.iconst 0, 1) := by decide +kernel
theorem dX4_read_42 : decode cX4_read 42 = .ok (.putfield 46, 3) := by decide +kernel
theorem dX4_read_45 : decode cX4_read 45 = .ok (.aload_n 0, 1) := by decide +kernel
theorem dX4_read_46 : decode cX4_read 46 = .ok (.invokevirtual 49, 3) := by decide +kernel
theorem dX4_read_49 : decode cX4_read 49 = .ok (.aload_n 0, 1) := by decide +kernel
theorem dX4_read_50 : decode cX4_read 50 = .ok (.invokevirtual 52, 3) := by decide +kernel
theorem dX4_read_53 : decode cX4_read 53 = .ok (.ifCond .ne 5, 3) := by decide +kernel
theorem dX4_read_56 : decode cX4_read 56 = .ok (.iconst 0, 1) := by decide +kernel
theorem dX4_read_57 : decode cX4_read 57 = .ok (.ireturn, 1) := by decide +kernel
theorem dX4_read_58 : decode cX4_read 58 = .ok (.iconst 0, 1) := by decide +kernel
theorem dX4_read_59 : decode cX4_read 59 = .ok (.istore 4, 2) := by decide +kernel
theorem dX4_read_61 : decode cX4_read 61 = .ok (.iload 4, 2) := by decide +kernel
theorem dX4_read_63 : decode cX4_read 63 = .ok (.aload_n 0, 1) := by decide +kernel
theorem dX4_read_64 : decode cX4_read 64 = .ok (.getfield 25, 3) := by decide +kernel
theorem dX4_read_67 : decode cX4_read 67 = .ok (.if_icmp .ge 34, 3) := by decide +kernel
theorem dX4_read_70 : decode cX4_read 70 = .ok (.aload_n 0, 1) := by decide +kernel
theorem dX4_read_71 : decode cX4_read 71 = .ok (.getfield 56, 3) := by decide +kernel
theorem dX4_read_74 : decode cX4_read 74 = .ok (.ifCond .eq 27, 3) := by decide +kernel
theorem dX4_read_77 : decode cX4_read 77 = .ok (.aload_n 0, 1) := by decide +kernel
theorem dX4_read_78 : decode cX4_read 78 = .ok (.invokevirtual 59, 3) := by decide +kernel
theorem dX4_read_81 : decode cX4_read 81 = .ok (.ifCond .eq 12, 3) := by decide +kernel
theorem dX4_read_84 : decode cX4_read 84 = .ok (.aload_n 0, 1) := by decide +kernel
theorem dX4_read_85 : decode cX4_read 85 = .ok (.bipush 59, 2) := by decide +kernel
theorem dX4_read_87 : decode cX4_read 87 = .ok (.invokevirtual 62, 3) := by decide +kernel
theorem dX4_read_90 : decode cX4_read 90 = .ok (.ifCond .ne 5, 3) := by decide +kernel
theorem dX4_read_93 : decode cX4_read 93 = .ok (.iconst 0, 1) := by decide +kernel
theorem dX4_read_94 : decode cX4_read 94 = .ok (.ireturn, 1) := by decide +kernel
theorem dX4_read_95 : decode cX4_read 95 = .ok (.iinc 4 1, 3) := by decide +kernel
theorem dX4_read_98 : decode cX4_read 98 = .ok (.goto (-37), 3) := by decide +kernel
theorem dX4_read_101 : decode cX4_read 101 = .ok (.iconst 1, 1) := by decide +kernel
theorem dX4_read_102 : decode cX4_read 102 = .ok (.ireturn, 1) := by decide +kernel
theorem dX4_readPicture_0 : decode cX4_readPicture 0 = .ok (.aload_n 0, 1) := by decide +kernel
theorem dX4_readPicture_1 : decode cX4_readPicture 1 = .ok (.ldc 66, 2) := by decide +kernel
theorem dX4_readPicture_3 : decode cX4_readPicture 3 = .ok (.invokevirtual 68, 3) := by decide +kernel
theorem dX4_readPicture_6 : decode cX4_readPicture 6 = .ok (.ifCond .ne 10, 3) := by decide +kernel
theorem dX4_readPicture_9 : decode cX4_readPicture 9 = .ok (.aload_n 0, 1) := by decide +kernel
theorem dX4_readPicture_10 : decode cX4_readPicture 10 = .ok (.bipush (-2), 2) := by decide +kernel
theorem dX4_readPicture_12 : decode cX4_readPicture 12 = .ok (.invokevirtual 72, 3) := by decide +kernel
theorem dX4_readPicture_15 : decode cX4_readPicture 15 = .ok (.ireturn, 1) := by decide +kernel
theorem dX4_readPicture_16 : decode cX4_readPicture 16 = .ok (.aload_n 0, 1) := by decide +kernel
theorem dX4_readPicture_17 : decode cX4_readPicture 17 = .ok (.invokevirtual 49, 3) := by decide +kernel
theorem dX4_readPicture_20 : decode cX4_readPicture 20 = .ok (.aload_n 0, 1) := by decide +kernel
theorem dX4_readPicture_21 : decode cX4_readPicture 21 = .ok (.iconst 1, 1) := by decide +kernel
theorem dX4_readPicture_22 : decode cX4_readPicture 22 = .ok (.bipush 16, 2) := by decide +kernel
theorem dX4_readPicture_24 : decode cX4_readPicture 24 = .ok (.invokevirtual 76, 3) := by decide +kernel
theorem dX4_readPicture_27 : decode cX4_readPicture 27 = .ok (.ifCond .ne 5, 3) := by decide +kernel
theorem dX4_readPicture_30 : decode cX4_readPicture 30 = .ok (.iconst 0, 1) := by decide +kernel
theorem dX4_readPicture_31 : decode cX4_readPicture 31 = .ok (.ireturn, 1) := by decide +kernel
theorem dX4_readPicture_32 : decode cX4_readPicture 32 = .ok (.aload_n 0, 1) := by decide +kernel
theorem dX4_readPicture_33 : decode cX4_readPicture 33 = .ok (.getfield 80, 3) := by decide +kernel
theorem dX4_readPicture_36 : decode cX4_readPicture 36 = .ok (.istore_n 1, 1) := by decide +kernel
theorem dX4_readPicture_37 : decode cX4_readPicture 37 = .ok (.aload_n 0, 1) := by decide +kernel
theorem dX4_readPicture_38 : decode cX4_readPicture 38 = .ok (.iconst 1, 1) := by decide +kernel
theorem dX4_readPicture_39 : decode cX4_readPicture 39 = .ok (.bipush 12, 2) := by decide +kernel
theorem dX4_readPicture_41 : decode cX4_readPicture 41 = .ok (.invokevirtual 76, 3) := by decide +kernel
theorem dX4_readPicture_44 : decode cX4_readPicture 44 = .ok (.ifCond .ne 5, 3) := by decide +kernel
theorem dX4_readPicture_47 : decode cX4_readPicture 47 = .ok (.iconst 0, 1) := by decide +kernel
theorem dX4_readPicture_48 : decode cX4_readPicture 48 = .ok (.ireturn, 1) := by decide +kernel
theorem dX4_readPicture_49 : decode cX4_readPicture 49 = .ok (.aload_n 0, 1) := by decide +kernel
theorem dX4_readPicture_50 : decode cX4_readPicture 50 = .ok (.getfield 29, 3) := by decide +kernel
theorem dX4_readPicture_53 : decode cX4_readPicture 53 = .ok (.iload_n 1, 1) := by decide +kernel
theorem dX4_readPicture_54 : decode cX4_readPicture 54 = .ok (.aload_n 0, 1) := by decide +kernel
theorem dX4_readPicture_55 : decode cX4_readPicture 55 = .ok (.getfield 80, 3) := by decide +kernel
theorem dX4_readPicture_58 : decode cX4_readPicture 58 = .ok (.invokevirtual 83, 3) := by decide +kernel
theorem dX4_readPicture_61 : decode cX4_readPicture 61 = .ok (.aload_n 0, 1) := by decide +kernel
theorem dX4_readPicture_62 : decode cX4_readPicture 62 = .ok (.bipush 59, 2) := by decide +kernel
theorem dX4_readPicture_64 : decode cX4_readPicture 64 = .ok (.invokevirtual 62, 3) := by decide +kernel
theorem dX4_readPicture_67 : decode cX4_readPicture 67 = .ok (.ireturn, 1) := by decide +kernel
theorem dX4_readStatement_0 : decode cX4_readStatement 0 = .ok (.aload_n 0, 1) := by decide +kernel
theorem dX4_readStatement_1 : decode cX4_readStatement 1 = .ok (.ldc 89, 2) := by decide +kernel
theorem dX4_readStatement_3 : decode cX4_readStatement 3 = .ok (.invokevirtual 68, 3) := by decide +kernel
theorem dX4_readStatement_6 : decode cX4_readStatement 6 = .ok (.ifCond .eq 8, 3) := by decide +kernel
theorem dX4_readStatement_9 : decode cX4_readStatement 9 = .ok (.aload_n 0, 1) := by decide +kernel
theorem dX4_readStatement_10 : decode cX4_readStatement 10 = .ok (.invokevirtual 91, 3) := by decide +kernel
theorem dX4_readStatement_13 : decode cX4_readStatement 13 = .ok (.ireturn, 1) := by decide +kernel
theorem dX4_readStatement_14 : decode cX4_readStatement 14 = .ok (.aload_n 0, 1) := by decide +kernel
theorem dX4_readStatement_15 : decode cX4_readStatement 15 = .ok (.ldc 94, 2) := by decide +kernel
theorem dX4_readStatement_17 : decode cX4_readStatement 17 = .ok (.invokevirtual 68, 3) := by decide +kernel
theorem dX4_readStatement_20 : decode cX4_readStatement 20 = .ok (.ifCond .eq 8, 3) := by decide +kernel
theorem dX4_readStatement_23 : decode cX4_readStatement 23 = .ok (.aload_n 0, 1) := by decide +kernel
theorem dX4_readStatement_24 : decode cX4_readStatement 24 = .ok (.invokevirtual 96, 3) := by decide +kernel
theorem dX4_readStatement_27 : decode cX4_readStatement 27 = .ok (.ireturn, 1) := by decide +kernel
theorem dX4_readStatement_28 : decode cX4_readStatement 28 = .ok (.aload_n 0, 1) := by decide +kernel
theorem dX4_readStatement_29 : decode cX4_readStatement 29 = .ok (.ldc 99, 2) := by decide +kernel
theorem dX4_readStatement_31 : decode cX4_readStatement 31 = .ok (.invokevirtual 68, 3) := by decide +kernel
theorem dX4_readStatement_34 : decode cX4_readStatement 34 = .ok (.ifCond .eq 8, 3) := by decide +kernel
theorem dX4_readStatement_37 : decode cX4_readStatement 37 = .ok (.aload_n 0, 1) := by decide +kernel
theorem dX4_readStatement_38 : decode cX4_readStatement 38 = .ok (.invokevirtual 101, 3) := by decide +kernel
theorem dX4_readStatement_41 : decode cX4_readStatement 41 = .ok (.ireturn, 1) := by decide +kernel
theorem dX4_readStatement_42 : decode cX4_readStatement 42 = .ok (.aload_n 0, 1) := by decide +kernel
theorem dX4_readStatement_43 : decode cX4_readStatement 43 = .ok (.ldc 104, 2) := by decide +kernel
theorem dX4_readStatement_45 : decode cX4_readStatement 45 = .ok (.invokevirtual 68, 3) := by decide +kernel
theorem dX4_readStatement_48 : decode cX4_readStatement 48 = .ok (.ifCond .eq 8, 3) := by decide +kernel
theorem dX4_readStatement_51 : decode cX4_readStatement 51 = .ok (.aload_n 0, 1) := by decide +kernel
theorem dX4_readStatement_52 : decode cX4_readStatement 52 = .ok (.invokevirtual 106, 3) := by decide +kernel
theorem dX4_readStatement_55 : decode cX4_readStatement 55 = .ok (.ireturn, 1) := by decide +kernel
theorem dX4_readStatement_56 : decode cX4_readStatement 56 = .ok (.aload_n 0, 1) := by decide +kernel
theorem dX4_readStatement_57 : decode cX4_readStatement 57 = .ok (.bipush (-2), 2) := by decide +kernel
theorem dX4_readStatement_59 : decode cX4_readStatement 59 = .ok (.invokevirtual 72, 3) := by decide +kernel
theorem dX4_readStatement_62 : decode cX4_readStatement 62 = .ok (.ireturn, 1) := by decide +kernel
theorem dX4_readTones_0 : decode cX4_readTones 0 = .ok (.aload_n 0, 1) := by decide +kernel
theorem dX4_readTones_1 : decode cX4_readTones 1 = .ok (.getfield 39, 3) := by decide +kernel
theorem dX4_readTones_4 : decode cX4_readTones 4 = .ok (.ifCond .eq 10, 3) := by decide +kernel
theorem dX4_readTones_7 : decode cX4_readTones 7 = .ok (.aload_n 0, 1) := by decide +kernel
theorem dX4_readTones_8 : decode cX4_readTones 8 = .ok (.bipush (-2), 2) := by decide +kernel
theorem dX4_readTones_10 : decode cX4_readTones 10 = .ok (.invokevirtual 72, 3) := by decide +kernel
theorem dX4_readTones_13 : decode cX4_readTones 13 = .ok (.ireturn, 1) := by decide +kernel
theorem dX4_readTones_14 : decode cX4_readTones 14 = .ok (.aload_n 0, 1) := by decide +kernel
theorem dX4_readTones_15 : decode cX4_readTones 15 = .ok (.iconst 1, 1) := by decide +kernel
theorem dX4_readTones_16 : decode cX4_readTones 16 = .ok (.putfield 39, 3) := by decide +kernel
theorem dX4_readTones_19 : decode cX4_readTones 19 = .ok (.aload_n 0, 1) := by decide +kernel
theorem dX4_readTones_20 : decode cX4_readTones 20 = .ok (.invokevirtual 49, 3) := by decide +kernel
theorem dX4_readTones_23 : decode cX4_readTones 23 = .ok (.iconst 0, 1) := by decide +kernel
theorem dX4_readTones_24 : decode cX4_readTones 24 = .ok (.istore_n 1, 1) := by decide +kernel
theorem dX4_readTones_25 : decode cX4_readTones 25 = .ok (.iload_n 1, 1) := by decide +kernel
theorem dX4_readTones_26 : decode cX4_readTones 26 = .ok (.aload_n 0, 1) := by decide +kernel
theorem dX4_readTones_27 : decode cX4_readTones 27 = .ok (.getfield 29, 3) := by decide +kernel
theorem dX4_readTones_30 : decode cX4_readTones 30 = .ok (.getfield 109, 3) := by decide +kernel
theorem dX4_readTones_33 : decode cX4_readTones 33 = .ok (.if_icmp .ge 107, 3) := by decide +kernel
theorem dX4_readTones_36 : decode cX4_readTones 36 = .ok (.aload_n 0, 1) := by decide +kernel
theorem dX4_readTones_37 : decode cX4_readTones 37 = .ok (.getfield 56, 3) := by decide +kernel
theorem dX4_readTones_40 : decode cX4_readTones 40 = .ok (.iconst 1, 1) := by decide +kernel
theorem dX4_readTones_41 : decode cX4_readTones 41 = .ok (.if_icmp .eq 10, 3) := by decide +kernel
theorem dX4_readTones_44 : decode cX4_readTones 44 = .ok (.aload_n 0, 1) := by decide +kernel
theorem dX4_readTones_45 : decode cX4_readTones 45 = .ok (.bipush (-2), 2) := by decide +kernel
theorem dX4_readTones_47 : decode cX4_readTones 47 = .ok (.invokevirtual 72, 3) := by decide +kernel
theorem dX4_readTones_50 : decode cX4_readTones 50 = .ok (.ireturn, 1) := by decide +kernel
theorem dX4_readTones_51 : decode cX4_readTones 51 = .ok (.aload_n 0, 1) := by decide +kernel
theorem dX4_readTones_52 : decode cX4_readTones 52 = .ok (.getfield 46, 3) := by decide +kernel
theorem dX4_readTones_55 : decode cX4_readTones 55 = .ok (.aload_n 0, 1) := by decide +kernel
theorem dX4_readTones_56 : decode cX4_readTones 56 = .ok (.getfield 112, 3) := by decide +kernel
theorem dX4_readTones_59 : decode cX4_readTones 59 = .ok (.isub, 1) := by decide +kernel
theorem dX4_readTones_60 : decode cX4_readTones 60 = .ok (.aload_n 0, 1) := by decide +kernel
theorem dX4_readTones_61 : decode cX4_readTones 61 = .ok (.getfield 29, 3) := by decide +kernel
theorem dX4_readTones_64 : decode cX4_readTones 64 = .ok (.getfield 115, 3) := by decide +kernel
theorem dX4_readTones_67 : decode cX4_readTones 67 = .ok (.if_icmp .eq 10, 3) := by decide +kernel
theorem dX4_readTones_70 : decode cX4_readTones 70 = .ok (.aload_n 0, 1) := by decide +kernel
theorem dX4_readTones_71 : decode cX4_readTones 71 = .ok (.bipush (-3), 2) := by decide +kernel
theorem dX4_readTones_73 : decode cX4_readTones 73 = .ok (.invokevirtual 72, 3) := by decide +kernel
theorem dX4_readTones_76 : decode cX4_readTones 76 = .ok (.ireturn, 1) := by decide +kernel
theorem dX4_readTones_77 : decode cX4_readTones 77 = .ok (.iconst 0, 1) := by decide +kernel
theorem dX4_readTones_78 : decode cX4_readTones 78 = .ok (.istore_n 2, 1) := by decide +kernel
theorem dX4_readTones_79 : decode cX4_readTones 79 = .ok (.iload_n 2, 1) := by decide +kernel
theorem dX4_readTones_80 : decode cX4_readTones 80 = .ok (.aload_n 0, 1) := by decide +kernel
theorem dX4_readTones_81 : decode cX4_readTones 81 = .ok (.getfield 29, 3) := by decide +kernel
theorem dX4_readTones_84 : decode cX4_readTones 84 = .ok (.getfield 115, 3) := by decide +kernel
theorem dX4_readTones_87 : decode cX4_readTones 87 = .ok (.if_icmp .ge 43, 3) := by decide +kernel
theorem dX4_readTones_90 : decode cX4_readTones 90 = .ok (.aload_n 0, 1) := by decide +kernel
theorem dX4_readTones_91 : decode cX4_readTones 91 = .ok (.getfield 29, 3) := by decide +kernel
theorem dX4_readTones_94 : decode cX4_readTones 94 = .ok (.getfield 118, 3) := by decide +kernel
theorem dX4_readTones_97 : decode cX4_readTones 97 = .ok (.aload_n 0, 1) := by decide +kernel
theorem dX4_readTones_98 : decode cX4_readTones 98 = .ok (.getfield 29, 3) := by decide +kernel
theorem dX4_readTones_101 : decode cX4_readTones 101 = .ok (.iload_n 2, 1) := by decide +kernel
theorem dX4_readTones_102 : decode cX4_readTones 102 = .ok (.iload_n 1, 1) := by decide +kernel
theorem dX4_readTones_103 : decode cX4_readTones 103 = .ok (.invokevirtual 120, 3) := by decide +kernel
theorem dX4_readTones_106 : decode cX4_readTones 106 = .ok (.aload_n 0, 1) := by decide +kernel
theorem dX4_readTones_107 : decode cX4_readTones 107 = .ok (.getfield 15, 3) := by decide +kernel
theorem dX4_readTones_110 : decode cX4_readTones 110 = .ok (.aload_n 0, 1) := by decide +kernel
theorem dX4_readTones_111 : decode cX4_readTones 111 = .ok (.getfield 112, 3) := by decide +kernel
theorem dX4_readTones_114 : decode cX4_readTones 114 = .ok (.iload_n 2, 1) := by decide +kernel
theorem dX4_readTones_115 : decode cX4_readTones 115 = .ok (.iadd, 1) := by decide +kernel
theorem dX4_readTones_116 : decode cX4_readTones 116 = .ok (.baload, 1) := by decide +kernel
theorem dX4_readTones_117 : decode cX4_readTones 117 = .ok (.bipush 48, 2) := by decide +kernel
theorem dX4_readTones_119 : decode cX4_readTones 119 = .ok (.isub, 1) := by decide +kernel
theorem dX4_readTones_120 : decode cX4_readTones 120 = .ok (.bipush 11, 2) := by decide +kernel
theorem dX4_readTones_122 : decode cX4_readTones 122 = .ok (.imul, 1) := by decide +kernel
theorem dX4_readTones_123 : decode cX4_readTones 123 = .ok (.iastore, 1) := by decide +kernel
theorem dX4_readTones_124 : decode cX4_readTones 124 = .ok (.iinc 2 1, 3) := by decide +kernel
theorem dX4_readTones_127 : decode cX4_readTones 127 = .ok (.goto (-48), 3) := by decide +kernel
theorem dX4_readTones_130 : decode cX4_readTones 130 = .ok (.aload_n 0, 1) := by decide +kernel
theorem dX4_readTones_131 : decode cX4_readTones 131 = .ok (.invokevirtual 49, 3) := by decide +kernel
theorem dX4_readTones_134 : decode cX4_readTones 134 = .ok (.iinc 1 1, 3) := by decide +kernel
theorem dX4_readTones_137 : decode cX4_readTones 137 = .ok (.goto (-112), 3) := by decide +kernel
theorem dX4_readTones_140 : decode cX4_readTones 140 = .ok (.iconst 1, 1) := by decide +kernel
theorem dX4_readTones_141 : decode cX4_readTones 141 = .ok (.ireturn, 1) := by decide +kernel
theorem dX4_readPlate_0 : decode cX4_readPlate 0 = .ok (.aload_n 0, 1) := by decide +kernel
theorem dX4_readPlate_1 : decode cX4_readPlate 1 = .ok (.getfield 29, 3) := by decide +kernel
theorem dX4_readPlate_4 : decode cX4_readPlate 4 = .ok (.getfield 123, 3) := by decide +kernel
theorem dX4_readPlate_7 : decode cX4_readPlate 7 = .ok (.iconst 4, 1) := by decide +kernel
theorem dX4_readPlate_8 : decode cX4_readPlate 8 = .ok (.if_icmp .lt 10, 3) := by decide +kernel
theorem dX4_readPlate_11 : decode cX4_readPlate 11 = .ok (.aload_n 0, 1) := by decide +kernel
theorem dX4_readPlate_12 : decode cX4_readPlate 12 = .ok (.bipush (-5), 2) := by decide +kernel
theorem dX4_readPlate_14 : decode cX4_readPlate 14 = .ok (.invokevirtual 72, 3) := by decide +kernel
theorem dX4_readPlate_17 : decode cX4_readPlate 17 = .ok (.ireturn, 1) := by decide +kernel
theorem dX4_readPlate_18 : decode cX4_readPlate 18 = .ok (.aload_n 0, 1) := by decide +kernel
theorem dX4_readPlate_19 : decode cX4_readPlate 19 = .ok (.invokevirtual 49, 3) := by decide +kernel
theorem dX4_readPlate_22 : decode cX4_readPlate 22 = .ok (.aload_n 0, 1) := by decide +kernel
theorem dX4_readPlate_23 : decode cX4_readPlate 23 = .ok (.invokevirtual 126, 3) := by decide +kernel
theorem dX4_readPlate_26 : decode cX4_readPlate 26 = .ok (.ifCond .ne 5, 3) := by decide +kernel
theorem dX4_readPlate_29 : decode cX4_readPlate 29 = .ok (.iconst 0, 1) := by decide +kernel
theorem dX4_readPlate_30 : decode cX4_readPlate 30 = .ok (.ireturn, 1) := by decide +kernel
theorem dX4_readPlate_31 : decode cX4_readPlate 31 = .ok (.aload_n 0, 1) := by decide +kernel
theorem dX4_readPlate_32 : decode cX4_readPlate 32 = .ok (.getfield 15, 3) := by decide +kernel
theorem dX4_readPlate_35 : decode cX4_readPlate 35 = .ok (.aload_n 0, 1) := by decide +kernel
theorem dX4_readPlate_36 : decode cX4_readPlate 36 = .ok (.getfield 112, 3) := by decide +kernel
theorem dX4_readPlate_39 : decode cX4_readPlate 39 = .ok (.aload_n 0, 1) := by decide +kernel
theorem dX4_readPlate_40 : decode cX4_readPlate 40 = .ok (.getfield 46, 3) := by decide +kernel
theorem dX4_readPlate_43 : decode cX4_readPlate 43 = .ok (.invokestatic 129, 3) := by decide +kernel
theorem dX4_readPlate_46 : decode cX4_readPlate 46 = .ok (.lstore_n 1, 1) := by decide +kernel
theorem dX4_readPlate_47 : decode cX4_readPlate 47 = .ok (.aload_n 0, 1) := by decide +kernel
theorem dX4_readPlate_48 : decode cX4_readPlate 48 = .ok (.getfield 29, 3) := by decide +kernel
theorem dX4_readPlate_51 : decode cX4_readPlate 51 = .ok (.lload_n 1, 1) := by decide +kernel
theorem dX4_readPlate_52 : decode cX4_readPlate 52 = .ok (.invokevirtual 133, 3) := by decide +kernel
theorem dX4_readPlate_55 : decode cX4_readPlate 55 = .ok (.ifCond .lt 10, 3) := by decide +kernel
theorem dX4_readPlate_58 : decode cX4_readPlate 58 = .ok (.aload_n 0, 1) := by decide +kernel
theorem dX4_readPlate_59 : decode cX4_readPlate 59 = .ok (.bipush (-4), 2) := by decide +kernel
theorem dX4_readPlate_61 : decode cX4_readPlate 61 = .ok (.invokevirtual 72, 3) := by decide +kernel
theorem dX4_readPlate_64 : decode cX4_readPlate 64 = .ok (.ireturn, 1) := by decide +kernel
theorem dX4_readPlate_65 : decode cX4_readPlate 65 = .ok (.aload_n 0, 1) := by decide +kernel
theorem dX4_readPlate_66 : decode cX4_readPlate 66 = .ok (.invokevirtual 49, 3) := by decide +kernel
theorem dX4_readPlate_69 : decode cX4_readPlate 69 = .ok (.aload_n 0, 1) := by decide +kernel
theorem dX4_readPlate_70 : decode cX4_readPlate 70 = .ok (.iconst 0, 1) := by decide +kernel
theorem dX4_readPlate_71 : decode cX4_readPlate 71 = .ok (.iconst 3, 1) := by decide +kernel
theorem dX4_readPlate_72 : decode cX4_readPlate 72 = .ok (.invokevirtual 76, 3) := by decide +kernel
theorem dX4_readPlate_75 : decode cX4_readPlate 75 = .ok (.ifCond .ne 5, 3) := by decide +kernel
theorem dX4_readPlate_78 : decode cX4_readPlate 78 = .ok (.iconst 0, 1) := by decide +kernel
theorem dX4_readPlate_79 : decode cX4_readPlate 79 = .ok (.ireturn, 1) := by decide +kernel
theorem dX4_readPlate_80 : decode cX4_readPlate 80 = .ok (.aload_n 0, 1) := by decide +kernel
theorem dX4_readPlate_81 : decode cX4_readPlate 81 = .ok (.getfield 80, 3) := by decide +kernel
theorem dX4_readPlate_84 : decode cX4_readPlate 84 = .ok (.istore_n 3, 1) := by decide +kernel
theorem dX4_readPlate_85 : decode cX4_readPlate 85 = .ok (.aload_n 0, 1) := by decide +kernel
theorem dX4_readPlate_86 : decode cX4_readPlate 86 = .ok (.iload_n 3, 1) := by decide +kernel
theorem dX4_readPlate_87 : decode cX4_readPlate 87 = .ok (.ifCond .ne 7, 3) := by decide +kernel
theorem dX4_readPlate_90 : decode cX4_readPlate 90 = .ok (.iconst 1, 1) := by decide +kernel
theorem dX4_readPlate_91 : decode cX4_readPlate 91 = .ok (.goto 4, 3) := by decide +kernel
theorem dX4_readPlate_94 : decode cX4_readPlate 94 = .ok (.iconst 0, 1) := by decide +kernel
theorem dX4_readPlate_95 : decode cX4_readPlate 95 = .ok (.iconst 3, 1) := by decide +kernel
theorem dX4_readPlate_96 : decode cX4_readPlate 96 = .ok (.invokevirtual 76, 3) := by decide +kernel
theorem dX4_readPlate_99 : decode cX4_readPlate 99 = .ok (.ifCond .ne 5, 3) := by decide +kernel
theorem dX4_readPlate_102 : decode cX4_readPlate 102 = .ok (.iconst 0, 1) := by decide +kernel
theorem dX4_readPlate_103 : decode cX4_readPlate 103 = .ok (.ireturn, 1) := by decide +kernel
theorem dX4_readPlate_104 : decode cX4_readPlate 104 = .ok (.aload_n 0, 1) := by decide +kernel
theorem dX4_readPlate_105 : decode cX4_readPlate 105 = .ok (.getfield 80, 3) := by decide +kernel
theorem dX4_readPlate_108 : decode cX4_readPlate 108 = .ok (.istore 4, 2) := by decide +kernel
theorem dX4_readPlate_110 : decode cX4_readPlate 110 = .ok (.aload_n 0, 1) := by decide +kernel
theorem dX4_readPlate_111 : decode cX4_readPlate 111 = .ok (.invokevirtual 137, 3) := by decide +kernel
theorem dX4_readPlate_114 : decode cX4_readPlate 114 = .ok (.istore 5, 2) := by decide +kernel
theorem dX4_readPlate_116 : decode cX4_readPlate 116 = .ok (.iload 5, 2) := by decide +kernel
theorem dX4_readPlate_118 : decode cX4_readPlate 118 = .ok (.ifCond .ge 10, 3) := by decide +kernel
theorem dX4_readPlate_121 : decode cX4_readPlate 121 = .ok (.aload_n 0, 1) := by decide +kernel
theorem dX4_readPlate_122 : decode cX4_readPlate 122 = .ok (.bipush (-2), 2) := by decide +kernel
theorem dX4_readPlate_124 : decode cX4_readPlate 124 = .ok (.invokevirtual 72, 3) := by decide +kernel
theorem dX4_readPlate_127 : decode cX4_readPlate 127 = .ok (.ireturn, 1) := by decide +kernel
theorem dX4_readPlate_128 : decode cX4_readPlate 128 = .ok (.aload_n 0, 1) := by decide +kernel
theorem dX4_readPlate_129 : decode cX4_readPlate 129 = .ok (.invokevirtual 49, 3) := by decide +kernel
theorem dX4_readPlate_132 : decode cX4_readPlate 132 = .ok (.aconst_null, 1) := by decide +kernel
theorem dX4_readPlate_133 : decode cX4_readPlate 133 = .ok (.astore 6, 2) := by decide +kernel
theorem dX4_readPlate_135 : decode cX4_readPlate 135 = .ok (.aload_n 0, 1) := by decide +kernel
theorem dX4_readPlate_136 : decode cX4_readPlate 136 = .ok (.ldc 141, 2) := by decide +kernel
theorem dX4_readPlate_138 : decode cX4_readPlate 138 = .ok (.invokevirtual 68, 3) := by decide +kernel
theorem dX4_readPlate_141 : decode cX4_readPlate 141 = .ok (.ifCond .eq 42, 3) := by decide +kernel
theorem dX4_readPlate_144 : decode cX4_readPlate 144 = .ok (.aload_n 0, 1) := by decide +kernel
theorem dX4_readPlate_145 : decode cX4_readPlate 145 = .ok (.invokevirtual 49, 3) := by decide +kernel
theorem dX4_readPlate_148 : decode cX4_readPlate 148 = .ok (.aload_n 0, 1) := by decide +kernel
theorem dX4_readPlate_149 : decode cX4_readPlate 149 = .ok (.iconst 0, 1) := by decide +kernel
theorem dX4_readPlate_150 : decode cX4_readPlate 150 = .ok (.putfield 143, 3) := by decide +kernel
theorem dX4_readPlate_153 : decode cX4_readPlate 153 = .ok (.aload_n 0, 1) := by decide +kernel
theorem dX4_readPlate_154 : decode cX4_readPlate 154 = .ok (.iconst 0, 1) := by decide +kernel
theorem dX4_readPlate_155 : decode cX4_readPlate 155 = .ok (.invokevirtual 146, 3) := by decide +kernel
theorem dX4_readPlate_158 : decode cX4_readPlate 158 = .ok (.ifCond .ne 5, 3) := by decide +kernel
theorem dX4_readPlate_161 : decode cX4_readPlate 161 = .ok (.iconst 0, 1) := by decide +kernel
theorem dX4_readPlate_162 : decode cX4_readPlate 162 = .ok (.ireturn, 1) := by decide +kernel
theorem dX4_readPlate_163 : decode cX4_readPlate 163 = .ok (.new 149, 3) := by decide +kernel
theorem dX4_readPlate_166 : decode cX4_readPlate 166 = .ok (.dup, 1) := by decide +kernel
theorem dX4_readPlate_167 : decode cX4_readPlate 167 = .ok (.aload_n 0, 1) := by decide +kernel
theorem dX4_readPlate_168 : decode cX4_readPlate 168 = .ok (.getfield 9, 3) := by decide +kernel
theorem dX4_readPlate_171 : decode cX4_readPlate 171 = .ok (.aload_n 0, 1) := by decide +kernel
theorem dX4_readPlate_172 : decode cX4_readPlate 172 = .ok (.getfield 143, 3) := by decide +kernel
theorem dX4_readPlate_175 : decode cX4_readPlate 175 = .ok (.invokestatic 151, 3) := by decide +kernel
theorem dX4_readPlate_178 : decode cX4_readPlate 178 = .ok (.invokespecial 157, 3) := by decide +kernel
theorem dX4_readPlate_181 : decode cX4_readPlate 181 = .ok (.astore 6, 2) := by decide +kernel
theorem dX4_readPlate_183 : decode cX4_readPlate 183 = .ok (.aload_n 0, 1) := by decide +kernel
theorem dX4_readPlate_184 : decode cX4_readPlate 184 = .ok (.getfield 29, 3) := by decide +kernel
theorem dX4_readPlate_187 : decode cX4_readPlate 187 = .ok (.lload_n 1, 1) := by decide +kernel
theorem dX4_readPlate_188 : decode cX4_readPlate 188 = .ok (.iload_n 3, 1) := by decide +kernel
theorem dX4_readPlate_189 : decode cX4_readPlate 189 = .ok (.iload 4, 2) := by decide +kernel
theorem dX4_readPlate_191 : decode cX4_readPlate 191 = .ok (.iload 5, 2) := by decide +kernel
theorem dX4_readPlate_193 : decode cX4_readPlate 193 = .ok (.aload 6, 2) := by decide +kernel
theorem dX4_readPlate_195 : decode cX4_readPlate 195 = .ok (.invokevirtual 160, 3) := by decide +kernel
theorem dX4_readPlate_198 : decode cX4_readPlate 198 = .ok (.iconst 1, 1) := by decide +kernel
theorem dX4_readPlate_199 : decode cX4_readPlate 199 = .ok (.ireturn, 1) := by decide +kernel
theorem dX4_readInk_0 : decode cX4_readInk 0 = .ok (.aload_n 0, 1) := by decide +kernel
theorem dX4_readInk_1 : decode cX4_readInk 1 = .ok (.invokevirtual 49, 3) := by decide +kernel
theorem dX4_readInk_4 : decode cX4_readInk 4 = .ok (.aload_n 0, 1) := by decide +kernel
theorem dX4_readInk_5 : decode cX4_readInk 5 = .ok (.invokevirtual 126, 3) := by decide +kernel
theorem dX4_readInk_8 : decode cX4_readInk 8 = .ok (.ifCond .ne 5, 3) := by decide +kernel
theorem dX4_readInk_11 : decode cX4_readInk 11 = .ok (.iconst 0, 1) := by decide +kernel
theorem dX4_readInk_12 : decode cX4_readInk 12 = .ok (.ireturn, 1) := by decide +kernel
theorem dX4_readInk_13 : decode cX4_readInk 13 = .ok (.aload_n 0, 1) := by decide +kernel
theorem dX4_readInk_14 : decode cX4_readInk 14 = .ok (.getfield 29, 3) := by decide +kernel
theorem dX4_readInk_17 : decode cX4_readInk 17 = .ok (.aload_n 0, 1) := by decide +kernel
theorem dX4_readInk_18 : decode cX4_readInk 18 = .ok (.getfield 15, 3) := by decide +kernel
theorem dX4_readInk_21 : decode cX4_readInk 21 = .ok (.aload_n 0, 1) := by decide +kernel
theorem dX4_readInk_22 : decode cX4_readInk 22 = .ok (.getfield 112, 3) := by decide +kernel
theorem dX4_readInk_25 : decode cX4_readInk 25 = .ok (.aload_n 0, 1) := by decide +kernel
theorem dX4_readInk_26 : decode cX4_readInk 26 = .ok (.getfield 46, 3) := by decide +kernel
theorem dX4_readInk_29 : decode cX4_readInk 29 = .ok (.invokestatic 129, 3) := by decide +kernel
theorem dX4_readInk_32 : decode cX4_readInk 32 = .ok (.invokevirtual 133, 3) := by decide +kernel
theorem dX4_readInk_35 : decode cX4_readInk 35 = .ok (.istore_n 1, 1) := by decide +kernel
theorem dX4_readInk_36 : decode cX4_readInk 36 = .ok (.iload_n 1, 1) := by decide +kernel
theorem dX4_readInk_37 : decode cX4_readInk 37 = .ok (.ifCond .ge 10, 3) := by decide +kernel
theorem dX4_readInk_40 : decode cX4_readInk 40 = .ok (.aload_n 0, 1) := by decide +kernel
theorem dX4_readInk_41 : decode cX4_readInk 41 = .ok (.bipush (-4), 2) := by decide +kernel
theorem dX4_readInk_43 : decode cX4_readInk 43 = .ok (.invokevirtual 72, 3) := by decide +kernel
theorem dX4_readInk_46 : decode cX4_readInk 46 = .ok (.ireturn, 1) := by decide +kernel
theorem dX4_readInk_47 : decode cX4_readInk 47 = .ok (.aload_n 0, 1) := by decide +kernel
theorem dX4_readInk_48 : decode cX4_readInk 48 = .ok (.invokevirtual 49, 3) := by decide +kernel
theorem dX4_readInk_51 : decode cX4_readInk 51 = .ok (.aload_n 0, 1) := by decide +kernel
theorem dX4_readInk_52 : decode cX4_readInk 52 = .ok (.iconst 0, 1) := by decide +kernel
theorem dX4_readInk_53 : decode cX4_readInk 53 = .ok (.ldc 164, 2) := by decide +kernel
theorem dX4_readInk_55 : decode cX4_readInk 55 = .ok (.invokevirtual 76, 3) := by decide +kernel
theorem dX4_readInk_58 : decode cX4_readInk 58 = .ok (.ifCond .ne 5, 3) := by decide +kernel
theorem dX4_readInk_61 : decode cX4_readInk 61 = .ok (.iconst 0, 1) := by decide +kernel
theorem dX4_readInk_62 : decode cX4_readInk 62 = .ok (.ireturn, 1) := by decide +kernel
theorem dX4_readInk_63 : decode cX4_readInk 63 = .ok (.aload_n 0, 1) := by decide +kernel
theorem dX4_readInk_64 : decode cX4_readInk 64 = .ok (.getfield 29, 3) := by decide +kernel
theorem dX4_readInk_67 : decode cX4_readInk 67 = .ok (.getfield 165, 3) := by decide +kernel
theorem dX4_readInk_70 : decode cX4_readInk 70 = .ok (.iload_n 1, 1) := by decide +kernel
theorem dX4_readInk_71 : decode cX4_readInk 71 = .ok (.aaload, 1) := by decide +kernel
theorem dX4_readInk_72 : decode cX4_readInk 72 = .ok (.aload_n 0, 1) := by decide +kernel
theorem dX4_readInk_73 : decode cX4_readInk 73 = .ok (.getfield 80, 3) := by decide +kernel
theorem dX4_readInk_76 : decode cX4_readInk 76 = .ok (.putfield 169, 3) := by decide +kernel
theorem dX4_readInk_79 : decode cX4_readInk 79 = .ok (.iconst 1, 1) := by decide +kernel
theorem dX4_readInk_80 : decode cX4_readInk 80 = .ok (.ireturn, 1) := by decide +kernel
theorem dX4_readLimit_0 : decode cX4_readLimit 0 = .ok (.aload_n 0, 1) := by decide +kernel
theorem dX4_readLimit_1 : decode cX4_readLimit 1 = .ok (.getfield 43, 3) := by decide +kernel
theorem dX4_readLimit_4 : decode cX4_readLimit 4 = .ok (.ifCond .eq 10, 3) := by decide +kernel
theorem dX4_readLimit_7 : decode cX4_readLimit 7 = .ok (.aload_n 0, 1) := by decide +kernel
theorem dX4_readLimit_8 : decode cX4_readLimit 8 = .ok (.bipush (-2), 2) := by decide +kernel
theorem dX4_readLimit_10 : decode cX4_readLimit 10 = .ok (.invokevirtual 72, 3) := by decide +kernel
theorem dX4_readLimit_13 : decode cX4_readLimit 13 = .ok (.ireturn, 1) := by decide +kernel
theorem dX4_readLimit_14 : decode cX4_readLimit 14 = .ok (.aload_n 0, 1) := by decide +kernel
theorem dX4_readLimit_15 : decode cX4_readLimit 15 = .ok (.iconst 1, 1) := by decide +kernel
theorem dX4_readLimit_16 : decode cX4_readLimit 16 = .ok (.putfield 43, 3) := by decide +kernel
theorem dX4_readLimit_19 : decode cX4_readLimit 19 = .ok (.aload_n 0, 1) := by decide +kernel
theorem dX4_readLimit_20 : decode cX4_readLimit 20 = .ok (.invokevirtual 49, 3) := by decide +kernel
theorem dX4_readLimit_23 : decode cX4_readLimit 23 = .ok (.aload_n 0, 1) := by decide +kernel
theorem dX4_readLimit_24 : decode cX4_readLimit 24 = .ok (.iconst 1, 1) := by decide +kernel
theorem dX4_readLimit_25 : decode cX4_readLimit 25 = .ok (.iconst 4, 1) := by decide +kernel
theorem dX4_readLimit_26 : decode cX4_readLimit 26 = .ok (.invokevirtual 76, 3) := by decide +kernel
theorem dX4_readLimit_29 : decode cX4_readLimit 29 = .ok (.ifCond .ne 5, 3) := by decide +kernel
theorem dX4_readLimit_32 : decode cX4_readLimit 32 = .ok (.iconst 0, 1) := by decide +kernel
theorem dX4_readLimit_33 : decode cX4_readLimit 33 = .ok (.ireturn, 1) := by decide +kernel
theorem dX4_readLimit_34 : decode cX4_readLimit 34 = .ok (.aload_n 0, 1) := by decide +kernel
theorem dX4_readLimit_35 : decode cX4_readLimit 35 = .ok (.getfield 29, 3) := by decide +kernel
theorem dX4_readLimit_38 : decode cX4_readLimit 38 = .ok (.aload_n 0, 1) := by decide +kernel
theorem dX4_readLimit_39 : decode cX4_readLimit 39 = .ok (.getfield 80, 3) := by decide +kernel
theorem dX4_readLimit_42 : decode cX4_readLimit 42 = .ok (.putfield 173, 3) := by decide +kernel
theorem dX4_readLimit_45 : decode cX4_readLimit 45 = .ok (.iconst 1, 1) := by decide +kernel
theorem dX4_readLimit_46 : decode cX4_readLimit 46 = .ok (.ireturn, 1) := by decide +kernel
theorem dX4_readSum_0 : decode cX4_readSum 0 = .ok (.aload_n 0, 1) := by decide +kernel
theorem dX4_readSum_1 : decode cX4_readSum 1 = .ok (.iload_n 1, 1) := by decide +kernel
theorem dX4_readSum_2 : decode cX4_readSum 2 = .ok (.invokevirtual 175, 3) := by decide +kernel
theorem dX4_readSum_5 : decode cX4_readSum 5 = .ok (.ifCond .ne 5, 3) := by decide +kernel
theorem dX4_readSum_8 : decode cX4_readSum 8 = .ok (.iconst 0, 1) := by decide +kernel
theorem dX4_readSum_9 : decode cX4_readSum 9 = .ok (.ireturn, 1) := by decide +kernel
theorem dX4_readSum_10 : decode cX4_readSum 10 = .ok (.iconst 0, 1) := by decide +kernel
theorem dX4_readSum_11 : decode cX4_readSum 11 = .ok (.istore_n 2, 1) := by decide +kernel
theorem dX4_readSum_12 : decode cX4_readSum 12 = .ok (.iload_n 2, 1) := by decide +kernel
theorem dX4_readSum_13 : decode cX4_readSum 13 = .ok (.aload_n 0, 1) := by decide +kernel
theorem dX4_readSum_14 : decode cX4_readSum 14 = .ok (.getfield 25, 3) := by decide +kernel
theorem dX4_readSum_17 : decode cX4_readSum 17 = .ok (.if_icmp .ge 63, 3) := by decide +kernel
theorem dX4_readSum_20 : decode cX4_readSum 20 = .ok (.aload_n 0, 1) := by decide +kernel
theorem dX4_readSum_21 : decode cX4_readSum 21 = .ok (.bipush 43, 2) := by decide +kernel
theorem dX4_readSum_23 : decode cX4_readSum 23 = .ok (.invokevirtual 178, 3) := by decide +kernel
theorem dX4_readSum_26 : decode cX4_readSum 26 = .ok (.ifCond .ne 12, 3) := by decide +kernel
theorem dX4_readSum_29 : decode cX4_readSum 29 = .ok (.aload_n 0, 1) := by decide +kernel
theorem dX4_readSum_30 : decode cX4_readSum 30 = .ok (.bipush 45, 2) := by decide +kernel
theorem dX4_readSum_32 : decode cX4_readSum 32 = .ok (.invokevirtual 178, 3) := by decide +kernel
theorem dX4_readSum_35 : decode cX4_readSum 35 = .ok (.ifCond .eq 45, 3) := by decide +kernel
theorem dX4_readSum_38 : decode cX4_readSum 38 = .ok (.aload_n 0, 1) := by decide +kernel
theorem dX4_readSum_39 : decode cX4_readSum 39 = .ok (.bipush 43, 2) := by decide +kernel
theorem dX4_readSum_41 : decode cX4_readSum 41 = .ok (.invokevirtual 178, 3) := by decide +kernel
theorem dX4_readSum_44 : decode cX4_readSum 44 = .ok (.ifCond .eq 8, 3) := by decide +kernel
theorem dX4_readSum_47 : decode cX4_readSum 47 = .ok (.bipush (-5), 2) := by decide +kernel
theorem dX4_readSum_49 : decode cX4_readSum 49 = .ok (.goto 5, 3) := by decide +kernel
theorem dX4_readSum_52 : decode cX4_readSum 52 = .ok (.bipush (-6), 2) := by decide +kernel
theorem dX4_readSum_54 : decode cX4_readSum 54 = .ok (.istore_n 3, 1) := by decide +kernel
theorem dX4_readSum_55 : decode cX4_readSum 55 = .ok (.aload_n 0, 1) := by decide +kernel
theorem dX4_readSum_56 : decode cX4_readSum 56 = .ok (.invokevirtual 49, 3) := by decide +kernel
theorem dX4_readSum_59 : decode cX4_readSum 59 = .ok (.aload_n 0, 1) := by decide +kernel
theorem dX4_readSum_60 : decode cX4_readSum 60 = .ok (.iload_n 1, 1) := by decide +kernel
theorem dX4_readSum_61 : decode cX4_readSum 61 = .ok (.invokevirtual 175, 3) := by decide +kernel
theorem dX4_readSum_64 : decode cX4_readSum 64 = .ok (.ifCond .ne 5, 3) := by decide +kernel
theorem dX4_readSum_67 : decode cX4_readSum 67 = .ok (.iconst 0, 1) := by decide +kernel
theorem dX4_readSum_68 : decode cX4_readSum 68 = .ok (.ireturn, 1) := by decide +kernel
theorem dX4_readSum_69 : decode cX4_readSum 69 = .ok (.aload_n 0, 1) := by decide +kernel
theorem dX4_readSum_70 : decode cX4_readSum 70 = .ok (.iload_n 3, 1) := by decide +kernel
theorem dX4_readSum_71 : decode cX4_readSum 71 = .ok (.invokevirtual 181, 3) := by decide +kernel
theorem dX4_readSum_74 : decode cX4_readSum 74 = .ok (.iinc 2 1, 3) := by decide +kernel
theorem dX4_readSum_77 : decode cX4_readSum 77 = .ok (.goto (-65), 3) := by decide +kernel
theorem dX4_readSum_80 : decode cX4_readSum 80 = .ok (.iconst 1, 1) := by decide +kernel
theorem dX4_readSum_81 : decode cX4_readSum 81 = .ok (.ireturn, 1) := by decide +kernel
theorem dX4_readTerm_0 : decode cX4_readTerm 0 = .ok (.aload_n 0, 1) := by decide +kernel
theorem dX4_readTerm_1 : decode cX4_readTerm 1 = .ok (.iload_n 1, 1) := by decide +kernel
theorem dX4_readTerm_2 : decode cX4_readTerm 2 = .ok (.invokevirtual 185, 3) := by decide +kernel
theorem dX4_readTerm_5 : decode cX4_readTerm 5 = .ok (.ifCond .ne 5, 3) := by decide +kernel
theorem dX4_readTerm_8 : decode cX4_readTerm 8 = .ok (.iconst 0, 1) := by decide +kernel
theorem dX4_readTerm_9 : decode cX4_readTerm 9 = .ok (.ireturn, 1) := by decide +kernel
theorem dX4_readTerm_10 : decode cX4_readTerm 10 = .ok (.iconst 0, 1) := by decide +kernel
theorem dX4_readTerm_11 : decode cX4_readTerm 11 = .ok (.istore_n 2, 1) := by decide +kernel
theorem dX4_readTerm_12 : decode cX4_readTerm 12 = .ok (.iload_n 2, 1) := by decide +kernel
theorem dX4_readTerm_13 : decode cX4_readTerm 13 = .ok (.aload_n 0, 1) := by decide +kernel
theorem dX4_readTerm_14 : decode cX4_readTerm 14 = .ok (.getfield 25, 3) := by decide +kernel
theorem dX4_readTerm_17 : decode cX4_readTerm 17 = .ok (.if_icmp .ge 63, 3) := by decide +kernel
theorem dX4_readTerm_20 : decode cX4_readTerm 20 = .ok (.aload_n 0, 1) := by decide +kernel
theorem dX4_readTerm_21 : decode cX4_readTerm 21 = .ok (.bipush 42, 2) := by decide +kernel
theorem dX4_readTerm_23 : decode cX4_readTerm 23 = .ok (.invokevirtual 178, 3) := by decide +kernel
theorem dX4_readTerm_26 : decode cX4_readTerm 26 = .ok (.ifCond .ne 12, 3) := by decide +kernel
theorem dX4_readTerm_29 : decode cX4_readTerm 29 = .ok (.aload_n 0, 1) := by decide +kernel
theorem dX4_readTerm_30 : decode cX4_readTerm 30 = .ok (.bipush 47, 2) := by decide +kernel
theorem dX4_readTerm_32 : decode cX4_readTerm 32 = .ok (.invokevirtual 178, 3) := by decide +kernel
theorem dX4_readTerm_35 : decode cX4_readTerm 35 = .ok (.ifCond .eq 45, 3) := by decide +kernel
theorem dX4_readTerm_38 : decode cX4_readTerm 38 = .ok (.aload_n 0, 1) := by decide +kernel
theorem dX4_readTerm_39 : decode cX4_readTerm 39 = .ok (.bipush 42, 2) := by decide +kernel
theorem dX4_readTerm_41 : decode cX4_readTerm 41 = .ok (.invokevirtual 178, 3) := by decide +kernel
theorem dX4_readTerm_44 : decode cX4_readTerm 44 = .ok (.ifCond .eq 8, 3) := by decide +kernel
theorem dX4_readTerm_47 : decode cX4_readTerm 47 = .ok (.bipush (-7), 2) := by decide +kernel
theorem dX4_readTerm_49 : decode cX4_readTerm 49 = .ok (.goto 5, 3) := by decide +kernel
theorem dX4_readTerm_52 : decode cX4_readTerm 52 = .ok (.bipush (-8), 2) := by decide +kernel
theorem dX4_readTerm_54 : decode cX4_readTerm 54 = .ok (.istore_n 3, 1) := by decide +kernel
theorem dX4_readTerm_55 : decode cX4_readTerm 55 = .ok (.aload_n 0, 1) := by decide +kernel
theorem dX4_readTerm_56 : decode cX4_readTerm 56 = .ok (.invokevirtual 49, 3) := by decide +kernel
theorem dX4_readTerm_59 : decode cX4_readTerm 59 = .ok (.aload_n 0, 1) := by decide +kernel
theorem dX4_readTerm_60 : decode cX4_readTerm 60 = .ok (.iload_n 1, 1) := by decide +kernel
theorem dX4_readTerm_61 : decode cX4_readTerm 61 = .ok (.invokevirtual 185, 3) := by decide +kernel
theorem dX4_readTerm_64 : decode cX4_readTerm 64 = .ok (.ifCond .ne 5, 3) := by decide +kernel
theorem dX4_readTerm_67 : decode cX4_readTerm 67 = .ok (.iconst 0, 1) := by decide +kernel
theorem dX4_readTerm_68 : decode cX4_readTerm 68 = .ok (.ireturn, 1) := by decide +kernel
theorem dX4_readTerm_69 : decode cX4_readTerm 69 = .ok (.aload_n 0, 1) := by decide +kernel
theorem dX4_readTerm_70 : decode cX4_readTerm 70 = .ok (.iload_n 3, 1) := by decide +kernel
theorem dX4_readTerm_71 : decode cX4_readTerm 71 = .ok (.invokevirtual 181, 3) := by decide +kernel
theorem dX4_readTerm_74 : decode cX4_readTerm 74 = .ok (.iinc 2 1, 3) := by decide +kernel
theorem dX4_readTerm_77 : decode cX4_readTerm 77 = .ok (.goto (-65), 3) := by decide +kernel
theorem dX4_readTerm_80 : decode cX4_readTerm 80 = .ok (.iconst 1, 1) := by decide +kernel
theorem dX4_readTerm_81 : decode cX4_readTerm 81 = .ok (.ireturn, 1) := by decide +kernel
theorem dX4_readFactor_0 : decode cX4_readFactor 0 = .ok (.aload_n 0, 1) := by decide +kernel
theorem dX4_readFactor_1 : decode cX4_readFactor 1 = .ok (.bipush 40, 2) := by decide +kernel
theorem dX4_readFactor_3 : decode cX4_readFactor 3 = .ok (.invokevirtual 178, 3) := by decide +kernel
theorem dX4_readFactor_6 : decode cX4_readFactor 6 = .ok (.ifCond .eq 44, 3) := by decide +kernel
theorem dX4_readFactor_9 : decode cX4_readFactor 9 = .ok (.iload_n 1, 1) := by decide +kernel
theorem dX4_readFactor_10 : decode cX4_readFactor 10 = .ok (.iconst 4, 1) := by decide +kernel
theorem dX4_readFactor_11 : decode cX4_readFactor 11 = .ok (.if_icmp .lt 10, 3) := by decide +kernel
theorem dX4_readFactor_14 : decode cX4_readFactor 14 = .ok (.aload_n 0, 1) := by decide +kernel
theorem dX4_readFactor_15 : decode cX4_readFactor 15 = .ok (.bipush (-6), 2) := by decide +kernel
theorem dX4_readFactor_17 : decode cX4_readFactor 17 = .ok (.invokevirtual 72, 3) := by decide +kernel
theorem dX4_readFactor_20 : decode cX4_readFactor 20 = .ok (.ireturn, 1) := by decide +kernel
theorem dX4_readFactor_21 : decode cX4_readFactor 21 = .ok (.aload_n 0, 1) := by decide +kernel
theorem dX4_readFactor_22 : decode cX4_readFactor 22 = .ok (.invokevirtual 49, 3) := by decide +kernel
theorem dX4_readFactor_25 : decode cX4_readFactor 25 = .ok (.aload_n 0, 1) := by decide +kernel
theorem dX4_readFactor_26 : decode cX4_readFactor 26 = .ok (.iload_n 1, 1) := by decide +kernel
theorem dX4_readFactor_27 : decode cX4_readFactor 27 = .ok (.iconst 1, 1) := by decide +kernel
theorem dX4_readFactor_28 : decode cX4_readFactor 28 = .ok (.iadd, 1) := by decide +kernel
theorem dX4_readFactor_29 : decode cX4_readFactor 29 = .ok (.invokevirtual 146, 3) := by decide +kernel
theorem dX4_readFactor_32 : decode cX4_readFactor 32 = .ok (.ifCond .eq 16, 3) := by decide +kernel
theorem dX4_readFactor_35 : decode cX4_readFactor 35 = .ok (.aload_n 0, 1) := by decide +kernel
theorem dX4_readFactor_36 : decode cX4_readFactor 36 = .ok (.bipush 41, 2) := by decide +kernel
theorem dX4_readFactor_38 : decode cX4_readFactor 38 = .ok (.invokevirtual 62, 3) := by decide +kernel
theorem dX4_readFactor_41 : decode cX4_readFactor 41 = .ok (.ifCond .eq 7, 3) := by decide +kernel
theorem dX4_readFactor_44 : decode cX4_readFactor 44 = .ok (.iconst 1, 1) := by decide +kernel
theorem dX4_readFactor_45 : decode cX4_readFactor 45 = .ok (.goto 4, 3) := by decide +kernel
theorem dX4_readFactor_48 : decode cX4_readFactor 48 = .ok (.iconst 0, 1) := by decide +kernel
theorem dX4_readFactor_49 : decode cX4_readFactor 49 = .ok (.ireturn, 1) := by decide +kernel
theorem dX4_readFactor_50 : decode cX4_readFactor 50 = .ok (.aload_n 0, 1) := by decide +kernel
theorem dX4_readFactor_51 : decode cX4_readFactor 51 = .ok (.getfield 56, 3) := by decide +kernel
theorem dX4_readFactor_54 : decode cX4_readFactor 54 = .ok (.iconst 1, 1) := by decide +kernel
theorem dX4_readFactor_55 : decode cX4_readFactor 55 = .ok (.if_icmp .ne 26, 3) := by decide +kernel
theorem dX4_readFactor_58 : decode cX4_readFactor 58 = .ok (.aload_n 0, 1) := by decide +kernel
theorem dX4_readFactor_59 : decode cX4_readFactor 59 = .ok (.iconst 0, 1) := by decide +kernel
theorem dX4_readFactor_60 : decode cX4_readFactor 60 = .ok (.sipush 9999, 3) := by decide +kernel
theorem dX4_readFactor_63 : decode cX4_readFactor 63 = .ok (.invokevirtual 76, 3) := by decide +kernel
theorem dX4_readFactor_66 : decode cX4_readFactor 66 = .ok (.ifCond .ne 5, 3) := by decide +kernel
theorem dX4_readFactor_69 : decode cX4_readFactor 69 = .ok (.iconst 0, 1) := by decide +kernel
theorem dX4_readFactor_70 : decode cX4_readFactor 70 = .ok (.ireturn, 1) := by decide +kernel
theorem dX4_readFactor_71 : decode cX4_readFactor 71 = .ok (.aload_n 0, 1) := by decide +kernel
theorem dX4_readFactor_72 : decode cX4_readFactor 72 = .ok (.aload_n 0, 1) := by decide +kernel
theorem dX4_readFactor_73 : decode cX4_readFactor 73 = .ok (.getfield 80, 3) := by decide +kernel
theorem dX4_readFactor_76 : decode cX4_readFactor 76 = .ok (.invokevirtual 181, 3) := by decide +kernel
theorem dX4_readFactor_79 : decode cX4_readFactor 79 = .ok (.iconst 1, 1) := by decide +kernel
theorem dX4_readFactor_80 : decode cX4_readFactor 80 = .ok (.ireturn, 1) := by decide +kernel
theorem dX4_readFactor_81 : decode cX4_readFactor 81 = .ok (.aload_n 0, 1) := by decide +kernel
theorem dX4_readFactor_82 : decode cX4_readFactor 82 = .ok (.invokevirtual 188, 3) := by decide +kernel
theorem dX4_readFactor_85 : decode cX4_readFactor 85 = .ok (.istore_n 2, 1) := by decide +kernel
theorem dX4_readFactor_86 : decode cX4_readFactor 86 = .ok (.iload_n 2, 1) := by decide +kernel
theorem dX4_readFactor_87 : decode cX4_readFactor 87 = .ok (.ifCond .ne 10, 3) := by decide +kernel
theorem dX4_readFactor_90 : decode cX4_readFactor 90 = .ok (.aload_n 0, 1) := by decide +kernel
theorem dX4_readFactor_91 : decode cX4_readFactor 91 = .ok (.bipush (-2), 2) := by decide +kernel
theorem dX4_readFactor_93 : decode cX4_readFactor 93 = .ok (.invokevirtual 72, 3) := by decide +kernel
theorem dX4_readFactor_96 : decode cX4_readFactor 96 = .ok (.ireturn, 1) := by decide +kernel
theorem dX4_readFactor_97 : decode cX4_readFactor 97 = .ok (.aload_n 0, 1) := by decide +kernel
theorem dX4_readFactor_98 : decode cX4_readFactor 98 = .ok (.iload_n 2, 1) := by decide +kernel
theorem dX4_readFactor_99 : decode cX4_readFactor 99 = .ok (.invokevirtual 181, 3) := by decide +kernel
theorem dX4_readFactor_102 : decode cX4_readFactor 102 = .ok (.aload_n 0, 1) := by decide +kernel
theorem dX4_readFactor_103 : decode cX4_readFactor 103 = .ok (.invokevirtual 49, 3) := by decide +kernel
theorem dX4_readFactor_106 : decode cX4_readFactor 106 = .ok (.iconst 1, 1) := by decide +kernel
theorem dX4_readFactor_107 : decode cX4_readFactor 107 = .ok (.ireturn, 1) := by decide +kernel
theorem dX4_variableHere_0 : decode cX4_variableHere 0 = .ok (.aload_n 0, 1) := by decide +kernel
theorem dX4_variableHere_1 : decode cX4_variableHere 1 = .ok (.ldc 191, 2) := by decide +kernel
theorem dX4_variableHere_3 : decode cX4_variableHere 3 = .ok (.invokevirtual 68, 3) := by decide +kernel
theorem dX4_variableHere_6 : decode cX4_variableHere 6 = .ok (.ifCond .eq 5, 3) := by decide +kernel
theorem dX4_variableHere_9 : decode cX4_variableHere 9 = .ok (.iconst (-1), 1) := by decide +kernel
theorem dX4_variableHere_10 : decode cX4_variableHere 10 = .ok (.ireturn, 1) := by decide +kernel
theorem dX4_variableHere_11 : decode cX4_variableHere 11 = .ok (.aload_n 0, 1) := by decide +kernel
theorem dX4_variableHere_12 : decode cX4_variableHere 12 = .ok (.ldc 193, 2) := by decide +kernel
theorem dX4_variableHere_14 : decode cX4_variableHere 14 = .ok (.invokevirtual 68, 3) := by decide +kernel
theorem dX4_variableHere_17 : decode cX4_variableHere 17 = .ok (.ifCond .eq 6, 3) := by decide +kernel
theorem dX4_variableHere_20 : decode cX4_variableHere 20 = .ok (.bipush (-2), 2) := by decide +kernel
theorem dX4_variableHere_22 : decode cX4_variableHere 22 = .ok (.ireturn, 1) := by decide +kernel
theorem dX4_variableHere_23 : decode cX4_variableHere 23 = .ok (.aload_n 0, 1) := by decide +kernel
theorem dX4_variableHere_24 : decode cX4_variableHere 24 = .ok (.ldc 195, 2) := by decide +kernel
theorem dX4_variableHere_26 : decode cX4_variableHere 26 = .ok (.invokevirtual 68, 3) := by decide +kernel
theorem dX4_variableHere_29 : decode cX4_variableHere 29 = .ok (.ifCond .eq 6, 3) := by decide +kernel
theorem dX4_variableHere_32 : decode cX4_variableHere 32 = .ok (.bipush (-3), 2) := by decide +kernel
theorem dX4_variableHere_34 : decode cX4_variableHere 34 = .ok (.ireturn, 1) := by decide +kernel
theorem dX4_variableHere_35 : decode cX4_variableHere 35 = .ok (.aload_n 0, 1) := by decide +kernel
theorem dX4_variableHere_36 : decode cX4_variableHere 36 = .ok (.ldc 94, 2) := by decide +kernel
theorem dX4_variableHere_38 : decode cX4_variableHere 38 = .ok (.invokevirtual 68, 3) := by decide +kernel
theorem dX4_variableHere_41 : decode cX4_variableHere 41 = .ok (.ifCond .eq 8, 3) := by decide +kernel
theorem dX4_variableHere_44 : decode cX4_variableHere 44 = .ok (.bipush (-4), 2) := by decide +kernel
theorem dX4_variableHere_46 : decode cX4_variableHere 46 = .ok (.goto 4, 3) := by decide +kernel
theorem dX4_variableHere_49 : decode cX4_variableHere 49 = .ok (.iconst 0, 1) := by decide +kernel
theorem dX4_variableHere_50 : decode cX4_variableHere 50 = .ok (.ireturn, 1) := by decide +kernel
theorem dX4_shapeHere_0 : decode cX4_shapeHere 0 = .ok (.aload_n 0, 1) := by decide +kernel
theorem dX4_shapeHere_1 : decode cX4_shapeHere 1 = .ok (.ldc 197, 2) := by decide +kernel
theorem dX4_shapeHere_3 : decode cX4_shapeHere 3 = .ok (.invokevirtual 68, 3) := by decide +kernel
theorem dX4_shapeHere_6 : decode cX4_shapeHere 6 = .ok (.ifCond .eq 5, 3) := by decide +kernel
theorem dX4_shapeHere_9 : decode cX4_shapeHere 9 = .ok (.iconst 0, 1) := by decide +kernel
theorem dX4_shapeHere_10 : decode cX4_shapeHere 10 = .ok (.ireturn, 1) := by decide +kernel
theorem dX4_shapeHere_11 : decode cX4_shapeHere 11 = .ok (.aload_n 0, 1) := by decide +kernel
theorem dX4_shapeHere_12 : decode cX4_shapeHere 12 = .ok (.ldc 199, 2) := by decide +kernel
theorem dX4_shapeHere_14 : decode cX4_shapeHere 14 = .ok (.invokevirtual 68, 3) := by decide +kernel
theorem dX4_shapeHere_17 : decode cX4_shapeHere 17 = .ok (.ifCond .eq 5, 3) := by decide +kernel
theorem dX4_shapeHere_20 : decode cX4_shapeHere 20 = .ok (.iconst 1, 1) := by decide +kernel
theorem dX4_shapeHere_21 : decode cX4_shapeHere 21 = .ok (.ireturn, 1) := by decide +kernel
theorem dX4_shapeHere_22 : decode cX4_shapeHere 22 = .ok (.aload_n 0, 1) := by decide +kernel
theorem dX4_shapeHere_23 : decode cX4_shapeHere 23 = .ok (.ldc 201, 2) := by decide +kernel
theorem dX4_shapeHere_25 : decode cX4_shapeHere 25 = .ok (.invokevirtual 68, 3) := by decide +kernel
theorem dX4_shapeHere_28 : decode cX4_shapeHere 28 = .ok (.ifCond .eq 5, 3) := by decide +kernel
theorem dX4_shapeHere_31 : decode cX4_shapeHere 31 = .ok (.iconst 2, 1) := by decide +kernel
theorem dX4_shapeHere_32 : decode cX4_shapeHere 32 = .ok (.ireturn, 1) := by decide +kernel
theorem dX4_shapeHere_33 : decode cX4_shapeHere 33 = .ok (.aload_n 0, 1) := by decide +kernel
theorem dX4_shapeHere_34 : decode cX4_shapeHere 34 = .ok (.ldc 203, 2) := by decide +kernel
theorem dX4_shapeHere_36 : decode cX4_shapeHere 36 = .ok (.invokevirtual 68, 3) := by decide +kernel
theorem dX4_shapeHere_39 : decode cX4_shapeHere 39 = .ok (.ifCond .eq 7, 3) := by decide +kernel
theorem dX4_shapeHere_42 : decode cX4_shapeHere 42 = .ok (.iconst 3, 1) := by decide +kernel
theorem dX4_shapeHere_43 : decode cX4_shapeHere 43 = .ok (.goto 4, 3) := by decide +kernel
theorem dX4_shapeHere_46 : decode cX4_shapeHere 46 = .ok (.iconst (-1), 1) := by decide +kernel
theorem dX4_shapeHere_47 : decode cX4_shapeHere 47 = .ok (.ireturn, 1) := by decide +kernel
theorem dX4_addItem_0 : decode cX4_addItem 0 = .ok (.aload_n 0, 1) := by decide +kernel
theorem dX4_addItem_1 : decode cX4_addItem 1 = .ok (.getfield 143, 3) := by decide +kernel
theorem dX4_addItem_4 : decode cX4_addItem 4 = .ok (.aload_n 0, 1) := by decide +kernel
theorem dX4_addItem_5 : decode cX4_addItem 5 = .ok (.getfield 9, 3) := by decide +kernel
theorem dX4_addItem_8 : decode cX4_addItem 8 = .ok (.arraylength, 1) := by decide +kernel
theorem dX4_addItem_9 : decode cX4_addItem 9 = .ok (.if_icmp .ge 23, 3) := by decide +kernel
theorem dX4_addItem_12 : decode cX4_addItem 12 = .ok (.aload_n 0, 1) := by decide +kernel
theorem dX4_addItem_13 : decode cX4_addItem 13 = .ok (.getfield 9, 3) := by decide +kernel
theorem dX4_addItem_16 : decode cX4_addItem 16 = .ok (.aload_n 0, 1) := by decide +kernel
theorem dX4_addItem_17 : decode cX4_addItem 17 = .ok (.getfield 143, 3) := by decide +kernel
theorem dX4_addItem_20 : decode cX4_addItem 20 = .ok (.iload_n 1, 1) := by decide +kernel
theorem dX4_addItem_21 : decode cX4_addItem 21 = .ok (.iastore, 1) := by decide +kernel
theorem dX4_addItem_22 : decode cX4_addItem 22 = .ok (.aload_n 0, 1) := by decide +kernel
theorem dX4_addItem_23 : decode cX4_addItem 23 = .ok (.dup, 1) := by decide +kernel
theorem dX4_addItem_24 : decode cX4_addItem 24 = .ok (.getfield 143, 3) := by decide +kernel
theorem dX4_addItem_27 : decode cX4_addItem 27 = .ok (.iconst 1, 1) := by decide +kernel
theorem dX4_addItem_28 : decode cX4_addItem 28 = .ok (.iadd, 1) := by decide +kernel
theorem dX4_addItem_29 : decode cX4_addItem 29 = .ok (.putfield 143, 3) := by decide +kernel
theorem dX4_addItem_32 : decode cX4_addItem 32 = .ok (.return_, 1) := by decide +kernel
theorem dX4_takeNumber_0 : decode cX4_takeNumber 0 = .ok (.aload_n 0, 1) := by decide +kernel
theorem dX4_takeNumber_1 : decode cX4_takeNumber 1 = .ok (.getfield 56, 3) := by decide +kernel
theorem dX4_takeNumber_4 : decode cX4_takeNumber 4 = .ok (.iconst 1, 1) := by decide +kernel
theorem dX4_takeNumber_5 : decode cX4_takeNumber 5 = .ok (.if_icmp .eq 10, 3) := by decide +kernel
theorem dX4_takeNumber_8 : decode cX4_takeNumber 8 = .ok (.aload_n 0, 1) := by decide +kernel
theorem dX4_takeNumber_9 : decode cX4_takeNumber 9 = .ok (.bipush (-2), 2) := by decide +kernel
theorem dX4_takeNumber_11 : decode cX4_takeNumber 11 = .ok (.invokevirtual 72, 3) := by decide +kernel
theorem dX4_takeNumber_14 : decode cX4_takeNumber 14 = .ok (.ireturn, 1) := by decide +kernel
theorem dX4_takeNumber_15 : decode cX4_takeNumber 15 = .ok (.iconst 0, 1) := by decide +kernel
theorem dX4_takeNumber_16 : decode cX4_takeNumber 16 = .ok (.istore_n 3, 1) := by decide +kernel
theorem dX4_takeNumber_17 : decode cX4_takeNumber 17 = .ok (.aload_n 0, 1) := by decide +kernel
theorem dX4_takeNumber_18 : decode cX4_takeNumber 18 = .ok (.getfield 112, 3) := by decide +kernel
theorem dX4_takeNumber_21 : decode cX4_takeNumber 21 = .ok (.istore 4, 2) := by decide +kernel
theorem dX4_takeNumber_23 : decode cX4_takeNumber 23 = .ok (.iload 4, 2) := by decide +kernel
theorem dX4_takeNumber_25 : decode cX4_takeNumber 25 = .ok (.aload_n 0, 1) := by decide +kernel
theorem dX4_takeNumber_26 : decode cX4_takeNumber 26 = .ok (.getfield 46, 3) := by decide +kernel
theorem dX4_takeNumber_29 : decode cX4_takeNumber 29 = .ok (.if_icmp .ge 30, 3) := by decide +kernel
theorem dX4_takeNumber_32 : decode cX4_takeNumber 32 = .ok (.iload_n 3, 1) := by decide +kernel
theorem dX4_takeNumber_33 : decode cX4_takeNumber 33 = .ok (.bipush 10, 2) := by decide +kernel
theorem dX4_takeNumber_35 : decode cX4_takeNumber 35 = .ok (.imul, 1) := by decide +kernel
theorem dX4_takeNumber_36 : decode cX4_takeNumber 36 = .ok (.aload_n 0, 1) := by decide +kernel
theorem dX4_takeNumber_37 : decode cX4_takeNumber 37 = .ok (.getfield 15, 3) := by decide +kernel
theorem dX4_takeNumber_40 : decode cX4_takeNumber 40 = .ok (.iload 4, 2) := by decide +kernel
theorem dX4_takeNumber_42 : decode cX4_takeNumber 42 = .ok (.baload, 1) := by decide +kernel
theorem dX4_takeNumber_43 : decode cX4_takeNumber 43 = .ok (.iadd, 1) := by decide +kernel
theorem dX4_takeNumber_44 : decode cX4_takeNumber 44 = .ok (.bipush 48, 2) := by decide +kernel
theorem dX4_takeNumber_46 : decode cX4_takeNumber 46 = .ok (.isub, 1) := by decide +kernel
theorem dX4_takeNumber_47 : decode cX4_takeNumber 47 = .ok (.ldc 205, 2) := by decide +kernel
theorem dX4_takeNumber_49 : decode cX4_takeNumber 49 = .ok (.invokestatic 19, 3) := by decide +kernel
theorem dX4_takeNumber_52 : decode cX4_takeNumber 52 = .ok (.istore_n 3, 1) := by decide +kernel
theorem dX4_takeNumber_53 : decode cX4_takeNumber 53 = .ok (.iinc 4 1, 3) := by decide +kernel
theorem dX4_takeNumber_56 : decode cX4_takeNumber 56 = .ok (.goto (-33), 3) := by decide +kernel
theorem dX4_takeNumber_59 : decode cX4_takeNumber 59 = .ok (.iload_n 3, 1) := by decide +kernel
theorem dX4_takeNumber_60 : decode cX4_takeNumber 60 = .ok (.iload_n 1, 1) := by decide +kernel
theorem dX4_takeNumber_61 : decode cX4_takeNumber 61 = .ok (.if_icmp .lt 8, 3) := by decide +kernel
theorem dX4_takeNumber_64 : decode cX4_takeNumber 64 = .ok (.iload_n 3, 1) := by decide +kernel
theorem dX4_takeNumber_65 : decode cX4_takeNumber 65 = .ok (.iload_n 2, 1) := by decide +kernel
theorem dX4_takeNumber_66 : decode cX4_takeNumber 66 = .ok (.if_icmp .le 10, 3) := by decide +kernel
theorem dX4_takeNumber_69 : decode cX4_takeNumber 69 = .ok (.aload_n 0, 1) := by decide +kernel
theorem dX4_takeNumber_70 : decode cX4_takeNumber 70 = .ok (.bipush (-3), 2) := by decide +kernel
theorem dX4_takeNumber_72 : decode cX4_takeNumber 72 = .ok (.invokevirtual 72, 3) := by decide +kernel
theorem dX4_takeNumber_75 : decode cX4_takeNumber 75 = .ok (.ireturn, 1) := by decide +kernel
theorem dX4_takeNumber_76 : decode cX4_takeNumber 76 = .ok (.aload_n 0, 1) := by decide +kernel
theorem dX4_takeNumber_77 : decode cX4_takeNumber 77 = .ok (.iload_n 3, 1) := by decide +kernel
theorem dX4_takeNumber_78 : decode cX4_takeNumber 78 = .ok (.putfield 80, 3) := by decide +kernel
theorem dX4_takeNumber_81 : decode cX4_takeNumber 81 = .ok (.aload_n 0, 1) := by decide +kernel
theorem dX4_takeNumber_82 : decode cX4_takeNumber 82 = .ok (.invokevirtual 49, 3) := by decide +kernel
theorem dX4_takeNumber_85 : decode cX4_takeNumber 85 = .ok (.iconst 1, 1) := by decide +kernel
theorem dX4_takeNumber_86 : decode cX4_takeNumber 86 = .ok (.ireturn, 1) := by decide +kernel
theorem dX4_takeSign_0 : decode cX4_takeSign 0 = .ok (.aload_n 0, 1) := by decide +kernel
theorem dX4_takeSign_1 : decode cX4_takeSign 1 = .ok (.iload_n 1, 1) := by decide +kernel
theorem dX4_takeSign_2 : decode cX4_takeSign 2 = .ok (.invokevirtual 178, 3) := by decide +kernel
theorem dX4_takeSign_5 : decode cX4_takeSign 5 = .ok (.ifCond .ne 10, 3) := by decide +kernel
theorem dX4_takeSign_8 : decode cX4_takeSign 8 = .ok (.aload_n 0, 1) := by decide +kernel
theorem dX4_takeSign_9 : decode cX4_takeSign 9 = .ok (.bipush (-2), 2) := by decide +kernel
theorem dX4_takeSign_11 : decode cX4_takeSign 11 = .ok (.invokevirtual 72, 3) := by decide +kernel
theorem dX4_takeSign_14 : decode cX4_takeSign 14 = .ok (.ireturn, 1) := by decide +kernel
theorem dX4_takeSign_15 : decode cX4_takeSign 15 = .ok (.aload_n 0, 1) := by decide +kernel
theorem dX4_takeSign_16 : decode cX4_takeSign 16 = .ok (.invokevirtual 49, 3) := by decide +kernel
theorem dX4_takeSign_19 : decode cX4_takeSign 19 = .ok (.iconst 1, 1) := by decide +kernel
theorem dX4_takeSign_20 : decode cX4_takeSign 20 = .ok (.ireturn, 1) := by decide +kernel
theorem dX4_isName_0 : decode cX4_isName 0 = .ok (.aload_n 0, 1) := by decide +kernel
theorem dX4_isName_1 : decode cX4_isName 1 = .ok (.getfield 56, 3) := by decide +kernel
theorem dX4_isName_4 : decode cX4_isName 4 = .ok (.iconst 2, 1) := by decide +kernel
theorem dX4_isName_5 : decode cX4_isName 5 = .ok (.if_icmp .eq 10, 3) := by decide +kernel
theorem dX4_isName_8 : decode cX4_isName 8 = .ok (.aload_n 0, 1) := by decide +kernel
theorem dX4_isName_9 : decode cX4_isName 9 = .ok (.bipush (-2), 2) := by decide +kernel
theorem dX4_isName_11 : decode cX4_isName 11 = .ok (.invokevirtual 72, 3) := by decide +kernel
theorem dX4_isName_14 : decode cX4_isName 14 = .ok (.ireturn, 1) := by decide +kernel
theorem dX4_isName_15 : decode cX4_isName 15 = .ok (.aload_n 0, 1) := by decide +kernel
theorem dX4_isName_16 : decode cX4_isName 16 = .ok (.getfield 46, 3) := by decide +kernel
theorem dX4_isName_19 : decode cX4_isName 19 = .ok (.aload_n 0, 1) := by decide +kernel
theorem dX4_isName_20 : decode cX4_isName 20 = .ok (.getfield 112, 3) := by decide +kernel
theorem dX4_isName_23 : decode cX4_isName 23 = .ok (.isub, 1) := by decide +kernel
theorem dX4_isName_24 : decode cX4_isName 24 = .ok (.bipush 6, 2) := by decide +kernel
theorem dX4_isName_26 : decode cX4_isName 26 = .ok (.if_icmp .le 12, 3) := by decide +kernel
theorem dX4_isName_29 : decode cX4_isName 29 = .ok (.aload_n 0, 1) := by decide +kernel
theorem dX4_isName_30 : decode cX4_isName 30 = .ok (.bipush (-3), 2) := by decide +kernel
theorem dX4_isName_32 : decode cX4_isName 32 = .ok (.invokevirtual 72, 3) := by decide +kernel
theorem dX4_isName_35 : decode cX4_isName 35 = .ok (.ifCond .eq 7, 3) := by decide +kernel
theorem dX4_isName_38 : decode cX4_isName 38 = .ok (.iconst 1, 1) := by decide +kernel
theorem dX4_isName_39 : decode cX4_isName 39 = .ok (.goto 4, 3) := by decide +kernel
theorem dX4_isName_42 : decode cX4_isName 42 = .ok (.iconst 0, 1) := by decide +kernel
theorem dX4_isName_43 : decode cX4_isName 43 = .ok (.ireturn, 1) := by decide +kernel
theorem dX4_isSign_0 : decode cX4_isSign 0 = .ok (.aload_n 0, 1) := by decide +kernel
theorem dX4_isSign_1 : decode cX4_isSign 1 = .ok (.getfield 56, 3) := by decide +kernel
theorem dX4_isSign_4 : decode cX4_isSign 4 = .ok (.iconst 3, 1) := by decide +kernel
theorem dX4_isSign_5 : decode cX4_isSign 5 = .ok (.if_icmp .ne 20, 3) := by decide +kernel
theorem dX4_isSign_8 : decode cX4_isSign 8 = .ok (.aload_n 0, 1) := by decide +kernel
theorem dX4_isSign_9 : decode cX4_isSign 9 = .ok (.getfield 15, 3) := by decide +kernel
theorem dX4_isSign_12 : decode cX4_isSign 12 = .ok (.aload_n 0, 1) := by decide +kernel
theorem dX4_isSign_13 : decode cX4_isSign 13 = .ok (.getfield 112, 3) := by decide +kernel
theorem dX4_isSign_16 : decode cX4_isSign 16 = .ok (.baload, 1) := by decide +kernel
theorem dX4_isSign_17 : decode cX4_isSign 17 = .ok (.iload_n 1, 1) := by decide +kernel
theorem dX4_isSign_18 : decode cX4_isSign 18 = .ok (.if_icmp .ne 7, 3) := by decide +kernel
theorem dX4_isSign_21 : decode cX4_isSign 21 = .ok (.iconst 1, 1) := by decide +kernel
theorem dX4_isSign_22 : decode cX4_isSign 22 = .ok (.goto 4, 3) := by decide +kernel
theorem dX4_isSign_25 : decode cX4_isSign 25 = .ok (.iconst 0, 1) := by decide +kernel
theorem dX4_isSign_26 : decode cX4_isSign 26 = .ok (.ireturn, 1) := by decide +kernel
theorem dX4_isWord_0 : decode cX4_isWord 0 = .ok (.aload_n 0, 1) := by decide +kernel
theorem dX4_isWord_1 : decode cX4_isWord 1 = .ok (.getfield 56, 3) := by decide +kernel
theorem dX4_isWord_4 : decode cX4_isWord 4 = .ok (.iconst 2, 1) := by decide +kernel
theorem dX4_isWord_5 : decode cX4_isWord 5 = .ok (.if_icmp .ne 19, 3) := by decide +kernel
theorem dX4_isWord_8 : decode cX4_isWord 8 = .ok (.aload_n 0, 1) := by decide +kernel
theorem dX4_isWord_9 : decode cX4_isWord 9 = .ok (.getfield 46, 3) := by decide +kernel
theorem dX4_isWord_12 : decode cX4_isWord 12 = .ok (.aload_n 0, 1) := by decide +kernel
theorem dX4_isWord_13 : decode cX4_isWord 13 = .ok (.getfield 112, 3) := by decide +kernel
theorem dX4_isWord_16 : decode cX4_isWord 16 = .ok (.isub, 1) := by decide +kernel
theorem dX4_isWord_17 : decode cX4_isWord 17 = .ok (.aload_n 1, 1) := by decide +kernel
theorem dX4_isWord_18 : decode cX4_isWord 18 = .ok (.invokevirtual 206, 3) := by decide +kernel
theorem dX4_isWord_21 : decode cX4_isWord 21 = .ok (.if_icmp .eq 5, 3) := by decide +kernel
theorem dX4_isWord_24 : decode cX4_isWord 24 = .ok (.iconst 0, 1) := by decide +kernel
theorem dX4_isWord_25 : decode cX4_isWord 25 = .ok (.ireturn, 1) := by decide +kernel
theorem dX4_isWord_26 : decode cX4_isWord 26 = .ok (.iconst 0, 1) := by decide +kernel
theorem dX4_isWord_27 : decode cX4_isWord 27 = .ok (.istore_n 2, 1) := by decide +kernel
theorem dX4_isWord_28 : decode cX4_isWord 28 = .ok (.iload_n 2, 1) := by decide +kernel
theorem dX4_isWord_29 : decode cX4_isWord 29 = .ok (.aload_n 1, 1) := by decide +kernel
theorem dX4_isWord_30 : decode cX4_isWord 30 = .ok (.invokevirtual 206, 3) := by decide +kernel
theorem dX4_isWord_33 : decode cX4_isWord 33 = .ok (.if_icmp .ge 30, 3) := by decide +kernel
theorem dX4_isWord_36 : decode cX4_isWord 36 = .ok (.aload_n 0, 1) := by decide +kernel
theorem dX4_isWord_37 : decode cX4_isWord 37 = .ok (.getfield 15, 3) := by decide +kernel
theorem dX4_isWord_40 : decode cX4_isWord 40 = .ok (.aload_n 0, 1) := by decide +kernel
theorem dX4_isWord_41 : decode cX4_isWord 41 = .ok (.getfield 112, 3) := by decide +kernel
theorem dX4_isWord_44 : decode cX4_isWord 44 = .ok (.iload_n 2, 1) := by decide +kernel
theorem dX4_isWord_45 : decode cX4_isWord 45 = .ok (.iadd, 1) := by decide +kernel
theorem dX4_isWord_46 : decode cX4_isWord 46 = .ok (.baload, 1) := by decide +kernel
theorem dX4_isWord_47 : decode cX4_isWord 47 = .ok (.aload_n 1, 1) := by decide +kernel
theorem dX4_isWord_48 : decode cX4_isWord 48 = .ok (.iload_n 2, 1) := by decide +kernel
theorem dX4_isWord_49 : decode cX4_isWord 49 = .ok (.invokevirtual 210, 3) := by decide +kernel
theorem dX4_isWord_52 : decode cX4_isWord 52 = .ok (.if_icmp .eq 5, 3) := by decide +kernel
theorem dX4_isWord_55 : decode cX4_isWord 55 = .ok (.iconst 0, 1) := by decide +kernel
theorem dX4_isWord_56 : decode cX4_isWord 56 = .ok (.ireturn, 1) := by decide +kernel
theorem dX4_isWord_57 : decode cX4_isWord 57 = .ok (.iinc 2 1, 3) := by decide +kernel
theorem dX4_isWord_60 : decode cX4_isWord 60 = .ok (.goto (-32), 3) := by decide +kernel
theorem dX4_isWord_63 : decode cX4_isWord 63 = .ok (.iconst 1, 1) := by decide +kernel
theorem dX4_isWord_64 : decode cX4_isWord 64 = .ok (.ireturn, 1) := by decide +kernel
theorem dX4_fail_0 : decode cX4_fail 0 = .ok (.aload_n 0, 1) := by decide +kernel
theorem dX4_fail_1 : decode cX4_fail 1 = .ok (.iload_n 1, 1) := by decide +kernel
theorem dX4_fail_2 : decode cX4_fail 2 = .ok (.putfield 33, 3) := by decide +kernel
theorem dX4_fail_5 : decode cX4_fail 5 = .ok (.aload_n 0, 1) := by decide +kernel
theorem dX4_fail_6 : decode cX4_fail 6 = .ok (.aload_n 0, 1) := by decide +kernel
theorem dX4_fail_7 : decode cX4_fail 7 = .ok (.getfield 112, 3) := by decide +kernel
theorem dX4_fail_10 : decode cX4_fail 10 = .ok (.putfield 36, 3) := by decide +kernel
theorem dX4_fail_13 : decode cX4_fail 13 = .ok (.iconst 0, 1) := by decide +kernel
theorem dX4_fail_14 : decode cX4_fail 14 = .ok (.ireturn, 1) := by decide +kernel
theorem dX4_advance_0 : decode cX4_advance 0 = .ok (.aload_n 0, 1) := by decide +kernel
theorem dX4_advance_1 : decode cX4_advance 1 = .ok (.aload_n 0, 1) := by decide +kernel
theorem dX4_advance_2 : decode cX4_advance 2 = .ok (.getfield 46, 3) := by decide +kernel
theorem dX4_advance_5 : decode cX4_advance 5 = .ok (.putfield 112, 3) := by decide +kernel
theorem dX4_advance_8 : decode cX4_advance 8 = .ok (.aload_n 0, 1) := by decide +kernel
theorem dX4_advance_9 : decode cX4_advance 9 = .ok (.getfield 112, 3) := by decide +kernel
theorem dX4_advance_12 : decode cX4_advance 12 = .ok (.aload_n 0, 1) := by decide +kernel
theorem dX4_advance_13 : decode cX4_advance 13 = .ok (.getfield 25, 3) := by decide +kernel
theorem dX4_advance_16 : decode cX4_advance 16 = .ok (.if_icmp .ge 30, 3) := by decide +kernel
theorem dX4_advance_19 : decode cX4_advance 19 = .ok (.aload_n 0, 1) := by decide +kernel
theorem dX4_advance_20 : decode cX4_advance 20 = .ok (.getfield 15, 3) := by decide +kernel
theorem dX4_advance_23 : decode cX4_advance 23 = .ok (.aload_n 0, 1) := by decide +kernel
theorem dX4_advance_24 : decode cX4_advance 24 = .ok (.getfield 112, 3) := by decide +kernel
theorem dX4_advance_27 : decode cX4_advance 27 = .ok (.baload, 1) := by decide +kernel
theorem dX4_advance_28 : decode cX4_advance 28 = .ok (.bipush 32, 2) := by decide +kernel
theorem dX4_advance_30 : decode cX4_advance 30 = .ok (.if_icmp .ne 16, 3) := by decide +kernel
theorem dX4_advance_33 : decode cX4_advance 33 = .ok (.aload_n 0, 1) := by decide +kernel
theorem dX4_advance_34 : decode cX4_advance 34 = .ok (.dup, 1) := by decide +kernel
theorem dX4_advance_35 : decode cX4_advance 35 = .ok (.getfield 112, 3) := by decide +kernel
theorem dX4_advance_38 : decode cX4_advance 38 = .ok (.iconst 1, 1) := by decide +kernel
theorem dX4_advance_39 : decode cX4_advance 39 = .ok (.iadd, 1) := by decide +kernel
theorem dX4_advance_40 : decode cX4_advance 40 = .ok (.putfield 112, 3) := by decide +kernel
theorem dX4_advance_43 : decode cX4_advance 43 = .ok (.goto (-35), 3) := by decide +kernel
theorem dX4_advance_46 : decode cX4_advance 46 = .ok (.aload_n 0, 1) := by decide +kernel
theorem dX4_advance_47 : decode cX4_advance 47 = .ok (.getfield 112, 3) := by decide +kernel
theorem dX4_advance_50 : decode cX4_advance 50 = .ok (.aload_n 0, 1) := by decide +kernel
theorem dX4_advance_51 : decode cX4_advance 51 = .ok (.getfield 25, 3) := by decide +kernel
theorem dX4_advance_54 : decode cX4_advance 54 = .ok (.if_icmp .lt 17, 3) := by decide +kernel
theorem dX4_advance_57 : decode cX4_advance 57 = .ok (.aload_n 0, 1) := by decide +kernel
theorem dX4_advance_58 : decode cX4_advance 58 = .ok (.iconst 0, 1) := by decide +kernel
theorem dX4_advance_59 : decode cX4_advance 59 = .ok (.putfield 56, 3) := by decide +kernel
theorem dX4_advance_62 : decode cX4_advance 62 = .ok (.aload_n 0, 1) := by decide +kernel
theorem dX4_advance_63 : decode cX4_advance 63 = .ok (.aload_n 0, 1) := by decide +kernel
theorem dX4_advance_64 : decode cX4_advance 64 = .ok (.getfield 112, 3) := by decide +kernel
theorem dX4_advance_67 : decode cX4_advance 67 = .ok (.putfield 46, 3) := by decide +kernel
theorem dX4_advance_70 : decode cX4_advance 70 = .ok (.return_, 1) := by decide +kernel
theorem dX4_advance_71 : decode cX4_advance 71 = .ok (.aload_n 0, 1) := by decide +kernel
theorem dX4_advance_72 : decode cX4_advance 72 = .ok (.iconst 3, 1) := by decide +kernel
theorem dX4_advance_73 : decode cX4_advance 73 = .ok (.putfield 56, 3) := by decide +kernel
theorem dX4_advance_76 : decode cX4_advance 76 = .ok (.aload_n 0, 1) := by decide +kernel
theorem dX4_advance_77 : decode cX4_advance 77 = .ok (.aload_n 0, 1) := by decide +kernel
theorem dX4_advance_78 : decode cX4_advance 78 = .ok (.getfield 112, 3) := by decide +kernel
theorem dX4_advance_81 : decode cX4_advance 81 = .ok (.iconst 1, 1) := by decide +kernel
theorem dX4_advance_82 : decode cX4_advance 82 = .ok (.iadd, 1) := by decide +kernel
theorem dX4_advance_83 : decode cX4_advance 83 = .ok (.putfield 46, 3) := by decide +kernel
theorem dX4_advance_86 : decode cX4_advance 86 = .ok (.aload_n 0, 1) := by decide +kernel
theorem dX4_advance_87 : decode cX4_advance 87 = .ok (.bipush 97, 2) := by decide +kernel
theorem dX4_advance_89 : decode cX4_advance 89 = .ok (.bipush 122, 2) := by decide +kernel
theorem dX4_advance_91 : decode cX4_advance 91 = .ok (.iconst 2, 1) := by decide +kernel
theorem dX4_advance_92 : decode cX4_advance 92 = .ok (.invokevirtual 214, 3) := by decide +kernel
theorem dX4_advance_95 : decode cX4_advance 95 = .ok (.aload_n 0, 1) := by decide +kernel
theorem dX4_advance_96 : decode cX4_advance 96 = .ok (.bipush 48, 2) := by decide +kernel
theorem dX4_advance_98 : decode cX4_advance 98 = .ok (.bipush 57, 2) := by decide +kernel
theorem dX4_advance_100 : decode cX4_advance 100 = .ok (.iconst 1, 1) := by decide +kernel
theorem dX4_advance_101 : decode cX4_advance 101 = .ok (.invokevirtual 214, 3) := by decide +kernel
theorem dX4_advance_104 : decode cX4_advance 104 = .ok (.return_, 1) := by decide +kernel
theorem dX4_takeRun_0 : decode cX4_takeRun 0 = .ok (.aload_n 0, 1) := by decide +kernel
theorem dX4_takeRun_1 : decode cX4_takeRun 1 = .ok (.getfield 15, 3) := by decide +kernel
theorem dX4_takeRun_4 : decode cX4_takeRun 4 = .ok (.aload_n 0, 1) := by decide +kernel
theorem dX4_takeRun_5 : decode cX4_takeRun 5 = .ok (.getfield 112, 3) := by decide +kernel
theorem dX4_takeRun_8 : decode cX4_takeRun 8 = .ok (.baload, 1) := by decide +kernel
theorem dX4_takeRun_9 : decode cX4_takeRun 9 = .ok (.iload_n 1, 1) := by decide +kernel
theorem dX4_takeRun_10 : decode cX4_takeRun 10 = .ok (.if_icmp .lt 16, 3) := by decide +kernel
theorem dX4_takeRun_13 : decode cX4_takeRun 13 = .ok (.aload_n 0, 1) := by decide +kernel
theorem dX4_takeRun_14 : decode cX4_takeRun 14 = .ok (.getfield 15, 3) := by decide +kernel
theorem dX4_takeRun_17 : decode cX4_takeRun 17 = .ok (.aload_n 0, 1) := by decide +kernel
theorem dX4_takeRun_18 : decode cX4_takeRun 18 = .ok (.getfield 112, 3) := by decide +kernel
theorem dX4_takeRun_21 : decode cX4_takeRun 21 = .ok (.baload, 1) := by decide +kernel
theorem dX4_takeRun_22 : decode cX4_takeRun 22 = .ok (.iload_n 2, 1) := by decide +kernel
theorem dX4_takeRun_23 : decode cX4_takeRun 23 = .ok (.if_icmp .le 4, 3) := by decide +kernel
theorem dX4_takeRun_26 : decode cX4_takeRun 26 = .ok (.return_, 1) := by decide +kernel
theorem dX4_takeRun_27 : decode cX4_takeRun 27 = .ok (.aload_n 0, 1) := by decide +kernel
theorem dX4_takeRun_28 : decode cX4_takeRun 28 = .ok (.iload_n 3, 1) := by decide +kernel
theorem dX4_takeRun_29 : decode cX4_takeRun 29 = .ok (.putfield 56, 3) := by decide +kernel
theorem dX4_takeRun_32 : decode cX4_takeRun 32 = .ok (.aload_n 0, 1) := by decide +kernel
theorem dX4_takeRun_33 : decode cX4_takeRun 33 = .ok (.getfield 46, 3) := by decide +kernel
theorem dX4_takeRun_36 : decode cX4_takeRun 36 = .ok (.aload_n 0, 1) := by decide +kernel
theorem dX4_takeRun_37 : decode cX4_takeRun 37 = .ok (.getfield 25, 3) := by decide +kernel
theorem dX4_takeRun_40 : decode cX4_takeRun 40 = .ok (.if_icmp .ge 42, 3) := by decide +kernel
theorem dX4_takeRun_43 : decode cX4_takeRun 43 = .ok (.aload_n 0, 1) := by decide +kernel
theorem dX4_takeRun_44 : decode cX4_takeRun 44 = .ok (.getfield 15, 3) := by decide +kernel
theorem dX4_takeRun_47 : decode cX4_takeRun 47 = .ok (.aload_n 0, 1) := by decide +kernel
theorem dX4_takeRun_48 : decode cX4_takeRun 48 = .ok (.getfield 46, 3) := by decide +kernel
theorem dX4_takeRun_51 : decode cX4_takeRun 51 = .ok (.baload, 1) := by decide +kernel
theorem dX4_takeRun_52 : decode cX4_takeRun 52 = .ok (.iload_n 1, 1) := by decide +kernel
theorem dX4_takeRun_53 : decode cX4_takeRun 53 = .ok (.if_icmp .lt 29, 3) := by decide +kernel
theorem dX4_takeRun_56 : decode cX4_takeRun 56 = .ok (.aload_n 0, 1) := by decide +kernel
theorem dX4_takeRun_57 : decode cX4_takeRun 57 = .ok (.getfield 15, 3) := by decide +kernel
theorem dX4_takeRun_60 : decode cX4_takeRun 60 = .ok (.aload_n 0, 1) := by decide +kernel
theorem dX4_takeRun_61 : decode cX4_takeRun 61 = .ok (.getfield 46, 3) := by decide +kernel
theorem dX4_takeRun_64 : decode cX4_takeRun 64 = .ok (.baload, 1) := by decide +kernel
theorem dX4_takeRun_65 : decode cX4_takeRun 65 = .ok (.iload_n 2, 1) := by decide +kernel
theorem dX4_takeRun_66 : decode cX4_takeRun 66 = .ok (.if_icmp .gt 16, 3) := by decide +kernel
theorem dX4_takeRun_69 : decode cX4_takeRun 69 = .ok (.aload_n 0, 1) := by decide +kernel
theorem dX4_takeRun_70 : decode cX4_takeRun 70 = .ok (.dup, 1) := by decide +kernel
theorem dX4_takeRun_71 : decode cX4_takeRun 71 = .ok (.getfield 46, 3) := by decide +kernel
theorem dX4_takeRun_74 : decode cX4_takeRun 74 = .ok (.iconst 1, 1) := by decide +kernel
theorem dX4_takeRun_75 : decode cX4_takeRun 75 = .ok (.iadd, 1) := by decide +kernel
theorem dX4_takeRun_76 : decode cX4_takeRun 76 = .ok (.putfield 46, 3) := by decide +kernel
theorem dX4_takeRun_79 : decode cX4_takeRun 79 = .ok (.goto (-47), 3) := by decide +kernel
theorem dX4_takeRun_82 : decode cX4_takeRun 82 = .ok (.return_, 1) := by decide +kernel
theorem dX5_init_0 : decode cX5_init 0 = .ok (.aload_n 0, 1) := by decide +kernel
theorem dX5_init_1 : decode cX5_init 1 = .ok (.invokespecial 3, 3) := by decide +kernel
theorem dX5_init_4 : decode cX5_init 4 = .ok (.aload_n 0, 1) := by decide +kernel
theorem dX5_init_5 : decode cX5_init 5 = .ok (.bipush 8, 2) := by decide +kernel
theorem dX5_init_7 : decode cX5_init 7 = .ok (.putfield 9, 3) := by decide +kernel
theorem dX5_init_10 : decode cX5_init 10 = .ok (.aload_n 0, 1) := by decide +kernel
theorem dX5_init_11 : decode cX5_init 11 = .ok (.bipush 8, 2) := by decide +kernel
theorem dX5_init_13 : decode cX5_init 13 = .ok (.putfield 15, 3) := by decide +kernel
theorem dX5_init_16 : decode cX5_init 16 = .ok (.aload_n 0, 1) := by decide +kernel
theorem dX5_init_17 : decode cX5_init 17 = .ok (.iconst 4, 1) := by decide +kernel
theorem dX5_init_18 : decode cX5_init 18 = .ok (.putfield 18, 3) := by decide +kernel
theorem dX5_init_21 : decode cX5_init 21 = .ok (.aload_n 0, 1) := by decide +kernel
theorem dX5_init_22 : decode cX5_init 22 = .ok (.iconst 0, 1) := by decide +kernel
theorem dX5_init_23 : decode cX5_init 23 = .ok (.putfield 21, 3) := by decide +kernel
theorem dX5_init_26 : decode cX5_init 26 = .ok (.aload_n 0, 1) := by decide +kernel
theorem dX5_init_27 : decode cX5_init 27 = .ok (.iconst 4, 1) := by decide +kernel
theorem dX5_init_28 : decode cX5_init 28 = .ok (.anewarray 24, 3) := by decide +kernel
theorem dX5_init_31 : decode cX5_init 31 = .ok (.putfield 26, 3) := by decide +kernel
theorem dX5_init_34 : decode cX5_init 34 = .ok (.aload_n 0, 1) := by decide +kernel
theorem dX5_init_35 : decode cX5_init 35 = .ok (.sipush 192, 3) := by decide +kernel
theorem dX5_init_38 : decode cX5_init 38 = .ok (.newarray .int, 2) := by decide +kernel
theorem dX5_init_40 : decode cX5_init 40 = .ok (.putfield 30, 3) := by decide +kernel
theorem dX5_init_43 : decode cX5_init 43 = .ok (.aload_n 0, 1) := by decide +kernel
theorem dX5_init_44 : decode cX5_init 44 = .ok (.sipush 192, 3) := by decide +kernel
theorem dX5_init_47 : decode cX5_init 47 = .ok (.newarray .int, 2) := by decide +kernel
theorem dX5_init_49 : decode cX5_init 49 = .ok (.putfield 34, 3) := by decide +kernel
theorem dX5_init_52 : decode cX5_init 52 = .ok (.iconst 0, 1) := by decide +kernel
theorem dX5_init_53 : decode cX5_init 53 = .ok (.istore_n 1, 1) := by decide +kernel
theorem dX5_init_54 : decode cX5_init 54 = .ok (.iload_n 1, 1) := by decide +kernel
theorem dX5_init_55 : decode cX5_init 55 = .ok (.iconst 4, 1) := by decide +kernel
theorem dX5_init_56 : decode cX5_init 56 = .ok (.if_icmp .ge 22, 3) := by decide +kernel
theorem dX5_init_59 : decode cX5_init 59 = .ok (.aload_n 0, 1) := by decide +kernel
theorem dX5_init_60 : decode cX5_init 60 = .ok (.getfield 26, 3) := by decide +kernel
theorem dX5_init_63 : decode cX5_init 63 = .ok (.iload_n 1, 1) := by decide +kernel
theorem dX5_init_64 : decode cX5_init 64 = .ok (.new 24, 3) := by decide +kernel
theorem dX5_init_67 : decode cX5_init 67 = .ok (.dup, 1) := by decide +kernel
theorem dX5_init_68 : decode cX5_init 68 = .ok (.invokespecial 37, 3) := by decide +kernel
theorem dX5_init_71 : decode cX5_init 71 = .ok (.aastore, 1) := by decide +kernel
theorem dX5_init_72 : decode cX5_init 72 = .ok (.iinc 1 1, 3) := by decide +kernel
theorem dX5_init_75 : decode cX5_init 75 = .ok (.goto (-21), 3) := by decide +kernel
theorem dX5_init_78 : decode cX5_init 78 = .ok (.return_, 1) := by decide +kernel
theorem dX5_empty_0 : decode cX5_empty 0 = .ok (.aload_n 0, 1) := by decide +kernel
theorem dX5_empty_1 : decode cX5_empty 1 = .ok (.iload_n 1, 1) := by decide +kernel
theorem dX5_empty_2 : decode cX5_empty 2 = .ok (.putfield 9, 3) := by decide +kernel
theorem dX5_empty_5 : decode cX5_empty 5 = .ok (.aload_n 0, 1) := by decide +kernel
theorem dX5_empty_6 : decode cX5_empty 6 = .ok (.iload_n 2, 1) := by decide +kernel
theorem dX5_empty_7 : decode cX5_empty 7 = .ok (.putfield 15, 3) := by decide +kernel
theorem dX5_empty_10 : decode cX5_empty 10 = .ok (.aload_n 0, 1) := by decide +kernel
theorem dX5_empty_11 : decode cX5_empty 11 = .ok (.iconst 4, 1) := by decide +kernel
theorem dX5_empty_12 : decode cX5_empty 12 = .ok (.putfield 18, 3) := by decide +kernel
theorem dX5_empty_15 : decode cX5_empty 15 = .ok (.aload_n 0, 1) := by decide +kernel
theorem dX5_empty_16 : decode cX5_empty 16 = .ok (.iconst 0, 1) := by decide +kernel
theorem dX5_empty_17 : decode cX5_empty 17 = .ok (.putfield 21, 3) := by decide +kernel
theorem dX5_empty_20 : decode cX5_empty 20 = .ok (.aload_n 0, 1) := by decide +kernel
theorem dX5_empty_21 : decode cX5_empty 21 = .ok (.getfield 30, 3) := by decide +kernel
theorem dX5_empty_24 : decode cX5_empty 24 = .ok (.iconst 0, 1) := by decide +kernel
theorem dX5_empty_25 : decode cX5_empty 25 = .ok (.invokestatic 38, 3) := by decide +kernel
theorem dX5_empty_28 : decode cX5_empty 28 = .ok (.aload_n 0, 1) := by decide +kernel
theorem dX5_empty_29 : decode cX5_empty 29 = .ok (.getfield 34, 3) := by decide +kernel
theorem dX5_empty_32 : decode cX5_empty 32 = .ok (.iconst 0, 1) := by decide +kernel
theorem dX5_empty_33 : decode cX5_empty 33 = .ok (.invokestatic 38, 3) := by decide +kernel
theorem dX5_empty_36 : decode cX5_empty 36 = .ok (.return_, 1) := by decide +kernel
theorem dX5_become_0 : decode cX5_become 0 = .ok (.aload_n 0, 1) := by decide +kernel
theorem dX5_become_1 : decode cX5_become 1 = .ok (.aload_n 1, 1) := by decide +kernel
theorem dX5_become_2 : decode cX5_become 2 = .ok (.getfield 9, 3) := by decide +kernel
theorem dX5_become_5 : decode cX5_become 5 = .ok (.putfield 9, 3) := by decide +kernel
theorem dX5_become_8 : decode cX5_become 8 = .ok (.aload_n 0, 1) := by decide +kernel
theorem dX5_become_9 : decode cX5_become 9 = .ok (.aload_n 1, 1) := by decide +kernel
theorem dX5_become_10 : decode cX5_become 10 = .ok (.getfield 15, 3) := by decide +kernel
theorem dX5_become_13 : decode cX5_become 13 = .ok (.putfield 15, 3) := by decide +kernel
theorem dX5_become_16 : decode cX5_become 16 = .ok (.aload_n 0, 1) := by decide +kernel
theorem dX5_become_17 : decode cX5_become 17 = .ok (.aload_n 1, 1) := by decide +kernel
theorem dX5_become_18 : decode cX5_become 18 = .ok (.getfield 18, 3) := by decide +kernel
theorem dX5_become_21 : decode cX5_become 21 = .ok (.putfield 18, 3) := by decide +kernel
theorem dX5_become_24 : decode cX5_become 24 = .ok (.aload_n 0, 1) := by decide +kernel
theorem dX5_become_25 : decode cX5_become 25 = .ok (.aload_n 1, 1) := by decide +kernel
theorem dX5_become_26 : decode cX5_become 26 = .ok (.getfield 21, 3) := by decide +kernel
theorem dX5_become_29 : decode cX5_become 29 = .ok (.putfield 21, 3) := by decide +kernel
theorem dX5_become_32 : decode cX5_become 32 = .ok (.iconst 0, 1) := by decide +kernel
theorem dX5_become_33 : decode cX5_become 33 = .ok (.istore_n 2, 1) := by decide +kernel
theorem dX5_become_34 : decode cX5_become 34 = .ok (.iload_n 2, 1) := by decide +kernel
theorem dX5_become_35 : decode cX5_become 35 = .ok (.aload_n 0, 1) := by decide +kernel
theorem dX5_become_36 : decode cX5_become 36 = .ok (.getfield 21, 3) := by decide +kernel
theorem dX5_become_39 : decode cX5_become 39 = .ok (.if_icmp .ge 24, 3) := by decide +kernel
theorem dX5_become_42 : decode cX5_become 42 = .ok (.aload_n 0, 1) := by decide +kernel
theorem dX5_become_43 : decode cX5_become 43 = .ok (.getfield 26, 3) := by decide +kernel
theorem dX5_become_46 : decode cX5_become 46 = .ok (.iload_n 2, 1) := by decide +kernel
theorem dX5_become_47 : decode cX5_become 47 = .ok (.aaload, 1) := by decide +kernel
theorem dX5_become_48 : decode cX5_become 48 = .ok (.aload_n 1, 1) := by decide +kernel
theorem dX5_become_49 : decode cX5_become 49 = .ok (.getfield 26, 3) := by decide +kernel
theorem dX5_become_52 : decode cX5_become 52 = .ok (.iload_n 2, 1) := by decide +kernel
theorem dX5_become_53 : decode cX5_become 53 = .ok (.aaload, 1) := by decide +kernel
theorem dX5_become_54 : decode cX5_become 54 = .ok (.invokevirtual 44, 3) := by decide +kernel
theorem dX5_become_57 : decode cX5_become 57 = .ok (.iinc 2 1, 3) := by decide +kernel
theorem dX5_become_60 : decode cX5_become 60 = .ok (.goto (-26), 3) := by decide +kernel
theorem dX5_become_63 : decode cX5_become 63 = .ok (.aload_n 1, 1) := by decide +kernel
theorem dX5_become_64 : decode cX5_become 64 = .ok (.getfield 30, 3) := by decide +kernel
theorem dX5_become_67 : decode cX5_become 67 = .ok (.iconst 0, 1) := by decide +kernel
theorem dX5_become_68 : decode cX5_become 68 = .ok (.aload_n 0, 1) := by decide +kernel
theorem dX5_become_69 : decode cX5_become 69 = .ok (.getfield 30, 3) := by decide +kernel
theorem dX5_become_72 : decode cX5_become 72 = .ok (.iconst 0, 1) := by decide +kernel
theorem dX5_become_73 : decode cX5_become 73 = .ok (.sipush 192, 3) := by decide +kernel
theorem dX5_become_76 : decode cX5_become 76 = .ok (.invokestatic 48, 3) := by decide +kernel
theorem dX5_become_79 : decode cX5_become 79 = .ok (.aload_n 1, 1) := by decide +kernel
theorem dX5_become_80 : decode cX5_become 80 = .ok (.getfield 34, 3) := by decide +kernel
theorem dX5_become_83 : decode cX5_become 83 = .ok (.iconst 0, 1) := by decide +kernel
theorem dX5_become_84 : decode cX5_become 84 = .ok (.aload_n 0, 1) := by decide +kernel
theorem dX5_become_85 : decode cX5_become 85 = .ok (.getfield 34, 3) := by decide +kernel
theorem dX5_become_88 : decode cX5_become 88 = .ok (.iconst 0, 1) := by decide +kernel
theorem dX5_become_89 : decode cX5_become 89 = .ok (.sipush 192, 3) := by decide +kernel
theorem dX5_become_92 : decode cX5_become 92 = .ok (.invokestatic 48, 3) := by decide +kernel
theorem dX5_become_95 : decode cX5_become 95 = .ok (.return_, 1) := by decide +kernel
theorem dX5_addPlate_0 : decode cX5_addPlate 0 = .ok (.aload_n 0, 1) := by decide +kernel
theorem dX5_addPlate_1 : decode cX5_addPlate 1 = .ok (.getfield 21, 3) := by decide +kernel
theorem dX5_addPlate_4 : decode cX5_addPlate 4 = .ok (.iconst 4, 1) := by decide +kernel
theorem dX5_addPlate_5 : decode cX5_addPlate 5 = .ok (.if_icmp .lt 4, 3) := by decide +kernel
theorem dX5_addPlate_8 : decode cX5_addPlate 8 = .ok (.return_, 1) := by decide +kernel
theorem dX5_addPlate_9 : decode cX5_addPlate 9 = .ok (.aload_n 0, 1) := by decide +kernel
theorem dX5_addPlate_10 : decode cX5_addPlate 10 = .ok (.getfield 26, 3) := by decide +kernel
theorem dX5_addPlate_13 : decode cX5_addPlate 13 = .ok (.aload_n 0, 1) := by decide +kernel
theorem dX5_addPlate_14 : decode cX5_addPlate 14 = .ok (.getfield 21, 3) := by decide +kernel
theorem dX5_addPlate_17 : decode cX5_addPlate 17 = .ok (.aaload, 1) := by decide +kernel
theorem dX5_addPlate_18 : decode cX5_addPlate 18 = .ok (.astore 7, 2) := by decide +kernel
theorem dX5_addPlate_20 : decode cX5_addPlate 20 = .ok (.aload 7, 2) := by decide +kernel
theorem dX5_addPlate_22 : decode cX5_addPlate 22 = .ok (.lload_n 1, 1) := by decide +kernel
theorem dX5_addPlate_23 : decode cX5_addPlate 23 = .ok (.putfield 54, 3) := by decide +kernel
theorem dX5_addPlate_26 : decode cX5_addPlate 26 = .ok (.aload 7, 2) := by decide +kernel
theorem dX5_addPlate_28 : decode cX5_addPlate 28 = .ok (.iload_n 3, 1) := by decide +kernel
theorem dX5_addPlate_29 : decode cX5_addPlate 29 = .ok (.putfield 58, 3) := by decide +kernel
theorem dX5_addPlate_32 : decode cX5_addPlate 32 = .ok (.aload 7, 2) := by decide +kernel
theorem dX5_addPlate_34 : decode cX5_addPlate 34 = .ok (.iload 4, 2) := by decide +kernel
theorem dX5_addPlate_36 : decode cX5_addPlate 36 = .ok (.putfield 61, 3) := by decide +kernel
theorem dX5_addPlate_39 : decode cX5_addPlate 39 = .ok (.aload 7, 2) := by decide +kernel
theorem dX5_addPlate_41 : decode cX5_addPlate 41 = .ok (.iload 5, 2) := by decide +kernel
theorem dX5_addPlate_43 : decode cX5_addPlate 43 = .ok (.putfield 64, 3) := by decide +kernel
theorem dX5_addPlate_46 : decode cX5_addPlate 46 = .ok (.aload 7, 2) := by decide +kernel
theorem dX5_addPlate_48 : decode cX5_addPlate 48 = .ok (.iconst 0, 1) := by decide +kernel
theorem dX5_addPlate_49 : decode cX5_addPlate 49 = .ok (.putfield 67, 3) := by decide +kernel
theorem dX5_addPlate_52 : decode cX5_addPlate 52 = .ok (.aload 7, 2) := by decide +kernel
theorem dX5_addPlate_54 : decode cX5_addPlate 54 = .ok (.iconst 0, 1) := by decide +kernel
theorem dX5_addPlate_55 : decode cX5_addPlate 55 = .ok (.putfield 70, 3) := by decide +kernel
theorem dX5_addPlate_58 : decode cX5_addPlate 58 = .ok (.aload 7, 2) := by decide +kernel
theorem dX5_addPlate_60 : decode cX5_addPlate 60 = .ok (.sipush 1000, 3) := by decide +kernel
theorem dX5_addPlate_63 : decode cX5_addPlate 63 = .ok (.putfield 73, 3) := by decide +kernel
theorem dX5_addPlate_66 : decode cX5_addPlate 66 = .ok (.aload 7, 2) := by decide +kernel
theorem dX5_addPlate_68 : decode cX5_addPlate 68 = .ok (.aload 6, 2) := by decide +kernel
theorem dX5_addPlate_70 : decode cX5_addPlate 70 = .ok (.putfield 76, 3) := by decide +kernel
theorem dX5_addPlate_73 : decode cX5_addPlate 73 = .ok (.aload_n 0, 1) := by decide +kernel
theorem dX5_addPlate_74 : decode cX5_addPlate 74 = .ok (.dup, 1) := by decide +kernel
theorem dX5_addPlate_75 : decode cX5_addPlate 75 = .ok (.getfield 21, 3) := by decide +kernel
theorem dX5_addPlate_78 : decode cX5_addPlate 78 = .ok (.iconst 1, 1) := by decide +kernel
theorem dX5_addPlate_79 : decode cX5_addPlate 79 = .ok (.iadd, 1) := by decide +kernel
theorem dX5_addPlate_80 : decode cX5_addPlate 80 = .ok (.putfield 21, 3) := by decide +kernel
theorem dX5_addPlate_83 : decode cX5_addPlate 83 = .ok (.return_, 1) := by decide +kernel
theorem dX5_cells_0 : decode cX5_cells 0 = .ok (.aload_n 0, 1) := by decide +kernel
theorem dX5_cells_1 : decode cX5_cells 1 = .ok (.getfield 9, 3) := by decide +kernel
theorem dX5_cells_4 : decode cX5_cells 4 = .ok (.aload_n 0, 1) := by decide +kernel
theorem dX5_cells_5 : decode cX5_cells 5 = .ok (.getfield 15, 3) := by decide +kernel
theorem dX5_cells_8 : decode cX5_cells 8 = .ok (.imul, 1) := by decide +kernel
theorem dX5_cells_9 : decode cX5_cells 9 = .ok (.ireturn, 1) := by decide +kernel
theorem dX5_indexOfCell_0 : decode cX5_indexOfCell 0 = .ok (.iload_n 2, 1) := by decide +kernel
theorem dX5_indexOfCell_1 : decode cX5_indexOfCell 1 = .ok (.aload_n 0, 1) := by decide +kernel
theorem dX5_indexOfCell_2 : decode cX5_indexOfCell 2 = .ok (.getfield 9, 3) := by decide +kernel
theorem dX5_indexOfCell_5 : decode cX5_indexOfCell 5 = .ok (.imul, 1) := by decide +kernel
theorem dX5_indexOfCell_6 : decode cX5_indexOfCell 6 = .ok (.iload_n 1, 1) := by decide +kernel
theorem dX5_indexOfCell_7 : decode cX5_indexOfCell 7 = .ok (.iadd, 1) := by decide +kernel
theorem dX5_indexOfCell_8 : decode cX5_indexOfCell 8 = .ok (.ireturn, 1) := by decide +kernel
theorem dX5_indexOfName_0 : decode cX5_indexOfName 0 = .ok (.iconst 0, 1) := by decide +kernel
theorem dX5_indexOfName_1 : decode cX5_indexOfName 1 = .ok (.istore_n 3, 1) := by decide +kernel
theorem dX5_indexOfName_2 : decode cX5_indexOfName 2 = .ok (.iload_n 3, 1) := by decide +kernel
theorem dX5_indexOfName_3 : decode cX5_indexOfName 3 = .ok (.aload_n 0, 1) := by decide +kernel
theorem dX5_indexOfName_4 : decode cX5_indexOfName 4 = .ok (.getfield 21, 3) := by decide +kernel
theorem dX5_indexOfName_7 : decode cX5_indexOfName 7 = .ok (.if_icmp .ge 25, 3) := by decide +kernel
theorem dX5_indexOfName_10 : decode cX5_indexOfName 10 = .ok (.aload_n 0, 1) := by decide +kernel
theorem dX5_indexOfName_11 : decode cX5_indexOfName 11 = .ok (.getfield 26, 3) := by decide +kernel
theorem dX5_indexOfName_14 : decode cX5_indexOfName 14 = .ok (.iload_n 3, 1) := by decide +kernel
theorem dX5_indexOfName_15 : decode cX5_indexOfName 15 = .ok (.aaload, 1) := by decide +kernel
theorem dX5_indexOfName_16 : decode cX5_indexOfName 16 = .ok (.getfield 54, 3) := by decide +kernel
theorem dX5_indexOfName_19 : decode cX5_indexOfName 19 = .ok (.lload_n 1, 1) := by decide +kernel
theorem dX5_indexOfName_20 : decode cX5_indexOfName 20 = .ok (.lcmp, 1) := by decide +kernel
theorem dX5_indexOfName_21 : decode cX5_indexOfName 21 = .ok (.ifCond .ne 5, 3) := by decide +kernel
theorem dX5_indexOfName_24 : decode cX5_indexOfName 24 = .ok (.iload_n 3, 1) := by decide +kernel
theorem dX5_indexOfName_25 : decode cX5_indexOfName 25 = .ok (.ireturn, 1) := by decide +kernel
theorem dX5_indexOfName_26 : decode cX5_indexOfName 26 = .ok (.iinc 3 1, 3) := by decide +kernel
theorem dX5_indexOfName_29 : decode cX5_indexOfName 29 = .ok (.goto (-27), 3) := by decide +kernel
theorem dX5_indexOfName_32 : decode cX5_indexOfName 32 = .ok (.iconst (-1), 1) := by decide +kernel
theorem dX5_indexOfName_33 : decode cX5_indexOfName 33 = .ok (.ireturn, 1) := by decide +kernel
theorem dX5_isCleaned_0 : decode cX5_isCleaned 0 = .ok (.aload_n 0, 1) := by decide +kernel
theorem dX5_isCleaned_1 : decode cX5_isCleaned 1 = .ok (.getfield 34, 3) := by decide +kernel
theorem dX5_isCleaned_4 : decode cX5_isCleaned 4 = .ok (.iload_n 2, 1) := by decide +kernel
theorem dX5_isCleaned_5 : decode cX5_isCleaned 5 = .ok (.iaload, 1) := by decide +kernel
theorem dX5_isCleaned_6 : decode cX5_isCleaned 6 = .ok (.iload_n 1, 1) := by decide +kernel
theorem dX5_isCleaned_7 : decode cX5_isCleaned 7 = .ok (.ishr, 1) := by decide +kernel
theorem dX5_isCleaned_8 : decode cX5_isCleaned 8 = .ok (.iconst 1, 1) := by decide +kernel
theorem dX5_isCleaned_9 : decode cX5_isCleaned 9 = .ok (.iand, 1) := by decide +kernel
theorem dX5_isCleaned_10 : decode cX5_isCleaned 10 = .ok (.iconst 1, 1) := by decide +kernel
theorem dX5_isCleaned_11 : decode cX5_isCleaned 11 = .ok (.if_icmp .ne 7, 3) := by decide +kernel
theorem dX5_isCleaned_14 : decode cX5_isCleaned 14 = .ok (.iconst 1, 1) := by decide +kernel
theorem dX5_isCleaned_15 : decode cX5_isCleaned 15 = .ok (.goto 4, 3) := by decide +kernel
theorem dX5_isCleaned_18 : decode cX5_isCleaned 18 = .ok (.iconst 0, 1) := by decide +kernel
theorem dX5_isCleaned_19 : decode cX5_isCleaned 19 = .ok (.ireturn, 1) := by decide +kernel
theorem dX5_cleanedOfAll_0 : decode cX5_cleanedOfAll 0 = .ok (.iconst 0, 1) := by decide +kernel
theorem dX5_cleanedOfAll_1 : decode cX5_cleanedOfAll 1 = .ok (.istore_n 1, 1) := by decide +kernel
theorem dX5_cleanedOfAll_2 : decode cX5_cleanedOfAll 2 = .ok (.iconst 0, 1) := by decide +kernel
theorem dX5_cleanedOfAll_3 : decode cX5_cleanedOfAll 3 = .ok (.istore_n 2, 1) := by decide +kernel
theorem dX5_cleanedOfAll_4 : decode cX5_cleanedOfAll 4 = .ok (.iload_n 2, 1) := by decide +kernel
theorem dX5_cleanedOfAll_5 : decode cX5_cleanedOfAll 5 = .ok (.aload_n 0, 1) := by decide +kernel
theorem dX5_cleanedOfAll_6 : decode cX5_cleanedOfAll 6 = .ok (.invokevirtual 80, 3) := by decide +kernel
theorem dX5_cleanedOfAll_9 : decode cX5_cleanedOfAll 9 = .ok (.if_icmp .ge 21, 3) := by decide +kernel
theorem dX5_cleanedOfAll_12 : decode cX5_cleanedOfAll 12 = .ok (.iload_n 1, 1) := by decide +kernel
theorem dX5_cleanedOfAll_13 : decode cX5_cleanedOfAll 13 = .ok (.aload_n 0, 1) := by decide +kernel
theorem dX5_cleanedOfAll_14 : decode cX5_cleanedOfAll 14 = .ok (.getfield 34, 3) := by decide +kernel
theorem dX5_cleanedOfAll_17 : decode cX5_cleanedOfAll 17 = .ok (.iload_n 2, 1) := by decide +kernel
theorem dX5_cleanedOfAll_18 : decode cX5_cleanedOfAll 18 = .ok (.iaload, 1) := by decide +kernel
theorem dX5_cleanedOfAll_19 : decode cX5_cleanedOfAll 19 = .ok (.invokestatic 84, 3) := by decide +kernel
theorem dX5_cleanedOfAll_22 : decode cX5_cleanedOfAll 22 = .ok (.iadd, 1) := by decide +kernel
theorem dX5_cleanedOfAll_23 : decode cX5_cleanedOfAll 23 = .ok (.istore_n 1, 1) := by decide +kernel
theorem dX5_cleanedOfAll_24 : decode cX5_cleanedOfAll 24 = .ok (.iinc 2 1, 3) := by decide +kernel
theorem dX5_cleanedOfAll_27 : decode cX5_cleanedOfAll 27 = .ok (.goto (-23), 3) := by decide +kernel
theorem dX5_cleanedOfAll_30 : decode cX5_cleanedOfAll 30 = .ok (.iload_n 1, 1) := by decide +kernel
theorem dX5_cleanedOfAll_31 : decode cX5_cleanedOfAll 31 = .ok (.ireturn, 1) := by decide +kernel
theorem dX6_init_0 : decode cX6_init 0 = .ok (.aload_n 0, 1) := by decide +kernel
theorem dX6_init_1 : decode cX6_init 1 = .ok (.invokespecial 3, 3) := by decide +kernel
theorem dX6_init_4 : decode cX6_init 4 = .ok (.aload_n 0, 1) := by decide +kernel
theorem dX6_init_5 : decode cX6_init 5 = .ok (.sipush 600, 3) := by decide +kernel
theorem dX6_init_8 : decode cX6_init 8 = .ok (.newarray .byte, 2) := by decide +kernel
theorem dX6_init_10 : decode cX6_init 10 = .ok (.putfield 9, 3) := by decide +kernel
theorem dX6_init_13 : decode cX6_init 13 = .ok (.aload_n 0, 1) := by decide +kernel
theorem dX6_init_14 : decode cX6_init 14 = .ok (.iconst 0, 1) := by decide +kernel
theorem dX6_init_15 : decode cX6_init 15 = .ok (.putfield 13, 3) := by decide +kernel
theorem dX6_init_18 : decode cX6_init 18 = .ok (.aload_n 0, 1) := by decide +kernel
theorem dX6_init_19 : decode cX6_init 19 = .ok (.iconst (-1), 1) := by decide +kernel
theorem dX6_init_20 : decode cX6_init 20 = .ok (.putfield 17, 3) := by decide +kernel
theorem dX6_init_23 : decode cX6_init 23 = .ok (.aload_n 0, 1) := by decide +kernel
theorem dX6_init_24 : decode cX6_init 24 = .ok (.bipush 10, 2) := by decide +kernel
theorem dX6_init_26 : decode cX6_init 26 = .ok (.anewarray 20, 3) := by decide +kernel
theorem dX6_init_29 : decode cX6_init 29 = .ok (.putfield 22, 3) := by decide +kernel
theorem dX6_init_32 : decode cX6_init 32 = .ok (.aload_n 0, 1) := by decide +kernel
theorem dX6_init_33 : decode cX6_init 33 = .ok (.iconst 0, 1) := by decide +kernel
theorem dX6_init_34 : decode cX6_init 34 = .ok (.putfield 26, 3) := by decide +kernel
theorem dX6_init_37 : decode cX6_init 37 = .ok (.aload_n 0, 1) := by decide +kernel
theorem dX6_init_38 : decode cX6_init 38 = .ok (.iconst 0, 1) := by decide +kernel
theorem dX6_init_39 : decode cX6_init 39 = .ok (.putfield 29, 3) := by decide +kernel
theorem dX6_init_42 : decode cX6_init 42 = .ok (.aload_n 0, 1) := by decide +kernel
theorem dX6_init_43 : decode cX6_init 43 = .ok (.new 32, 3) := by decide +kernel
theorem dX6_init_46 : decode cX6_init 46 = .ok (.dup, 1) := by decide +kernel
theorem dX6_init_47 : decode cX6_init 47 = .ok (.invokespecial 34, 3) := by decide +kernel
theorem dX6_init_50 : decode cX6_init 50 = .ok (.putfield 35, 3) := by decide +kernel
theorem dX6_init_53 : decode cX6_init 53 = .ok (.aload_n 0, 1) := by decide +kernel
theorem dX6_init_54 : decode cX6_init 54 = .ok (.new 39, 3) := by decide +kernel
theorem dX6_init_57 : decode cX6_init 57 = .ok (.dup, 1) := by decide +kernel
theorem dX6_init_58 : decode cX6_init 58 = .ok (.invokespecial 41, 3) := by decide +kernel
theorem dX6_init_61 : decode cX6_init 61 = .ok (.putfield 42, 3) := by decide +kernel
theorem dX6_init_64 : decode cX6_init 64 = .ok (.iconst 0, 1) := by decide +kernel
theorem dX6_init_65 : decode cX6_init 65 = .ok (.istore_n 1, 1) := by decide +kernel
theorem dX6_init_66 : decode cX6_init 66 = .ok (.iload_n 1, 1) := by decide +kernel
theorem dX6_init_67 : decode cX6_init 67 = .ok (.bipush 10, 2) := by decide +kernel
theorem dX6_init_69 : decode cX6_init 69 = .ok (.if_icmp .ge 22, 3) := by decide +kernel
theorem dX6_init_72 : decode cX6_init 72 = .ok (.aload_n 0, 1) := by decide +kernel
theorem dX6_init_73 : decode cX6_init 73 = .ok (.getfield 22, 3) := by decide +kernel
theorem dX6_init_76 : decode cX6_init 76 = .ok (.iload_n 1, 1) := by decide +kernel
theorem dX6_init_77 : decode cX6_init 77 = .ok (.new 20, 3) := by decide +kernel
theorem dX6_init_80 : decode cX6_init 80 = .ok (.dup, 1) := by decide +kernel
theorem dX6_init_81 : decode cX6_init 81 = .ok (.invokespecial 46, 3) := by decide +kernel
theorem dX6_init_84 : decode cX6_init 84 = .ok (.aastore, 1) := by decide +kernel
theorem dX6_init_85 : decode cX6_init 85 = .ok (.iinc 1 1, 3) := by decide +kernel
theorem dX6_init_88 : decode cX6_init 88 = .ok (.goto (-22), 3) := by decide +kernel
theorem dX6_init_91 : decode cX6_init 91 = .ok (.aload_n 0, 1) := by decide +kernel
theorem dX6_init_92 : decode cX6_init 92 = .ok (.aload_n 0, 1) := by decide +kernel
theorem dX6_init_93 : decode cX6_init 93 = .ok (.getfield 22, 3) := by decide +kernel
theorem dX6_init_96 : decode cX6_init 96 = .ok (.aload_n 0, 1) := by decide +kernel
theorem dX6_init_97 : decode cX6_init 97 = .ok (.getfield 26, 3) := by decide +kernel
theorem dX6_init_100 : decode cX6_init 100 = .ok (.aaload, 1) := by decide +kernel
theorem dX6_init_101 : decode cX6_init 101 = .ok (.putfield 47, 3) := by decide +kernel
theorem dX6_init_104 : decode cX6_init 104 = .ok (.return_, 1) := by decide +kernel
theorem dX6_append_0 : decode cX6_append 0 = .ok (.aload_n 0, 1) := by decide +kernel
theorem dX6_append_1 : decode cX6_append 1 = .ok (.getfield 13, 3) := by decide +kernel
theorem dX6_append_4 : decode cX6_append 4 = .ok (.sipush 580, 3) := by decide +kernel
theorem dX6_append_7 : decode cX6_append 7 = .ok (.if_icmp .le 5, 3) := by decide +kernel
theorem dX6_append_10 : decode cX6_append 10 = .ok (.iconst (-1), 1) := by decide +kernel
theorem dX6_append_11 : decode cX6_append 11 = .ok (.ireturn, 1) := by decide +kernel
theorem dX6_append_12 : decode cX6_append 12 = .ok (.aload_n 0, 1) := by decide +kernel
theorem dX6_append_13 : decode cX6_append 13 = .ok (.iload_n 1, 1) := by decide +kernel
theorem dX6_append_14 : decode cX6_append 14 = .ok (.invokevirtual 51, 3) := by decide +kernel
theorem dX6_append_17 : decode cX6_append 17 = .ok (.aload_n 0, 1) := by decide +kernel
theorem dX6_append_18 : decode cX6_append 18 = .ok (.iload_n 2, 1) := by decide +kernel
theorem dX6_append_19 : decode cX6_append 19 = .ok (.invokevirtual 51, 3) := by decide +kernel
theorem dX6_append_22 : decode cX6_append 22 = .ok (.aload_n 0, 1) := by decide +kernel
theorem dX6_append_23 : decode cX6_append 23 = .ok (.iload_n 3, 1) := by decide +kernel
theorem dX6_append_24 : decode cX6_append 24 = .ok (.invokevirtual 51, 3) := by decide +kernel
theorem dX6_append_27 : decode cX6_append 27 = .ok (.aload_n 0, 1) := by decide +kernel
theorem dX6_append_28 : decode cX6_append 28 = .ok (.iload 4, 2) := by decide +kernel
theorem dX6_append_30 : decode cX6_append 30 = .ok (.invokevirtual 51, 3) := by decide +kernel
theorem dX6_append_33 : decode cX6_append 33 = .ok (.aload_n 0, 1) := by decide +kernel
theorem dX6_append_34 : decode cX6_append 34 = .ok (.iload 5, 2) := by decide +kernel
theorem dX6_append_36 : decode cX6_append 36 = .ok (.invokevirtual 51, 3) := by decide +kernel
theorem dX6_append_39 : decode cX6_append 39 = .ok (.aload_n 0, 1) := by decide +kernel
theorem dX6_append_40 : decode cX6_append 40 = .ok (.getfield 13, 3) := by decide +kernel
theorem dX6_append_43 : decode cX6_append 43 = .ok (.ireturn, 1) := by decide +kernel
theorem dX6_load_0 : decode cX6_load 0 = .ok (.aload_n 0, 1) := by decide +kernel
theorem dX6_load_1 : decode cX6_load 1 = .ok (.iload_n 1, 1) := by decide +kernel
theorem dX6_load_2 : decode cX6_load 2 = .ok (.invokevirtual 55, 3) := by decide +kernel
theorem dX6_load_5 : decode cX6_load 5 = .ok (.aload_n 0, 1) := by decide +kernel
theorem dX6_load_6 : decode cX6_load 6 = .ok (.iconst 0, 1) := by decide +kernel
theorem dX6_load_7 : decode cX6_load 7 = .ok (.putfield 13, 3) := by decide +kernel
theorem dX6_load_10 : decode cX6_load 10 = .ok (.aload_n 0, 1) := by decide +kernel
theorem dX6_load_11 : decode cX6_load 11 = .ok (.getfield 42, 3) := by decide +kernel
theorem dX6_load_14 : decode cX6_load 14 = .ok (.aload_n 0, 1) := by decide +kernel
theorem dX6_load_15 : decode cX6_load 15 = .ok (.getfield 9, 3) := by decide +kernel
theorem dX6_load_18 : decode cX6_load 18 = .ok (.iload_n 1, 1) := by decide +kernel
theorem dX6_load_19 : decode cX6_load 19 = .ok (.aload_n 0, 1) := by decide +kernel
theorem dX6_load_20 : decode cX6_load 20 = .ok (.invokevirtual 58, 3) := by decide +kernel
theorem dX6_load_23 : decode cX6_load 23 = .ok (.invokevirtual 62, 3) := by decide +kernel
theorem dX6_load_26 : decode cX6_load 26 = .ok (.istore_n 2, 1) := by decide +kernel
theorem dX6_load_27 : decode cX6_load 27 = .ok (.aload_n 0, 1) := by decide +kernel
theorem dX6_load_28 : decode cX6_load 28 = .ok (.aload_n 0, 1) := by decide +kernel
theorem dX6_load_29 : decode cX6_load 29 = .ok (.getfield 42, 3) := by decide +kernel
theorem dX6_load_32 : decode cX6_load 32 = .ok (.getfield 66, 3) := by decide +kernel
theorem dX6_load_35 : decode cX6_load 35 = .ok (.putfield 17, 3) := by decide +kernel
theorem dX6_load_38 : decode cX6_load 38 = .ok (.iload_n 2, 1) := by decide +kernel
theorem dX6_load_39 : decode cX6_load 39 = .ok (.ifCond .ne 11, 3) := by decide +kernel
theorem dX6_load_42 : decode cX6_load 42 = .ok (.aload_n 0, 1) := by decide +kernel
theorem dX6_load_43 : decode cX6_load 43 = .ok (.getfield 42, 3) := by decide +kernel
theorem dX6_load_46 : decode cX6_load 46 = .ok (.getfield 69, 3) := by decide +kernel
theorem dX6_load_49 : decode cX6_load 49 = .ok (.ireturn, 1) := by decide +kernel
theorem dX6_load_50 : decode cX6_load 50 = .ok (.aload_n 0, 1) := by decide +kernel
theorem dX6_load_51 : decode cX6_load 51 = .ok (.invokevirtual 72, 3) := by decide +kernel
theorem dX6_load_54 : decode cX6_load 54 = .ok (.aload_n 0, 1) := by decide +kernel
theorem dX6_load_55 : decode cX6_load 55 = .ok (.getfield 35, 3) := by decide +kernel
theorem dX6_load_58 : decode cX6_load 58 = .ok (.invokevirtual 75, 3) := by decide +kernel
theorem dX6_load_61 : decode cX6_load 61 = .ok (.aload_n 0, 1) := by decide +kernel
theorem dX6_load_62 : decode cX6_load 62 = .ok (.getfield 47, 3) := by decide +kernel
theorem dX6_load_65 : decode cX6_load 65 = .ok (.getfield 78, 3) := by decide +kernel
theorem dX6_load_68 : decode cX6_load 68 = .ok (.ireturn, 1) := by decide +kernel
theorem dX6_state_0 : decode cX6_state 0 = .ok (.iload_n 1, 1) := by decide +kernel
theorem dX6_state_1 : decode cX6_state 1 = .ok (.ifCond .lt 9, 3) := by decide +kernel
theorem dX6_state_4 : decode cX6_state 4 = .ok (.iload_n 1, 1) := by decide +kernel
theorem dX6_state_5 : decode cX6_state 5 = .ok (.bipush 8, 2) := by decide +kernel
theorem dX6_state_7 : decode cX6_state 7 = .ok (.if_icmp .le 13, 3) := by decide +kernel
theorem dX6_state_10 : decode cX6_state 10 = .ok (.new 81, 3) := by decide +kernel
theorem dX6_state_13 : decode cX6_state 13 = .ok (.dup, 1) := by decide +kernel
theorem dX6_state_14 : decode cX6_state 14 = .ok (.ldc 83, 2) := by decide +kernel
theorem dX6_state_16 : decode cX6_state 16 = .ok (.invokespecial 85, 3) := by decide +kernel
theorem dX6_state_19 : decode cX6_state 19 = .ok (.athrow, 1) := by decide +kernel
theorem dX6_state_20 : decode cX6_state 20 = .ok (.aload_n 0, 1) := by decide +kernel
theorem dX6_state_21 : decode cX6_state 21 = .ok (.getfield 35, 3) := by decide +kernel
theorem dX6_state_24 : decode cX6_state 24 = .ok (.aload_n 0, 1) := by decide +kernel
theorem dX6_state_25 : decode cX6_state 25 = .ok (.getfield 47, 3) := by decide +kernel
theorem dX6_state_28 : decode cX6_state 28 = .ok (.invokevirtual 88, 3) := by decide +kernel
theorem dX6_state_31 : decode cX6_state 31 = .ok (.iload_n 1, 1) := by decide +kernel
theorem dX6_state_32 : decode cX6_state 32 = .ok (.tableswitch 156 0 7 #[48, 56, 64, 72, 80, 92, 105, 138], 48) := by decide +kernel
theorem dX6_state_80 : decode cX6_state 80 = .ok (.aload_n 0, 1) := by decide +kernel
theorem dX6_state_81 : decode cX6_state 81 = .ok (.getfield 47, 3) := by decide +kernel
theorem dX6_state_84 : decode cX6_state 84 = .ok (.getfield 92, 3) := by decide +kernel
theorem dX6_state_87 : decode cX6_state 87 = .ok (.ireturn, 1) := by decide +kernel
theorem dX6_state_88 : decode cX6_state 88 = .ok (.aload_n 0, 1) := by decide +kernel
theorem dX6_state_89 : decode cX6_state 89 = .ok (.getfield 47, 3) := by decide +kernel
theorem dX6_state_92 : decode cX6_state 92 = .ok (.getfield 95, 3) := by decide +kernel
theorem dX6_state_95 : decode cX6_state 95 = .ok (.ireturn, 1) := by decide +kernel
theorem dX6_state_96 : decode cX6_state 96 = .ok (.aload_n 0, 1) := by decide +kernel
theorem dX6_state_97 : decode cX6_state 97 = .ok (.getfield 47, 3) := by decide +kernel
theorem dX6_state_100 : decode cX6_state 100 = .ok (.getfield 78, 3) := by decide +kernel
theorem dX6_state_103 : decode cX6_state 103 = .ok (.ireturn, 1) := by decide +kernel
theorem dX6_state_104 : decode cX6_state 104 = .ok (.aload_n 0, 1) := by decide +kernel
theorem dX6_state_105 : decode cX6_state 105 = .ok (.getfield 47, 3) := by decide +kernel
theorem dX6_state_108 : decode cX6_state 108 = .ok (.getfield 98, 3) := by decide +kernel
theorem dX6_state_111 : decode cX6_state 111 = .ok (.ireturn, 1) := by decide +kernel
theorem dX6_state_112 : decode cX6_state 112 = .ok (.aload_n 0, 1) := by decide +kernel
theorem dX6_state_113 : decode cX6_state 113 = .ok (.getfield 35, 3) := by decide +kernel
theorem dX6_state_116 : decode cX6_state 116 = .ok (.aload_n 0, 1) := by decide +kernel
theorem dX6_state_117 : decode cX6_state 117 = .ok (.getfield 47, 3) := by decide +kernel
theorem dX6_state_120 : decode cX6_state 120 = .ok (.invokevirtual 101, 3) := by decide +kernel
theorem dX6_state_123 : decode cX6_state 123 = .ok (.ireturn, 1) := by decide +kernel
theorem dX6_state_124 : decode cX6_state 124 = .ok (.aload_n 0, 1) := by decide +kernel
theorem dX6_state_125 : decode cX6_state 125 = .ok (.getfield 35, 3) := by decide +kernel
theorem dX6_state_128 : decode cX6_state 128 = .ok (.aload_n 0, 1) := by decide +kernel
theorem dX6_state_129 : decode cX6_state 129 = .ok (.getfield 47, 3) := by decide +kernel
theorem dX6_state_132 : decode cX6_state 132 = .ok (.iconst 0, 1) := by decide +kernel
theorem dX6_state_133 : decode cX6_state 133 = .ok (.invokevirtual 105, 3) := by decide +kernel
theorem dX6_state_136 : decode cX6_state 136 = .ok (.ireturn, 1) := by decide +kernel
theorem dX6_state_137 : decode cX6_state 137 = .ok (.aload_n 0, 1) := by decide +kernel
theorem dX6_state_138 : decode cX6_state 138 = .ok (.getfield 47, 3) := by decide +kernel
theorem dX6_state_141 : decode cX6_state 141 = .ok (.getfield 78, 3) := by decide +kernel
theorem dX6_state_144 : decode cX6_state 144 = .ok (.ifCond .ne 7, 3) := by decide +kernel
theorem dX6_state_147 : decode cX6_state 147 = .ok (.iconst 0, 1) := by decide +kernel
theorem dX6_state_148 : decode cX6_state 148 = .ok (.goto 21, 3) := by decide +kernel
theorem dX6_state_151 : decode cX6_state 151 = .ok (.aload_n 0, 1) := by decide +kernel
theorem dX6_state_152 : decode cX6_state 152 = .ok (.getfield 35, 3) := by decide +kernel
theorem dX6_state_155 : decode cX6_state 155 = .ok (.aload_n 0, 1) := by decide +kernel
theorem dX6_state_156 : decode cX6_state 156 = .ok (.getfield 47, 3) := by decide +kernel
theorem dX6_state_159 : decode cX6_state 159 = .ok (.aload_n 0, 1) := by decide +kernel
theorem dX6_state_160 : decode cX6_state 160 = .ok (.getfield 47, 3) := by decide +kernel
theorem dX6_state_163 : decode cX6_state 163 = .ok (.getfield 78, 3) := by decide +kernel
theorem dX6_state_166 : decode cX6_state 166 = .ok (.invokevirtual 105, 3) := by decide +kernel
theorem dX6_state_169 : decode cX6_state 169 = .ok (.ireturn, 1) := by decide +kernel
theorem dX6_state_170 : decode cX6_state 170 = .ok (.aload_n 0, 1) := by decide +kernel
theorem dX6_state_171 : decode cX6_state 171 = .ok (.getfield 47, 3) := by decide +kernel
theorem dX6_state_174 : decode cX6_state 174 = .ok (.getfield 109, 3) := by decide +kernel
theorem dX6_state_177 : decode cX6_state 177 = .ok (.aload_n 0, 1) := by decide +kernel
theorem dX6_state_178 : decode cX6_state 178 = .ok (.getfield 47, 3) := by decide +kernel
theorem dX6_state_181 : decode cX6_state 181 = .ok (.invokevirtual 113, 3) := by decide +kernel
theorem dX6_state_184 : decode cX6_state 184 = .ok (.invokestatic 117, 3) := by decide +kernel
theorem dX6_state_187 : decode cX6_state 187 = .ok (.ireturn, 1) := by decide +kernel
theorem dX6_state_188 : decode cX6_state 188 = .ok (.aload_n 0, 1) := by decide +kernel
theorem dX6_state_189 : decode cX6_state 189 = .ok (.getfield 47, 3) := by decide +kernel
theorem dX6_state_192 : decode cX6_state 192 = .ok (.invokevirtual 121, 3) := by decide +kernel
theorem dX6_state_195 : decode cX6_state 195 = .ok (.ireturn, 1) := by decide +kernel
theorem dX6_cell_0 : decode cX6_cell 0 = .ok (.aload_n 0, 1) := by decide +kernel
theorem dX6_cell_1 : decode cX6_cell 1 = .ok (.iload_n 1, 1) := by decide +kernel
theorem dX6_cell_2 : decode cX6_cell 2 = .ok (.invokevirtual 132, 3) := by decide +kernel
theorem dX6_cell_5 : decode cX6_cell 5 = .ok (.aload_n 0, 1) := by decide +kernel
theorem dX6_cell_6 : decode cX6_cell 6 = .ok (.iload_n 2, 1) := by decide +kernel
theorem dX6_cell_7 : decode cX6_cell 7 = .ok (.iload_n 3, 1) := by decide +kernel
theorem dX6_cell_8 : decode cX6_cell 8 = .ok (.invokevirtual 177, 3) := by decide +kernel
theorem dX6_cell_11 : decode cX6_cell 11 = .ok (.iload 4, 2) := by decide +kernel
theorem dX6_cell_13 : decode cX6_cell 13 = .ok (.ifCond .lt 9, 3) := by decide +kernel
theorem dX6_cell_16 : decode cX6_cell 16 = .ok (.iload 4, 2) := by decide +kernel
theorem dX6_cell_18 : decode cX6_cell 18 = .ok (.iconst 4, 1) := by decide +kernel
theorem dX6_cell_19 : decode cX6_cell 19 = .ok (.if_icmp .le 13, 3) := by decide +kernel
theorem dX6_cell_22 : decode cX6_cell 22 = .ok (.new 81, 3) := by decide +kernel
theorem dX6_cell_25 : decode cX6_cell 25 = .ok (.dup, 1) := by decide +kernel
theorem dX6_cell_26 : decode cX6_cell 26 = .ok (.ldc 181, 2) := by decide +kernel
theorem dX6_cell_28 : decode cX6_cell 28 = .ok (.invokespecial 85, 3) := by decide +kernel
theorem dX6_cell_31 : decode cX6_cell 31 = .ok (.athrow, 1) := by decide +kernel
theorem dX6_cell_32 : decode cX6_cell 32 = .ok (.aload_n 0, 1) := by decide +kernel
theorem dX6_cell_33 : decode cX6_cell 33 = .ok (.getfield 35, 3) := by decide +kernel
theorem dX6_cell_36 : decode cX6_cell 36 = .ok (.aload_n 0, 1) := by decide +kernel
theorem dX6_cell_37 : decode cX6_cell 37 = .ok (.getfield 47, 3) := by decide +kernel
theorem dX6_cell_40 : decode cX6_cell 40 = .ok (.invokevirtual 88, 3) := by decide +kernel
theorem dX6_cell_43 : decode cX6_cell 43 = .ok (.aload_n 0, 1) := by decide +kernel
theorem dX6_cell_44 : decode cX6_cell 44 = .ok (.getfield 47, 3) := by decide +kernel
theorem dX6_cell_47 : decode cX6_cell 47 = .ok (.iload_n 2, 1) := by decide +kernel
theorem dX6_cell_48 : decode cX6_cell 48 = .ok (.iload_n 3, 1) := by decide +kernel
theorem dX6_cell_49 : decode cX6_cell 49 = .ok (.invokevirtual 183, 3) := by decide +kernel
theorem dX6_cell_52 : decode cX6_cell 52 = .ok (.istore 5, 2) := by decide +kernel
theorem dX6_cell_54 : decode cX6_cell 54 = .ok (.iload 4, 2) := by decide +kernel
theorem dX6_cell_56 : decode cX6_cell 56 = .ok (.tableswitch 102 0 3 #[32, 47, 60, 79], 32) := by decide +kernel
theorem dX6_cell_88 : decode cX6_cell 88 = .ok (.aload_n 0, 1) := by decide +kernel
theorem dX6_cell_89 : decode cX6_cell 89 = .ok (.getfield 35, 3) := by decide +kernel
theorem dX6_cell_92 : decode cX6_cell 92 = .ok (.aload_n 0, 1) := by decide +kernel
theorem dX6_cell_93 : decode cX6_cell 93 = .ok (.getfield 47, 3) := by decide +kernel
theorem dX6_cell_96 : decode cX6_cell 96 = .ok (.iload_n 1, 1) := by decide +kernel
theorem dX6_cell_97 : decode cX6_cell 97 = .ok (.iload_n 2, 1) := by decide +kernel
theorem dX6_cell_98 : decode cX6_cell 98 = .ok (.iload_n 3, 1) := by decide +kernel
theorem dX6_cell_99 : decode cX6_cell 99 = .ok (.invokevirtual 186, 3) := by decide +kernel
theorem dX6_cell_102 : decode cX6_cell 102 = .ok (.ireturn, 1) := by decide +kernel
theorem dX6_cell_103 : decode cX6_cell 103 = .ok (.aload_n 0, 1) := by decide +kernel
theorem dX6_cell_104 : decode cX6_cell 104 = .ok (.getfield 35, 3) := by decide +kernel
theorem dX6_cell_107 : decode cX6_cell 107 = .ok (.getfield 174, 3) := by decide +kernel
theorem dX6_cell_110 : decode cX6_cell 110 = .ok (.iload_n 1, 1) := by decide +kernel
theorem dX6_cell_111 : decode cX6_cell 111 = .ok (.aaload, 1) := by decide +kernel
theorem dX6_cell_112 : decode cX6_cell 112 = .ok (.iload 5, 2) := by decide +kernel
theorem dX6_cell_114 : decode cX6_cell 114 = .ok (.iaload, 1) := by decide +kernel
theorem dX6_cell_115 : decode cX6_cell 115 = .ok (.ireturn, 1) := by decide +kernel
theorem dX6_cell_116 : decode cX6_cell 116 = .ok (.aload_n 0, 1) := by decide +kernel
theorem dX6_cell_117 : decode cX6_cell 117 = .ok (.getfield 35, 3) := by decide +kernel
theorem dX6_cell_120 : decode cX6_cell 120 = .ok (.iload_n 1, 1) := by decide +kernel
theorem dX6_cell_121 : decode cX6_cell 121 = .ok (.iload 5, 2) := by decide +kernel
theorem dX6_cell_123 : decode cX6_cell 123 = .ok (.invokevirtual 190, 3) := by decide +kernel
theorem dX6_cell_126 : decode cX6_cell 126 = .ok (.ifCond .eq 7, 3) := by decide +kernel
theorem dX6_cell_129 : decode cX6_cell 129 = .ok (.iconst 1, 1) := by decide +kernel
theorem dX6_cell_130 : decode cX6_cell 130 = .ok (.goto 4, 3) := by decide +kernel
theorem dX6_cell_133 : decode cX6_cell 133 = .ok (.iconst 0, 1) := by decide +kernel
theorem dX6_cell_134 : decode cX6_cell 134 = .ok (.ireturn, 1) := by decide +kernel
theorem dX6_cell_135 : decode cX6_cell 135 = .ok (.aload_n 0, 1) := by decide +kernel
theorem dX6_cell_136 : decode cX6_cell 136 = .ok (.getfield 35, 3) := by decide +kernel
theorem dX6_cell_139 : decode cX6_cell 139 = .ok (.aload_n 0, 1) := by decide +kernel
theorem dX6_cell_140 : decode cX6_cell 140 = .ok (.getfield 47, 3) := by decide +kernel
theorem dX6_cell_143 : decode cX6_cell 143 = .ok (.iload_n 1, 1) := by decide +kernel
theorem dX6_cell_144 : decode cX6_cell 144 = .ok (.iload_n 2, 1) := by decide +kernel
theorem dX6_cell_145 : decode cX6_cell 145 = .ok (.iload_n 3, 1) := by decide +kernel
theorem dX6_cell_146 : decode cX6_cell 146 = .ok (.invokevirtual 194, 3) := by decide +kernel
theorem dX6_cell_149 : decode cX6_cell 149 = .ok (.ifCond .eq 7, 3) := by decide +kernel
theorem dX6_cell_152 : decode cX6_cell 152 = .ok (.iconst 1, 1) := by decide +kernel
theorem dX6_cell_153 : decode cX6_cell 153 = .ok (.goto 4, 3) := by decide +kernel
theorem dX6_cell_156 : decode cX6_cell 156 = .ok (.iconst 0, 1) := by decide +kernel
theorem dX6_cell_157 : decode cX6_cell 157 = .ok (.ireturn, 1) := by decide +kernel
theorem dX6_cell_158 : decode cX6_cell 158 = .ok (.aload_n 0, 1) := by decide +kernel
theorem dX6_cell_159 : decode cX6_cell 159 = .ok (.getfield 47, 3) := by decide +kernel
theorem dX6_cell_162 : decode cX6_cell 162 = .ok (.iload_n 1, 1) := by decide +kernel
theorem dX6_cell_163 : decode cX6_cell 163 = .ok (.iload 5, 2) := by decide +kernel
theorem dX6_cell_165 : decode cX6_cell 165 = .ok (.invokevirtual 198, 3) := by decide +kernel
theorem dX6_cell_168 : decode cX6_cell 168 = .ok (.ifCond .eq 7, 3) := by decide +kernel
theorem dX6_cell_171 : decode cX6_cell 171 = .ok (.iconst 1, 1) := by decide +kernel
theorem dX6_cell_172 : decode cX6_cell 172 = .ok (.goto 4, 3) := by decide +kernel
theorem dX6_cell_175 : decode cX6_cell 175 = .ok (.iconst 0, 1) := by decide +kernel
theorem dX6_cell_176 : decode cX6_cell 176 = .ok (.ireturn, 1) := by decide +kernel
theorem dX6_tone_0 : decode cX6_tone 0 = .ok (.aload_n 0, 1) := by decide +kernel
theorem dX6_tone_1 : decode cX6_tone 1 = .ok (.iload_n 1, 1) := by decide +kernel
theorem dX6_tone_2 : decode cX6_tone 2 = .ok (.iload_n 2, 1) := by decide +kernel
theorem dX6_tone_3 : decode cX6_tone 3 = .ok (.invokevirtual 177, 3) := by decide +kernel
theorem dX6_tone_6 : decode cX6_tone 6 = .ok (.aload_n 0, 1) := by decide +kernel
theorem dX6_tone_7 : decode cX6_tone 7 = .ok (.getfield 47, 3) := by decide +kernel
theorem dX6_tone_10 : decode cX6_tone 10 = .ok (.getfield 109, 3) := by decide +kernel
theorem dX6_tone_13 : decode cX6_tone 13 = .ok (.aload_n 0, 1) := by decide +kernel
theorem dX6_tone_14 : decode cX6_tone 14 = .ok (.getfield 47, 3) := by decide +kernel
theorem dX6_tone_17 : decode cX6_tone 17 = .ok (.iload_n 1, 1) := by decide +kernel
theorem dX6_tone_18 : decode cX6_tone 18 = .ok (.iload_n 2, 1) := by decide +kernel
theorem dX6_tone_19 : decode cX6_tone 19 = .ok (.invokevirtual 183, 3) := by decide +kernel
theorem dX6_tone_22 : decode cX6_tone 22 = .ok (.iaload, 1) := by decide +kernel
theorem dX6_tone_23 : decode cX6_tone 23 = .ok (.ireturn, 1) := by decide +kernel
theorem dX6_inks_0 : decode cX6_inks 0 = .ok (.aload_n 0, 1) := by decide +kernel
theorem dX6_inks_1 : decode cX6_inks 1 = .ok (.iload_n 1, 1) := by decide +kernel
theorem dX6_inks_2 : decode cX6_inks 2 = .ok (.iload_n 2, 1) := by decide +kernel
theorem dX6_inks_3 : decode cX6_inks 3 = .ok (.invokevirtual 177, 3) := by decide +kernel
theorem dX6_inks_6 : decode cX6_inks 6 = .ok (.aload_n 0, 1) := by decide +kernel
theorem dX6_inks_7 : decode cX6_inks 7 = .ok (.getfield 35, 3) := by decide +kernel
theorem dX6_inks_10 : decode cX6_inks 10 = .ok (.aload_n 0, 1) := by decide +kernel
theorem dX6_inks_11 : decode cX6_inks 11 = .ok (.getfield 47, 3) := by decide +kernel
theorem dX6_inks_14 : decode cX6_inks 14 = .ok (.invokevirtual 88, 3) := by decide +kernel
theorem dX6_inks_17 : decode cX6_inks 17 = .ok (.aload_n 0, 1) := by decide +kernel
theorem dX6_inks_18 : decode cX6_inks 18 = .ok (.getfield 35, 3) := by decide +kernel
theorem dX6_inks_21 : decode cX6_inks 21 = .ok (.getfield 201, 3) := by decide +kernel
theorem dX6_inks_24 : decode cX6_inks 24 = .ok (.aload_n 0, 1) := by decide +kernel
theorem dX6_inks_25 : decode cX6_inks 25 = .ok (.getfield 47, 3) := by decide +kernel
theorem dX6_inks_28 : decode cX6_inks 28 = .ok (.iload_n 1, 1) := by decide +kernel
theorem dX6_inks_29 : decode cX6_inks 29 = .ok (.iload_n 2, 1) := by decide +kernel
theorem dX6_inks_30 : decode cX6_inks 30 = .ok (.invokevirtual 183, 3) := by decide +kernel
theorem dX6_inks_33 : decode cX6_inks 33 = .ok (.iaload, 1) := by decide +kernel
theorem dX6_inks_34 : decode cX6_inks 34 = .ok (.ireturn, 1) := by decide +kernel
theorem dX6_why_0 : decode cX6_why 0 = .ok (.aload_n 0, 1) := by decide +kernel
theorem dX6_why_1 : decode cX6_why 1 = .ok (.iload_n 1, 1) := by decide +kernel
theorem dX6_why_2 : decode cX6_why 2 = .ok (.invokevirtual 132, 3) := by decide +kernel
theorem dX6_why_5 : decode cX6_why 5 = .ok (.aload_n 0, 1) := by decide +kernel
theorem dX6_why_6 : decode cX6_why 6 = .ok (.iload_n 2, 1) := by decide +kernel
theorem dX6_why_7 : decode cX6_why 7 = .ok (.iload_n 3, 1) := by decide +kernel
theorem dX6_why_8 : decode cX6_why 8 = .ok (.invokevirtual 177, 3) := by decide +kernel
theorem dX6_why_11 : decode cX6_why 11 = .ok (.aload_n 0, 1) := by decide +kernel
theorem dX6_why_12 : decode cX6_why 12 = .ok (.getfield 35, 3) := by decide +kernel
theorem dX6_why_15 : decode cX6_why 15 = .ok (.aload_n 0, 1) := by decide +kernel
theorem dX6_why_16 : decode cX6_why 16 = .ok (.getfield 47, 3) := by decide +kernel
theorem dX6_why_19 : decode cX6_why 19 = .ok (.invokevirtual 88, 3) := by decide +kernel
theorem dX6_why_22 : decode cX6_why 22 = .ok (.aload_n 0, 1) := by decide +kernel
theorem dX6_why_23 : decode cX6_why 23 = .ok (.getfield 47, 3) := by decide +kernel
theorem dX6_why_26 : decode cX6_why 26 = .ok (.iload_n 2, 1) := by decide +kernel
theorem dX6_why_27 : decode cX6_why 27 = .ok (.iload_n 3, 1) := by decide +kernel
theorem dX6_why_28 : decode cX6_why 28 = .ok (.invokevirtual 183, 3) := by decide +kernel
theorem dX6_why_31 : decode cX6_why 31 = .ok (.istore 4, 2) := by decide +kernel
theorem dX6_why_33 : decode cX6_why 33 = .ok (.aload_n 0, 1) := by decide +kernel
theorem dX6_why_34 : decode cX6_why 34 = .ok (.getfield 35, 3) := by decide +kernel
theorem dX6_why_37 : decode cX6_why 37 = .ok (.iload_n 1, 1) := by decide +kernel
theorem dX6_why_38 : decode cX6_why 38 = .ok (.iload 4, 2) := by decide +kernel
theorem dX6_why_40 : decode cX6_why 40 = .ok (.invokevirtual 190, 3) := by decide +kernel
theorem dX6_why_43 : decode cX6_why 43 = .ok (.ifCond .eq 5, 3) := by decide +kernel
theorem dX6_why_46 : decode cX6_why 46 = .ok (.iconst 0, 1) := by decide +kernel
theorem dX6_why_47 : decode cX6_why 47 = .ok (.ireturn, 1) := by decide +kernel
theorem dX6_why_48 : decode cX6_why 48 = .ok (.aload_n 0, 1) := by decide +kernel
theorem dX6_why_49 : decode cX6_why 49 = .ok (.getfield 47, 3) := by decide +kernel
theorem dX6_why_52 : decode cX6_why 52 = .ok (.iload_n 1, 1) := by decide +kernel
theorem dX6_why_53 : decode cX6_why 53 = .ok (.iload 4, 2) := by decide +kernel
theorem dX6_why_55 : decode cX6_why 55 = .ok (.invokevirtual 198, 3) := by decide +kernel
theorem dX6_why_58 : decode cX6_why 58 = .ok (.ifCond .eq 5, 3) := by decide +kernel
theorem dX6_why_61 : decode cX6_why 61 = .ok (.iconst 1, 1) := by decide +kernel
theorem dX6_why_62 : decode cX6_why 62 = .ok (.ireturn, 1) := by decide +kernel
theorem dX6_why_63 : decode cX6_why 63 = .ok (.aload_n 0, 1) := by decide +kernel
theorem dX6_why_64 : decode cX6_why 64 = .ok (.getfield 35, 3) := by decide +kernel
theorem dX6_why_67 : decode cX6_why 67 = .ok (.aload_n 0, 1) := by decide +kernel
theorem dX6_why_68 : decode cX6_why 68 = .ok (.getfield 47, 3) := by decide +kernel
theorem dX6_why_71 : decode cX6_why 71 = .ok (.iload_n 1, 1) := by decide +kernel
theorem dX6_why_72 : decode cX6_why 72 = .ok (.iload_n 2, 1) := by decide +kernel
theorem dX6_why_73 : decode cX6_why 73 = .ok (.iload_n 3, 1) := by decide +kernel
theorem dX6_why_74 : decode cX6_why 74 = .ok (.invokevirtual 204, 3) := by decide +kernel
theorem dX6_why_77 : decode cX6_why 77 = .ok (.ifCond .eq 7, 3) := by decide +kernel
theorem dX6_why_80 : decode cX6_why 80 = .ok (.iconst 3, 1) := by decide +kernel
theorem dX6_why_81 : decode cX6_why 81 = .ok (.goto 4, 3) := by decide +kernel
theorem dX6_why_84 : decode cX6_why 84 = .ok (.iconst 2, 1) := by decide +kernel
theorem dX6_why_85 : decode cX6_why 85 = .ok (.ireturn, 1) := by decide +kernel
theorem dX6_paint_0 : decode cX6_paint 0 = .ok (.aload_n 0, 1) := by decide +kernel
theorem dX6_paint_1 : decode cX6_paint 1 = .ok (.iload_n 1, 1) := by decide +kernel
theorem dX6_paint_2 : decode cX6_paint 2 = .ok (.iload_n 2, 1) := by decide +kernel
theorem dX6_paint_3 : decode cX6_paint 3 = .ok (.invokevirtual 177, 3) := by decide +kernel
theorem dX6_paint_6 : decode cX6_paint 6 = .ok (.iload_n 3, 1) := by decide +kernel
theorem dX6_paint_7 : decode cX6_paint 7 = .ok (.iconst 1, 1) := by decide +kernel
theorem dX6_paint_8 : decode cX6_paint 8 = .ok (.if_icmp .lt 36, 3) := by decide +kernel
theorem dX6_paint_11 : decode cX6_paint 11 = .ok (.iload 4, 2) := by decide +kernel
theorem dX6_paint_13 : decode cX6_paint 13 = .ok (.iconst 1, 1) := by decide +kernel
theorem dX6_paint_14 : decode cX6_paint 14 = .ok (.if_icmp .lt 30, 3) := by decide +kernel
theorem dX6_paint_17 : decode cX6_paint 17 = .ok (.iload_n 3, 1) := by decide +kernel
theorem dX6_paint_18 : decode cX6_paint 18 = .ok (.aload_n 0, 1) := by decide +kernel
theorem dX6_paint_19 : decode cX6_paint 19 = .ok (.getfield 47, 3) := by decide +kernel
theorem dX6_paint_22 : decode cX6_paint 22 = .ok (.getfield 92, 3) := by decide +kernel
theorem dX6_paint_25 : decode cX6_paint 25 = .ok (.iload_n 1, 1) := by decide +kernel
theorem dX6_paint_26 : decode cX6_paint 26 = .ok (.isub, 1) := by decide +kernel
theorem dX6_paint_27 : decode cX6_paint 27 = .ok (.if_icmp .gt 17, 3) := by decide +kernel
theorem dX6_paint_30 : decode cX6_paint 30 = .ok (.iload 4, 2) := by decide +kernel
theorem dX6_paint_32 : decode cX6_paint 32 = .ok (.aload_n 0, 1) := by decide +kernel
theorem dX6_paint_33 : decode cX6_paint 33 = .ok (.getfield 47, 3) := by decide +kernel
theorem dX6_paint_36 : decode cX6_paint 36 = .ok (.getfield 95, 3) := by decide +kernel
theorem dX6_paint_39 : decode cX6_paint 39 = .ok (.iload_n 2, 1) := by decide +kernel
theorem dX6_paint_40 : decode cX6_paint 40 = .ok (.isub, 1) := by decide +kernel
theorem dX6_paint_41 : decode cX6_paint 41 = .ok (.if_icmp .le 13, 3) := by decide +kernel
theorem dX6_paint_44 : decode cX6_paint 44 = .ok (.new 81, 3) := by decide +kernel
theorem dX6_paint_47 : decode cX6_paint 47 = .ok (.dup, 1) := by decide +kernel
theorem dX6_paint_48 : decode cX6_paint 48 = .ok (.ldc 232, 2) := by decide +kernel
theorem dX6_paint_50 : decode cX6_paint 50 = .ok (.invokespecial 85, 3) := by decide +kernel
theorem dX6_paint_53 : decode cX6_paint 53 = .ok (.athrow, 1) := by decide +kernel
theorem dX6_paint_54 : decode cX6_paint 54 = .ok (.iload 5, 2) := by decide +kernel
theorem dX6_paint_56 : decode cX6_paint 56 = .ok (.ifCond .lt 10, 3) := by decide +kernel
theorem dX6_paint_59 : decode cX6_paint 59 = .ok (.iload 5, 2) := by decide +kernel
theorem dX6_paint_61 : decode cX6_paint 61 = .ok (.bipush 100, 2) := by decide +kernel
theorem dX6_paint_63 : decode cX6_paint 63 = .ok (.if_icmp .le 13, 3) := by decide +kernel
theorem dX6_paint_66 : decode cX6_paint 66 = .ok (.new 81, 3) := by decide +kernel
theorem dX6_paint_69 : decode cX6_paint 69 = .ok (.dup, 1) := by decide +kernel
theorem dX6_paint_70 : decode cX6_paint 70 = .ok (.ldc 234, 2) := by decide +kernel
theorem dX6_paint_72 : decode cX6_paint 72 = .ok (.invokespecial 85, 3) := by decide +kernel
theorem dX6_paint_75 : decode cX6_paint 75 = .ok (.athrow, 1) := by decide +kernel
theorem dX6_paint_76 : decode cX6_paint 76 = .ok (.aload_n 0, 1) := by decide +kernel
theorem dX6_paint_77 : decode cX6_paint 77 = .ok (.invokevirtual 236, 3) := by decide +kernel
theorem dX6_paint_80 : decode cX6_paint 80 = .ok (.iload_n 2, 1) := by decide +kernel
theorem dX6_paint_81 : decode cX6_paint 81 = .ok (.istore 6, 2) := by decide +kernel
theorem dX6_paint_83 : decode cX6_paint 83 = .ok (.iload 6, 2) := by decide +kernel
theorem dX6_paint_85 : decode cX6_paint 85 = .ok (.iload_n 2, 1) := by decide +kernel
theorem dX6_paint_86 : decode cX6_paint 86 = .ok (.iload 4, 2) := by decide +kernel
theorem dX6_paint_88 : decode cX6_paint 88 = .ok (.iadd, 1) := by decide +kernel
theorem dX6_paint_89 : decode cX6_paint 89 = .ok (.if_icmp .ge 47, 3) := by decide +kernel
theorem dX6_paint_92 : decode cX6_paint 92 = .ok (.iload_n 1, 1) := by decide +kernel
theorem dX6_paint_93 : decode cX6_paint 93 = .ok (.istore 7, 2) := by decide +kernel
theorem dX6_paint_95 : decode cX6_paint 95 = .ok (.iload 7, 2) := by decide +kernel
theorem dX6_paint_97 : decode cX6_paint 97 = .ok (.iload_n 1, 1) := by decide +kernel
theorem dX6_paint_98 : decode cX6_paint 98 = .ok (.iload_n 3, 1) := by decide +kernel
theorem dX6_paint_99 : decode cX6_paint 99 = .ok (.iadd, 1) := by decide +kernel
theorem dX6_paint_100 : decode cX6_paint 100 = .ok (.if_icmp .ge 30, 3) := by decide +kernel
theorem dX6_paint_103 : decode cX6_paint 103 = .ok (.aload_n 0, 1) := by decide +kernel
theorem dX6_paint_104 : decode cX6_paint 104 = .ok (.getfield 47, 3) := by decide +kernel
theorem dX6_paint_107 : decode cX6_paint 107 = .ok (.getfield 109, 3) := by decide +kernel
theorem dX6_paint_110 : decode cX6_paint 110 = .ok (.aload_n 0, 1) := by decide +kernel
theorem dX6_paint_111 : decode cX6_paint 111 = .ok (.getfield 47, 3) := by decide +kernel
theorem dX6_paint_114 : decode cX6_paint 114 = .ok (.iload 7, 2) := by decide +kernel
theorem dX6_paint_116 : decode cX6_paint 116 = .ok (.iload 6, 2) := by decide +kernel
theorem dX6_paint_118 : decode cX6_paint 118 = .ok (.invokevirtual 183, 3) := by decide +kernel
theorem dX6_paint_121 : decode cX6_paint 121 = .ok (.iload 5, 2) := by decide +kernel
theorem dX6_paint_123 : decode cX6_paint 123 = .ok (.iastore, 1) := by decide +kernel
theorem dX6_paint_124 : decode cX6_paint 124 = .ok (.iinc 7 1, 3) := by decide +kernel
theorem dX6_paint_127 : decode cX6_paint 127 = .ok (.goto (-32), 3) := by decide +kernel
theorem dX6_paint_130 : decode cX6_paint 130 = .ok (.iinc 6 1, 3) := by decide +kernel
theorem dX6_paint_133 : decode cX6_paint 133 = .ok (.goto (-50), 3) := by decide +kernel
theorem dX6_paint_136 : decode cX6_paint 136 = .ok (.aload_n 0, 1) := by decide +kernel
theorem dX6_paint_137 : decode cX6_paint 137 = .ok (.getfield 35, 3) := by decide +kernel
theorem dX6_paint_140 : decode cX6_paint 140 = .ok (.invokevirtual 75, 3) := by decide +kernel
theorem dX6_paint_143 : decode cX6_paint 143 = .ok (.aload_n 0, 1) := by decide +kernel
theorem dX6_paint_144 : decode cX6_paint 144 = .ok (.getfield 35, 3) := by decide +kernel
theorem dX6_paint_147 : decode cX6_paint 147 = .ok (.aload_n 0, 1) := by decide +kernel
theorem dX6_paint_148 : decode cX6_paint 148 = .ok (.getfield 47, 3) := by decide +kernel
theorem dX6_paint_151 : decode cX6_paint 151 = .ok (.invokevirtual 88, 3) := by decide +kernel
theorem dX6_paint_154 : decode cX6_paint 154 = .ok (.aload_n 0, 1) := by decide +kernel
theorem dX6_paint_155 : decode cX6_paint 155 = .ok (.getfield 35, 3) := by decide +kernel
theorem dX6_paint_158 : decode cX6_paint 158 = .ok (.aload_n 0, 1) := by decide +kernel
theorem dX6_paint_159 : decode cX6_paint 159 = .ok (.getfield 47, 3) := by decide +kernel
theorem dX6_paint_162 : decode cX6_paint 162 = .ok (.invokevirtual 101, 3) := by decide +kernel
theorem dX6_paint_165 : decode cX6_paint 165 = .ok (.ireturn, 1) := by decide +kernel
theorem dX6_shape_0 : decode cX6_shape 0 = .ok (.aload_n 0, 1) := by decide +kernel
theorem dX6_shape_1 : decode cX6_shape 1 = .ok (.iload_n 1, 1) := by decide +kernel
theorem dX6_shape_2 : decode cX6_shape 2 = .ok (.invokevirtual 132, 3) := by decide +kernel
theorem dX6_shape_5 : decode cX6_shape 5 = .ok (.iload_n 2, 1) := by decide +kernel
theorem dX6_shape_6 : decode cX6_shape 6 = .ok (.ifCond .lt 8, 3) := by decide +kernel
theorem dX6_shape_9 : decode cX6_shape 9 = .ok (.iload_n 2, 1) := by decide +kernel
theorem dX6_shape_10 : decode cX6_shape 10 = .ok (.iconst 3, 1) := by decide +kernel
theorem dX6_shape_11 : decode cX6_shape 11 = .ok (.if_icmp .le 13, 3) := by decide +kernel
theorem dX6_shape_14 : decode cX6_shape 14 = .ok (.new 81, 3) := by decide +kernel
theorem dX6_shape_17 : decode cX6_shape 17 = .ok (.dup, 1) := by decide +kernel
theorem dX6_shape_18 : decode cX6_shape 18 = .ok (.ldc 241, 2) := by decide +kernel
theorem dX6_shape_20 : decode cX6_shape 20 = .ok (.invokespecial 85, 3) := by decide +kernel
theorem dX6_shape_23 : decode cX6_shape 23 = .ok (.athrow, 1) := by decide +kernel
theorem dX6_shape_24 : decode cX6_shape 24 = .ok (.aload_n 0, 1) := by decide +kernel
theorem dX6_shape_25 : decode cX6_shape 25 = .ok (.invokevirtual 236, 3) := by decide +kernel
theorem dX6_shape_28 : decode cX6_shape 28 = .ok (.aload_n 0, 1) := by decide +kernel
theorem dX6_shape_29 : decode cX6_shape 29 = .ok (.getfield 47, 3) := by decide +kernel
theorem dX6_shape_32 : decode cX6_shape 32 = .ok (.getfield 137, 3) := by decide +kernel
theorem dX6_shape_35 : decode cX6_shape 35 = .ok (.iload_n 1, 1) := by decide +kernel
theorem dX6_shape_36 : decode cX6_shape 36 = .ok (.aaload, 1) := by decide +kernel
theorem dX6_shape_37 : decode cX6_shape 37 = .ok (.getfield 152, 3) := by decide +kernel
theorem dX6_shape_40 : decode cX6_shape 40 = .ok (.istore_n 3, 1) := by decide +kernel
theorem dX6_shape_41 : decode cX6_shape 41 = .ok (.aload_n 0, 1) := by decide +kernel
theorem dX6_shape_42 : decode cX6_shape 42 = .ok (.getfield 47, 3) := by decide +kernel
theorem dX6_shape_45 : decode cX6_shape 45 = .ok (.getfield 137, 3) := by decide +kernel
theorem dX6_shape_48 : decode cX6_shape 48 = .ok (.iload_n 1, 1) := by decide +kernel
theorem dX6_shape_49 : decode cX6_shape 49 = .ok (.aaload, 1) := by decide +kernel
theorem dX6_shape_50 : decode cX6_shape 50 = .ok (.iload_n 2, 1) := by decide +kernel
theorem dX6_shape_51 : decode cX6_shape 51 = .ok (.putfield 152, 3) := by decide +kernel
theorem dX6_shape_54 : decode cX6_shape 54 = .ok (.iload_n 3, 1) := by decide +kernel
theorem dX6_shape_55 : decode cX6_shape 55 = .ok (.ireturn, 1) := by decide +kernel
theorem dX6_shift_0 : decode cX6_shift 0 = .ok (.aload_n 0, 1) := by decide +kernel
theorem dX6_shift_1 : decode cX6_shift 1 = .ok (.iload_n 1, 1) := by decide +kernel
theorem dX6_shift_2 : decode cX6_shift 2 = .ok (.invokevirtual 132, 3) := by decide +kernel
theorem dX6_shift_5 : decode cX6_shift 5 = .ok (.iload_n 2, 1) := by decide +kernel
theorem dX6_shift_6 : decode cX6_shift 6 = .ok (.ifCond .lt 19, 3) := by decide +kernel
theorem dX6_shift_9 : decode cX6_shift 9 = .ok (.iload_n 2, 1) := by decide +kernel
theorem dX6_shift_10 : decode cX6_shift 10 = .ok (.bipush 17, 2) := by decide +kernel
theorem dX6_shift_12 : decode cX6_shift 12 = .ok (.if_icmp .gt 13, 3) := by decide +kernel
theorem dX6_shift_15 : decode cX6_shift 15 = .ok (.iload_n 3, 1) := by decide +kernel
theorem dX6_shift_16 : decode cX6_shift 16 = .ok (.ifCond .lt 9, 3) := by decide +kernel
theorem dX6_shift_19 : decode cX6_shift 19 = .ok (.iload_n 3, 1) := by decide +kernel
theorem dX6_shift_20 : decode cX6_shift 20 = .ok (.bipush 17, 2) := by decide +kernel
theorem dX6_shift_22 : decode cX6_shift 22 = .ok (.if_icmp .le 13, 3) := by decide +kernel
theorem dX6_shift_25 : decode cX6_shift 25 = .ok (.new 81, 3) := by decide +kernel
theorem dX6_shift_28 : decode cX6_shift 28 = .ok (.dup, 1) := by decide +kernel
theorem dX6_shift_29 : decode cX6_shift 29 = .ok (.ldc 243, 2) := by decide +kernel
theorem dX6_shift_31 : decode cX6_shift 31 = .ok (.invokespecial 85, 3) := by decide +kernel
theorem dX6_shift_34 : decode cX6_shift 34 = .ok (.athrow, 1) := by decide +kernel
theorem dX6_shift_35 : decode cX6_shift 35 = .ok (.aload_n 0, 1) := by decide +kernel
theorem dX6_shift_36 : decode cX6_shift 36 = .ok (.invokevirtual 236, 3) := by decide +kernel
theorem dX6_shift_39 : decode cX6_shift 39 = .ok (.aload_n 0, 1) := by decide +kernel
theorem dX6_shift_40 : decode cX6_shift 40 = .ok (.getfield 47, 3) := by decide +kernel
theorem dX6_shift_43 : decode cX6_shift 43 = .ok (.getfield 137, 3) := by decide +kernel
theorem dX6_shift_46 : decode cX6_shift 46 = .ok (.iload_n 1, 1) := by decide +kernel
theorem dX6_shift_47 : decode cX6_shift 47 = .ok (.aaload, 1) := by decide +kernel
theorem dX6_shift_48 : decode cX6_shift 48 = .ok (.iload_n 2, 1) := by decide +kernel
theorem dX6_shift_49 : decode cX6_shift 49 = .ok (.putfield 155, 3) := by decide +kernel
theorem dX6_shift_52 : decode cX6_shift 52 = .ok (.aload_n 0, 1) := by decide +kernel
theorem dX6_shift_53 : decode cX6_shift 53 = .ok (.getfield 47, 3) := by decide +kernel
theorem dX6_shift_56 : decode cX6_shift 56 = .ok (.getfield 137, 3) := by decide +kernel
theorem dX6_shift_59 : decode cX6_shift 59 = .ok (.iload_n 1, 1) := by decide +kernel
theorem dX6_shift_60 : decode cX6_shift 60 = .ok (.aaload, 1) := by decide +kernel
theorem dX6_shift_61 : decode cX6_shift 61 = .ok (.iload_n 3, 1) := by decide +kernel
theorem dX6_shift_62 : decode cX6_shift 62 = .ok (.putfield 158, 3) := by decide +kernel
theorem dX6_shift_65 : decode cX6_shift 65 = .ok (.aload_n 0, 1) := by decide +kernel
theorem dX6_shift_66 : decode cX6_shift 66 = .ok (.getfield 35, 3) := by decide +kernel
theorem dX6_shift_69 : decode cX6_shift 69 = .ok (.aload_n 0, 1) := by decide +kernel
theorem dX6_shift_70 : decode cX6_shift 70 = .ok (.getfield 47, 3) := by decide +kernel
theorem dX6_shift_73 : decode cX6_shift 73 = .ok (.invokevirtual 88, 3) := by decide +kernel
theorem dX6_shift_76 : decode cX6_shift 76 = .ok (.aload_n 0, 1) := by decide +kernel
theorem dX6_shift_77 : decode cX6_shift 77 = .ok (.getfield 35, 3) := by decide +kernel
theorem dX6_shift_80 : decode cX6_shift 80 = .ok (.aload_n 0, 1) := by decide +kernel
theorem dX6_shift_81 : decode cX6_shift 81 = .ok (.getfield 47, 3) := by decide +kernel
theorem dX6_shift_84 : decode cX6_shift 84 = .ok (.invokevirtual 101, 3) := by decide +kernel
theorem dX6_shift_87 : decode cX6_shift 87 = .ok (.ireturn, 1) := by decide +kernel
theorem dX6_limit_0 : decode cX6_limit 0 = .ok (.iload_n 1, 1) := by decide +kernel
theorem dX6_limit_1 : decode cX6_limit 1 = .ok (.iconst 1, 1) := by decide +kernel
theorem dX6_limit_2 : decode cX6_limit 2 = .ok (.if_icmp .lt 8, 3) := by decide +kernel
theorem dX6_limit_5 : decode cX6_limit 5 = .ok (.iload_n 1, 1) := by decide +kernel
theorem dX6_limit_6 : decode cX6_limit 6 = .ok (.iconst 4, 1) := by decide +kernel
theorem dX6_limit_7 : decode cX6_limit 7 = .ok (.if_icmp .le 13, 3) := by decide +kernel
theorem dX6_limit_10 : decode cX6_limit 10 = .ok (.new 81, 3) := by decide +kernel
theorem dX6_limit_13 : decode cX6_limit 13 = .ok (.dup, 1) := by decide +kernel
theorem dX6_limit_14 : decode cX6_limit 14 = .ok (.ldc 245, 2) := by decide +kernel
theorem dX6_limit_16 : decode cX6_limit 16 = .ok (.invokespecial 85, 3) := by decide +kernel
theorem dX6_limit_19 : decode cX6_limit 19 = .ok (.athrow, 1) := by decide +kernel
theorem dX6_limit_20 : decode cX6_limit 20 = .ok (.aload_n 0, 1) := by decide +kernel
theorem dX6_limit_21 : decode cX6_limit 21 = .ok (.invokevirtual 236, 3) := by decide +kernel
theorem dX6_limit_24 : decode cX6_limit 24 = .ok (.aload_n 0, 1) := by decide +kernel
theorem dX6_limit_25 : decode cX6_limit 25 = .ok (.getfield 47, 3) := by decide +kernel
theorem dX6_limit_28 : decode cX6_limit 28 = .ok (.getfield 98, 3) := by decide +kernel
theorem dX6_limit_31 : decode cX6_limit 31 = .ok (.istore_n 2, 1) := by decide +kernel
theorem dX6_limit_32 : decode cX6_limit 32 = .ok (.aload_n 0, 1) := by decide +kernel
theorem dX6_limit_33 : decode cX6_limit 33 = .ok (.getfield 47, 3) := by decide +kernel
theorem dX6_limit_36 : decode cX6_limit 36 = .ok (.iload_n 1, 1) := by decide +kernel
theorem dX6_limit_37 : decode cX6_limit 37 = .ok (.putfield 98, 3) := by decide +kernel
theorem dX6_limit_40 : decode cX6_limit 40 = .ok (.iload_n 2, 1) := by decide +kernel
theorem dX6_limit_41 : decode cX6_limit 41 = .ok (.ireturn, 1) := by decide +kernel
theorem dX6_undo_0 : decode cX6_undo 0 = .ok (.aload_n 0, 1) := by decide +kernel
theorem dX6_undo_1 : decode cX6_undo 1 = .ok (.getfield 29, 3) := by decide +kernel
theorem dX6_undo_4 : decode cX6_undo 4 = .ok (.iconst 1, 1) := by decide +kernel
theorem dX6_undo_5 : decode cX6_undo 5 = .ok (.if_icmp .ge 5, 3) := by decide +kernel
theorem dX6_undo_8 : decode cX6_undo 8 = .ok (.iconst (-1), 1) := by decide +kernel
theorem dX6_undo_9 : decode cX6_undo 9 = .ok (.ireturn, 1) := by decide +kernel
theorem dX6_undo_10 : decode cX6_undo 10 = .ok (.aload_n 0, 1) := by decide +kernel
theorem dX6_undo_11 : decode cX6_undo 11 = .ok (.dup, 1) := by decide +kernel
theorem dX6_undo_12 : decode cX6_undo 12 = .ok (.getfield 29, 3) := by decide +kernel
theorem dX6_undo_15 : decode cX6_undo 15 = .ok (.iconst 1, 1) := by decide +kernel
theorem dX6_undo_16 : decode cX6_undo 16 = .ok (.isub, 1) := by decide +kernel
theorem dX6_undo_17 : decode cX6_undo 17 = .ok (.putfield 29, 3) := by decide +kernel
theorem dX6_undo_20 : decode cX6_undo 20 = .ok (.aload_n 0, 1) := by decide +kernel
theorem dX6_undo_21 : decode cX6_undo 21 = .ok (.aload_n 0, 1) := by decide +kernel
theorem dX6_undo_22 : decode cX6_undo 22 = .ok (.getfield 26, 3) := by decide +kernel
theorem dX6_undo_25 : decode cX6_undo 25 = .ok (.bipush 10, 2) := by decide +kernel
theorem dX6_undo_27 : decode cX6_undo 27 = .ok (.iadd, 1) := by decide +kernel
theorem dX6_undo_28 : decode cX6_undo 28 = .ok (.iconst 1, 1) := by decide +kernel
theorem dX6_undo_29 : decode cX6_undo 29 = .ok (.isub, 1) := by decide +kernel
theorem dX6_undo_30 : decode cX6_undo 30 = .ok (.bipush 10, 2) := by decide +kernel
theorem dX6_undo_32 : decode cX6_undo 32 = .ok (.irem, 1) := by decide +kernel
theorem dX6_undo_33 : decode cX6_undo 33 = .ok (.putfield 26, 3) := by decide +kernel
theorem dX6_undo_36 : decode cX6_undo 36 = .ok (.aload_n 0, 1) := by decide +kernel
theorem dX6_undo_37 : decode cX6_undo 37 = .ok (.aload_n 0, 1) := by decide +kernel
theorem dX6_undo_38 : decode cX6_undo 38 = .ok (.getfield 22, 3) := by decide +kernel
theorem dX6_undo_41 : decode cX6_undo 41 = .ok (.aload_n 0, 1) := by decide +kernel
theorem dX6_undo_42 : decode cX6_undo 42 = .ok (.getfield 26, 3) := by decide +kernel
theorem dX6_undo_45 : decode cX6_undo 45 = .ok (.aaload, 1) := by decide +kernel
theorem dX6_undo_46 : decode cX6_undo 46 = .ok (.putfield 47, 3) := by decide +kernel
theorem dX6_undo_49 : decode cX6_undo 49 = .ok (.aload_n 0, 1) := by decide +kernel
theorem dX6_undo_50 : decode cX6_undo 50 = .ok (.getfield 35, 3) := by decide +kernel
theorem dX6_undo_53 : decode cX6_undo 53 = .ok (.invokevirtual 75, 3) := by decide +kernel
theorem dX6_undo_56 : decode cX6_undo 56 = .ok (.aload_n 0, 1) := by decide +kernel
theorem dX6_undo_57 : decode cX6_undo 57 = .ok (.getfield 29, 3) := by decide +kernel
theorem dX6_undo_60 : decode cX6_undo 60 = .ok (.ireturn, 1) := by decide +kernel
theorem dX6_appendWord_0 : decode cX6_appendWord 0 = .ok (.bipush 24, 2) := by decide +kernel
theorem dX6_appendWord_2 : decode cX6_appendWord 2 = .ok (.istore_n 2, 1) := by decide +kernel
theorem dX6_appendWord_3 : decode cX6_appendWord 3 = .ok (.iload_n 2, 1) := by decide +kernel
theorem dX6_appendWord_4 : decode cX6_appendWord 4 = .ok (.ifCond .lt 42, 3) := by decide +kernel
theorem dX6_appendWord_7 : decode cX6_appendWord 7 = .ok (.aload_n 0, 1) := by decide +kernel
theorem dX6_appendWord_8 : decode cX6_appendWord 8 = .ok (.getfield 13, 3) := by decide +kernel
theorem dX6_appendWord_11 : decode cX6_appendWord 11 = .ok (.sipush 600, 3) := by decide +kernel
theorem dX6_appendWord_14 : decode cX6_appendWord 14 = .ok (.if_icmp .ge 32, 3) := by decide +kernel
theorem dX6_appendWord_17 : decode cX6_appendWord 17 = .ok (.aload_n 0, 1) := by decide +kernel
theorem dX6_appendWord_18 : decode cX6_appendWord 18 = .ok (.getfield 9, 3) := by decide +kernel
theorem dX6_appendWord_21 : decode cX6_appendWord 21 = .ok (.aload_n 0, 1) := by decide +kernel
theorem dX6_appendWord_22 : decode cX6_appendWord 22 = .ok (.getfield 13, 3) := by decide +kernel
theorem dX6_appendWord_25 : decode cX6_appendWord 25 = .ok (.iload_n 1, 1) := by decide +kernel
theorem dX6_appendWord_26 : decode cX6_appendWord 26 = .ok (.iload_n 2, 1) := by decide +kernel
theorem dX6_appendWord_27 : decode cX6_appendWord 27 = .ok (.iushr, 1) := by decide +kernel
theorem dX6_appendWord_28 : decode cX6_appendWord 28 = .ok (.i2b, 1) := by decide +kernel
theorem dX6_appendWord_29 : decode cX6_appendWord 29 = .ok (.bastore, 1) := by decide +kernel
theorem dX6_appendWord_30 : decode cX6_appendWord 30 = .ok (.aload_n 0, 1) := by decide +kernel
theorem dX6_appendWord_31 : decode cX6_appendWord 31 = .ok (.dup, 1) := by decide +kernel
theorem dX6_appendWord_32 : decode cX6_appendWord 32 = .ok (.getfield 13, 3) := by decide +kernel
theorem dX6_appendWord_35 : decode cX6_appendWord 35 = .ok (.iconst 1, 1) := by decide +kernel
theorem dX6_appendWord_36 : decode cX6_appendWord 36 = .ok (.iadd, 1) := by decide +kernel
theorem dX6_appendWord_37 : decode cX6_appendWord 37 = .ok (.putfield 13, 3) := by decide +kernel
theorem dX6_appendWord_40 : decode cX6_appendWord 40 = .ok (.iinc 2 (-8), 3) := by decide +kernel
theorem dX6_appendWord_43 : decode cX6_appendWord 43 = .ok (.goto (-40), 3) := by decide +kernel
theorem dX6_appendWord_46 : decode cX6_appendWord 46 = .ok (.return_, 1) := by decide +kernel
theorem dX6_requireBuffered_0 : decode cX6_requireBuffered 0 = .ok (.iload_n 1, 1) := by decide +kernel
theorem dX6_requireBuffered_1 : decode cX6_requireBuffered 1 = .ok (.ifCond .lt 11, 3) := by decide +kernel
theorem dX6_requireBuffered_4 : decode cX6_requireBuffered 4 = .ok (.iload_n 1, 1) := by decide +kernel
theorem dX6_requireBuffered_5 : decode cX6_requireBuffered 5 = .ok (.aload_n 0, 1) := by decide +kernel
theorem dX6_requireBuffered_6 : decode cX6_requireBuffered 6 = .ok (.getfield 13, 3) := by decide +kernel
theorem dX6_requireBuffered_9 : decode cX6_requireBuffered 9 = .ok (.if_icmp .le 14, 3) := by decide +kernel
theorem dX6_requireBuffered_12 : decode cX6_requireBuffered 12 = .ok (.new 81, 3) := by decide +kernel
theorem dX6_requireBuffered_15 : decode cX6_requireBuffered 15 = .ok (.dup, 1) := by decide +kernel
theorem dX6_requireBuffered_16 : decode cX6_requireBuffered 16 = .ok (.ldc_w 272, 3) := by decide +kernel
theorem dX6_requireBuffered_19 : decode cX6_requireBuffered 19 = .ok (.invokespecial 85, 3) := by decide +kernel
theorem dX6_requireBuffered_22 : decode cX6_requireBuffered 22 = .ok (.athrow, 1) := by decide +kernel
theorem dX6_requireBuffered_23 : decode cX6_requireBuffered 23 = .ok (.return_, 1) := by decide +kernel
theorem dX6_requirePlate_0 : decode cX6_requirePlate 0 = .ok (.iload_n 1, 1) := by decide +kernel
theorem dX6_requirePlate_1 : decode cX6_requirePlate 1 = .ok (.ifCond .lt 14, 3) := by decide +kernel
theorem dX6_requirePlate_4 : decode cX6_requirePlate 4 = .ok (.iload_n 1, 1) := by decide +kernel
theorem dX6_requirePlate_5 : decode cX6_requirePlate 5 = .ok (.aload_n 0, 1) := by decide +kernel
theorem dX6_requirePlate_6 : decode cX6_requirePlate 6 = .ok (.getfield 47, 3) := by decide +kernel
theorem dX6_requirePlate_9 : decode cX6_requirePlate 9 = .ok (.getfield 78, 3) := by decide +kernel
theorem dX6_requirePlate_12 : decode cX6_requirePlate 12 = .ok (.if_icmp .lt 14, 3) := by decide +kernel
theorem dX6_requirePlate_15 : decode cX6_requirePlate 15 = .ok (.new 274, 3) := by decide +kernel
theorem dX6_requirePlate_18 : decode cX6_requirePlate 18 = .ok (.dup, 1) := by decide +kernel
theorem dX6_requirePlate_19 : decode cX6_requirePlate 19 = .ok (.ldc_w 276, 3) := by decide +kernel
theorem dX6_requirePlate_22 : decode cX6_requirePlate 22 = .ok (.invokespecial 278, 3) := by decide +kernel
theorem dX6_requirePlate_25 : decode cX6_requirePlate 25 = .ok (.athrow, 1) := by decide +kernel
theorem dX6_requirePlate_26 : decode cX6_requirePlate 26 = .ok (.return_, 1) := by decide +kernel
theorem dX6_requireCell_0 : decode cX6_requireCell 0 = .ok (.iload_n 1, 1) := by decide +kernel
theorem dX6_requireCell_1 : decode cX6_requireCell 1 = .ok (.ifCond .lt 29, 3) := by decide +kernel
theorem dX6_requireCell_4 : decode cX6_requireCell 4 = .ok (.iload_n 1, 1) := by decide +kernel
theorem dX6_requireCell_5 : decode cX6_requireCell 5 = .ok (.aload_n 0, 1) := by decide +kernel
theorem dX6_requireCell_6 : decode cX6_requireCell 6 = .ok (.getfield 47, 3) := by decide +kernel
theorem dX6_requireCell_9 : decode cX6_requireCell 9 = .ok (.getfield 92, 3) := by decide +kernel
theorem dX6_requireCell_12 : decode cX6_requireCell 12 = .ok (.if_icmp .ge 18, 3) := by decide +kernel
theorem dX6_requireCell_15 : decode cX6_requireCell 15 = .ok (.iload_n 2, 1) := by decide +kernel
theorem dX6_requireCell_16 : decode cX6_requireCell 16 = .ok (.ifCond .lt 14, 3) := by decide +kernel
theorem dX6_requireCell_19 : decode cX6_requireCell 19 = .ok (.iload_n 2, 1) := by decide +kernel
theorem dX6_requireCell_20 : decode cX6_requireCell 20 = .ok (.aload_n 0, 1) := by decide +kernel
theorem dX6_requireCell_21 : decode cX6_requireCell 21 = .ok (.getfield 47, 3) := by decide +kernel
theorem dX6_requireCell_24 : decode cX6_requireCell 24 = .ok (.getfield 95, 3) := by decide +kernel
theorem dX6_requireCell_27 : decode cX6_requireCell 27 = .ok (.if_icmp .lt 14, 3) := by decide +kernel
theorem dX6_requireCell_30 : decode cX6_requireCell 30 = .ok (.new 274, 3) := by decide +kernel
theorem dX6_requireCell_33 : decode cX6_requireCell 33 = .ok (.dup, 1) := by decide +kernel
theorem dX6_requireCell_34 : decode cX6_requireCell 34 = .ok (.ldc_w 279, 3) := by decide +kernel
theorem dX6_requireCell_37 : decode cX6_requireCell 37 = .ok (.invokespecial 278, 3) := by decide +kernel
theorem dX6_requireCell_40 : decode cX6_requireCell 40 = .ok (.athrow, 1) := by decide +kernel
theorem dX6_requireCell_41 : decode cX6_requireCell 41 = .ok (.return_, 1) := by decide +kernel
theorem dX6_draftSheet_0 : decode cX6_draftSheet 0 = .ok (.aload_n 0, 1) := by decide +kernel
theorem dX6_draftSheet_1 : decode cX6_draftSheet 1 = .ok (.getfield 22, 3) := by decide +kernel
theorem dX6_draftSheet_4 : decode cX6_draftSheet 4 = .ok (.aload_n 0, 1) := by decide +kernel
theorem dX6_draftSheet_5 : decode cX6_draftSheet 5 = .ok (.getfield 26, 3) := by decide +kernel
theorem dX6_draftSheet_8 : decode cX6_draftSheet 8 = .ok (.iconst 1, 1) := by decide +kernel
theorem dX6_draftSheet_9 : decode cX6_draftSheet 9 = .ok (.iadd, 1) := by decide +kernel
theorem dX6_draftSheet_10 : decode cX6_draftSheet 10 = .ok (.bipush 10, 2) := by decide +kernel
theorem dX6_draftSheet_12 : decode cX6_draftSheet 12 = .ok (.irem, 1) := by decide +kernel
theorem dX6_draftSheet_13 : decode cX6_draftSheet 13 = .ok (.aaload, 1) := by decide +kernel
theorem dX6_draftSheet_14 : decode cX6_draftSheet 14 = .ok (.areturn, 1) := by decide +kernel
theorem dX6_useDraft_0 : decode cX6_useDraft 0 = .ok (.aload_n 0, 1) := by decide +kernel
theorem dX6_useDraft_1 : decode cX6_useDraft 1 = .ok (.aload_n 0, 1) := by decide +kernel
theorem dX6_useDraft_2 : decode cX6_useDraft 2 = .ok (.getfield 26, 3) := by decide +kernel
theorem dX6_useDraft_5 : decode cX6_useDraft 5 = .ok (.iconst 1, 1) := by decide +kernel
theorem dX6_useDraft_6 : decode cX6_useDraft 6 = .ok (.iadd, 1) := by decide +kernel
theorem dX6_useDraft_7 : decode cX6_useDraft 7 = .ok (.bipush 10, 2) := by decide +kernel
theorem dX6_useDraft_9 : decode cX6_useDraft 9 = .ok (.irem, 1) := by decide +kernel
theorem dX6_useDraft_10 : decode cX6_useDraft 10 = .ok (.putfield 26, 3) := by decide +kernel
theorem dX6_useDraft_13 : decode cX6_useDraft 13 = .ok (.aload_n 0, 1) := by decide +kernel
theorem dX6_useDraft_14 : decode cX6_useDraft 14 = .ok (.aload_n 0, 1) := by decide +kernel
theorem dX6_useDraft_15 : decode cX6_useDraft 15 = .ok (.getfield 22, 3) := by decide +kernel
theorem dX6_useDraft_18 : decode cX6_useDraft 18 = .ok (.aload_n 0, 1) := by decide +kernel
theorem dX6_useDraft_19 : decode cX6_useDraft 19 = .ok (.getfield 26, 3) := by decide +kernel
theorem dX6_useDraft_22 : decode cX6_useDraft 22 = .ok (.aaload, 1) := by decide +kernel
theorem dX6_useDraft_23 : decode cX6_useDraft 23 = .ok (.putfield 47, 3) := by decide +kernel
theorem dX6_useDraft_26 : decode cX6_useDraft 26 = .ok (.aload_n 0, 1) := by decide +kernel
theorem dX6_useDraft_27 : decode cX6_useDraft 27 = .ok (.aload_n 0, 1) := by decide +kernel
theorem dX6_useDraft_28 : decode cX6_useDraft 28 = .ok (.getfield 29, 3) := by decide +kernel
theorem dX6_useDraft_31 : decode cX6_useDraft 31 = .ok (.iconst 1, 1) := by decide +kernel
theorem dX6_useDraft_32 : decode cX6_useDraft 32 = .ok (.iadd, 1) := by decide +kernel
theorem dX6_useDraft_33 : decode cX6_useDraft 33 = .ok (.bipush 8, 2) := by decide +kernel
theorem dX6_useDraft_35 : decode cX6_useDraft 35 = .ok (.invokestatic 225, 3) := by decide +kernel
theorem dX6_useDraft_38 : decode cX6_useDraft 38 = .ok (.putfield 29, 3) := by decide +kernel
theorem dX6_useDraft_41 : decode cX6_useDraft 41 = .ok (.aload_n 0, 1) := by decide +kernel
theorem dX6_useDraft_42 : decode cX6_useDraft 42 = .ok (.getfield 35, 3) := by decide +kernel
theorem dX6_useDraft_45 : decode cX6_useDraft 45 = .ok (.invokevirtual 281, 3) := by decide +kernel
theorem dX6_useDraft_48 : decode cX6_useDraft 48 = .ok (.return_, 1) := by decide +kernel
theorem dX6_startChange_0 : decode cX6_startChange 0 = .ok (.aload_n 0, 1) := by decide +kernel
theorem dX6_startChange_1 : decode cX6_startChange 1 = .ok (.invokevirtual 58, 3) := by decide +kernel
theorem dX6_startChange_4 : decode cX6_startChange 4 = .ok (.aload_n 0, 1) := by decide +kernel
theorem dX6_startChange_5 : decode cX6_startChange 5 = .ok (.getfield 47, 3) := by decide +kernel
theorem dX6_startChange_8 : decode cX6_startChange 8 = .ok (.invokevirtual 284, 3) := by decide +kernel
theorem dX6_startChange_11 : decode cX6_startChange 11 = .ok (.aload_n 0, 1) := by decide +kernel
theorem dX6_startChange_12 : decode cX6_startChange 12 = .ok (.invokevirtual 72, 3) := by decide +kernel
theorem dX6_startChange_15 : decode cX6_startChange 15 = .ok (.return_, 1) := by decide +kernel
theorem dX6_sumOfTones_0 : decode cX6_sumOfTones 0 = .ok (.iconst 0, 1) := by decide +kernel
theorem dX6_sumOfTones_1 : decode cX6_sumOfTones 1 = .ok (.istore_n 2, 1) := by decide +kernel
theorem dX6_sumOfTones_2 : decode cX6_sumOfTones 2 = .ok (.iconst 0, 1) := by decide +kernel
theorem dX6_sumOfTones_3 : decode cX6_sumOfTones 3 = .ok (.istore_n 3, 1) := by decide +kernel
theorem dX6_sumOfTones_4 : decode cX6_sumOfTones 4 = .ok (.iload_n 3, 1) := by decide +kernel
theorem dX6_sumOfTones_5 : decode cX6_sumOfTones 5 = .ok (.iload_n 1, 1) := by decide +kernel
theorem dX6_sumOfTones_6 : decode cX6_sumOfTones 6 = .ok (.if_icmp .ge 21, 3) := by decide +kernel
theorem dX6_sumOfTones_9 : decode cX6_sumOfTones 9 = .ok (.iload_n 3, 1) := by decide +kernel
theorem dX6_sumOfTones_10 : decode cX6_sumOfTones 10 = .ok (.aload_n 0, 1) := by decide +kernel
theorem dX6_sumOfTones_11 : decode cX6_sumOfTones 11 = .ok (.arraylength, 1) := by decide +kernel
theorem dX6_sumOfTones_12 : decode cX6_sumOfTones 12 = .ok (.if_icmp .ge 15, 3) := by decide +kernel
theorem dX6_sumOfTones_15 : decode cX6_sumOfTones 15 = .ok (.iload_n 2, 1) := by decide +kernel
theorem dX6_sumOfTones_16 : decode cX6_sumOfTones 16 = .ok (.aload_n 0, 1) := by decide +kernel
theorem dX6_sumOfTones_17 : decode cX6_sumOfTones 17 = .ok (.iload_n 3, 1) := by decide +kernel
theorem dX6_sumOfTones_18 : decode cX6_sumOfTones 18 = .ok (.iaload, 1) := by decide +kernel
theorem dX6_sumOfTones_19 : decode cX6_sumOfTones 19 = .ok (.iadd, 1) := by decide +kernel
theorem dX6_sumOfTones_20 : decode cX6_sumOfTones 20 = .ok (.istore_n 2, 1) := by decide +kernel
theorem dX6_sumOfTones_21 : decode cX6_sumOfTones 21 = .ok (.iinc 3 1, 3) := by decide +kernel
theorem dX6_sumOfTones_24 : decode cX6_sumOfTones 24 = .ok (.goto (-20), 3) := by decide +kernel
theorem dX6_sumOfTones_27 : decode cX6_sumOfTones 27 = .ok (.iload_n 2, 1) := by decide +kernel
theorem dX6_sumOfTones_28 : decode cX6_sumOfTones 28 = .ok (.ireturn, 1) := by decide +kernel
theorem dX6_packedName_0 : decode cX6_packedName 0 = .ok (.lconst 1, 1) := by decide +kernel
theorem dX6_packedName_1 : decode cX6_packedName 1 = .ok (.lstore_n 3, 1) := by decide +kernel
theorem dX6_packedName_2 : decode cX6_packedName 2 = .ok (.iload_n 1, 1) := by decide +kernel
theorem dX6_packedName_3 : decode cX6_packedName 3 = .ok (.istore 5, 2) := by decide +kernel
theorem dX6_packedName_5 : decode cX6_packedName 5 = .ok (.iload 5, 2) := by decide +kernel
theorem dX6_packedName_7 : decode cX6_packedName 7 = .ok (.iload_n 2, 1) := by decide +kernel
theorem dX6_packedName_8 : decode cX6_packedName 8 = .ok (.if_icmp .ge 32, 3) := by decide +kernel
theorem dX6_packedName_11 : decode cX6_packedName 11 = .ok (.iload 5, 2) := by decide +kernel
theorem dX6_packedName_13 : decode cX6_packedName 13 = .ok (.aload_n 0, 1) := by decide +kernel
theorem dX6_packedName_14 : decode cX6_packedName 14 = .ok (.arraylength, 1) := by decide +kernel
theorem dX6_packedName_15 : decode cX6_packedName 15 = .ok (.if_icmp .ge 25, 3) := by decide +kernel
theorem dX6_packedName_18 : decode cX6_packedName 18 = .ok (.lload_n 3, 1) := by decide +kernel
theorem dX6_packedName_19 : decode cX6_packedName 19 = .ok (.ldc2_w 287, 3) := by decide +kernel
theorem dX6_packedName_22 : decode cX6_packedName 22 = .ok (.lmul, 1) := by decide +kernel
theorem dX6_packedName_23 : decode cX6_packedName 23 = .ok (.aload_n 0, 1) := by decide +kernel
theorem dX6_packedName_24 : decode cX6_packedName 24 = .ok (.iload 5, 2) := by decide +kernel
theorem dX6_packedName_26 : decode cX6_packedName 26 = .ok (.baload, 1) := by decide +kernel
theorem dX6_packedName_27 : decode cX6_packedName 27 = .ok (.sipush 255, 3) := by decide +kernel
theorem dX6_packedName_30 : decode cX6_packedName 30 = .ok (.iand, 1) := by decide +kernel
theorem dX6_packedName_31 : decode cX6_packedName 31 = .ok (.i2l, 1) := by decide +kernel
theorem dX6_packedName_32 : decode cX6_packedName 32 = .ok (.ladd, 1) := by decide +kernel
theorem dX6_packedName_33 : decode cX6_packedName 33 = .ok (.lstore_n 3, 1) := by decide +kernel
theorem dX6_packedName_34 : decode cX6_packedName 34 = .ok (.iinc 5 1, 3) := by decide +kernel
theorem dX6_packedName_37 : decode cX6_packedName 37 = .ok (.goto (-32), 3) := by decide +kernel
theorem dX6_packedName_40 : decode cX6_packedName 40 = .ok (.lload_n 3, 1) := by decide +kernel
theorem dX6_packedName_41 : decode cX6_packedName 41 = .ok (.lreturn, 1) := by decide +kernel
theorem dX6_remainder_0 : decode cX6_remainder 0 = .ok (.iload_n 1, 1) := by decide +kernel
theorem dX6_remainder_1 : decode cX6_remainder 1 = .ok (.iconst 1, 1) := by decide +kernel
theorem dX6_remainder_2 : decode cX6_remainder 2 = .ok (.if_icmp .ge 7, 3) := by decide +kernel
theorem dX6_remainder_5 : decode cX6_remainder 5 = .ok (.iconst 0, 1) := by decide +kernel
theorem dX6_remainder_6 : decode cX6_remainder 6 = .ok (.goto 8, 3) := by decide +kernel
theorem dX6_remainder_9 : decode cX6_remainder 9 = .ok (.iload_n 0, 1) := by decide +kernel
theorem dX6_remainder_10 : decode cX6_remainder 10 = .ok (.iload_n 1, 1) := by decide +kernel
theorem dX6_remainder_11 : decode cX6_remainder 11 = .ok (.invokestatic 289, 3) := by decide +kernel
theorem dX6_remainder_14 : decode cX6_remainder 14 = .ok (.ireturn, 1) := by decide +kernel
theorem dX6_limited_0 : decode cX6_limited 0 = .ok (.iload_n 2, 1) := by decide +kernel
theorem dX6_limited_1 : decode cX6_limited 1 = .ok (.i2l, 1) := by decide +kernel
theorem dX6_limited_2 : decode cX6_limited 2 = .ok (.iload_n 3, 1) := by decide +kernel
theorem dX6_limited_3 : decode cX6_limited 3 = .ok (.i2l, 1) := by decide +kernel
theorem dX6_limited_4 : decode cX6_limited 4 = .ok (.lload_n 0, 1) := by decide +kernel
theorem dX6_limited_5 : decode cX6_limited 5 = .ok (.invokestatic 292, 3) := by decide +kernel
theorem dX6_limited_8 : decode cX6_limited 8 = .ok (.invokestatic 295, 3) := by decide +kernel
theorem dX6_limited_11 : decode cX6_limited 11 = .ok (.l2i, 1) := by decide +kernel
theorem dX6_limited_12 : decode cX6_limited 12 = .ok (.ireturn, 1) := by decide +kernel
theorem dX7_init_0 : decode cX7_init 0 = .ok (.aload_n 0, 1) := by decide +kernel
theorem dX7_init_1 : decode cX7_init 1 = .ok (.invokespecial 1, 3) := by decide +kernel
theorem dX7_init_4 : decode cX7_init 4 = .ok (.aload_n 0, 1) := by decide +kernel
theorem dX7_init_5 : decode cX7_init 5 = .ok (.iload_n 1, 1) := by decide +kernel
theorem dX7_init_6 : decode cX7_init 6 = .ok (.putfield 7, 3) := by decide +kernel
theorem dX7_init_9 : decode cX7_init 9 = .ok (.aload_n 0, 1) := by decide +kernel
theorem dX7_init_10 : decode cX7_init 10 = .ok (.iload_n 2, 1) := by decide +kernel
theorem dX7_init_11 : decode cX7_init 11 = .ok (.putfield 13, 3) := by decide +kernel
theorem dX7_init_14 : decode cX7_init 14 = .ok (.aload_n 0, 1) := by decide +kernel
theorem dX7_init_15 : decode cX7_init 15 = .ok (.iload_n 3, 1) := by decide +kernel
theorem dX7_init_16 : decode cX7_init 16 = .ok (.putfield 16, 3) := by decide +kernel
theorem dX7_init_19 : decode cX7_init 19 = .ok (.return_, 1) := by decide +kernel
theorem dX7_isAhead_0 : decode cX7_isAhead 0 = .ok (.aload_n 0, 1) := by decide +kernel
theorem dX7_isAhead_1 : decode cX7_isAhead 1 = .ok (.getfield 16, 3) := by decide +kernel
theorem dX7_isAhead_4 : decode cX7_isAhead 4 = .ok (.aload_n 1, 1) := by decide +kernel
theorem dX7_isAhead_5 : decode cX7_isAhead 5 = .ok (.getfield 16, 3) := by decide +kernel
theorem dX7_isAhead_8 : decode cX7_isAhead 8 = .ok (.if_icmp .eq 22, 3) := by decide +kernel
theorem dX7_isAhead_11 : decode cX7_isAhead 11 = .ok (.aload_n 0, 1) := by decide +kernel
theorem dX7_isAhead_12 : decode cX7_isAhead 12 = .ok (.getfield 16, 3) := by decide +kernel
theorem dX7_isAhead_15 : decode cX7_isAhead 15 = .ok (.aload_n 1, 1) := by decide +kernel
theorem dX7_isAhead_16 : decode cX7_isAhead 16 = .ok (.getfield 16, 3) := by decide +kernel
theorem dX7_isAhead_19 : decode cX7_isAhead 19 = .ok (.if_icmp .ge 7, 3) := by decide +kernel
theorem dX7_isAhead_22 : decode cX7_isAhead 22 = .ok (.iconst 1, 1) := by decide +kernel
theorem dX7_isAhead_23 : decode cX7_isAhead 23 = .ok (.goto 53, 3) := by decide +kernel
theorem dX7_isAhead_26 : decode cX7_isAhead 26 = .ok (.iconst 0, 1) := by decide +kernel
theorem dX7_isAhead_27 : decode cX7_isAhead 27 = .ok (.goto 49, 3) := by decide +kernel
theorem dX7_isAhead_30 : decode cX7_isAhead 30 = .ok (.aload_n 0, 1) := by decide +kernel
theorem dX7_isAhead_31 : decode cX7_isAhead 31 = .ok (.getfield 13, 3) := by decide +kernel
theorem dX7_isAhead_34 : decode cX7_isAhead 34 = .ok (.aload_n 1, 1) := by decide +kernel
theorem dX7_isAhead_35 : decode cX7_isAhead 35 = .ok (.getfield 13, 3) := by decide +kernel
theorem dX7_isAhead_38 : decode cX7_isAhead 38 = .ok (.if_icmp .eq 22, 3) := by decide +kernel
theorem dX7_isAhead_41 : decode cX7_isAhead 41 = .ok (.aload_n 0, 1) := by decide +kernel
theorem dX7_isAhead_42 : decode cX7_isAhead 42 = .ok (.getfield 13, 3) := by decide +kernel
theorem dX7_isAhead_45 : decode cX7_isAhead 45 = .ok (.aload_n 1, 1) := by decide +kernel
theorem dX7_isAhead_46 : decode cX7_isAhead 46 = .ok (.getfield 13, 3) := by decide +kernel
theorem dX7_isAhead_49 : decode cX7_isAhead 49 = .ok (.if_icmp .ge 7, 3) := by decide +kernel
theorem dX7_isAhead_52 : decode cX7_isAhead 52 = .ok (.iconst 1, 1) := by decide +kernel
theorem dX7_isAhead_53 : decode cX7_isAhead 53 = .ok (.goto 23, 3) := by decide +kernel
theorem dX7_isAhead_56 : decode cX7_isAhead 56 = .ok (.iconst 0, 1) := by decide +kernel
theorem dX7_isAhead_57 : decode cX7_isAhead 57 = .ok (.goto 19, 3) := by decide +kernel
theorem dX7_isAhead_60 : decode cX7_isAhead 60 = .ok (.aload_n 0, 1) := by decide +kernel
theorem dX7_isAhead_61 : decode cX7_isAhead 61 = .ok (.getfield 7, 3) := by decide +kernel
theorem dX7_isAhead_64 : decode cX7_isAhead 64 = .ok (.aload_n 1, 1) := by decide +kernel
theorem dX7_isAhead_65 : decode cX7_isAhead 65 = .ok (.getfield 7, 3) := by decide +kernel
theorem dX7_isAhead_68 : decode cX7_isAhead 68 = .ok (.if_icmp .ge 7, 3) := by decide +kernel
theorem dX7_isAhead_71 : decode cX7_isAhead 71 = .ok (.iconst 1, 1) := by decide +kernel
theorem dX7_isAhead_72 : decode cX7_isAhead 72 = .ok (.goto 4, 3) := by decide +kernel
theorem dX7_isAhead_75 : decode cX7_isAhead 75 = .ok (.iconst 0, 1) := by decide +kernel
theorem dX7_isAhead_76 : decode cX7_isAhead 76 = .ok (.ireturn, 1) := by decide +kernel
theorem dX8_init_0 : decode cX8_init 0 = .ok (.aload_n 0, 1) := by decide +kernel
theorem dX8_init_1 : decode cX8_init 1 = .ok (.invokespecial 1, 3) := by decide +kernel
theorem dX8_init_4 : decode cX8_init 4 = .ok (.aload_n 0, 1) := by decide +kernel
theorem dX8_init_5 : decode cX8_init 5 = .ok (.new 7, 3) := by decide +kernel
theorem dX8_init_8 : decode cX8_init 8 = .ok (.dup, 1) := by decide +kernel
theorem dX8_init_9 : decode cX8_init 9 = .ok (.invokespecial 9, 3) := by decide +kernel
theorem dX8_init_12 : decode cX8_init 12 = .ok (.putfield 10, 3) := by decide +kernel
theorem dX8_init_15 : decode cX8_init 15 = .ok (.aload_n 0, 1) := by decide +kernel
theorem dX8_init_16 : decode cX8_init 16 = .ok (.iload_n 1, 1) := by decide +kernel
theorem dX8_init_17 : decode cX8_init 17 = .ok (.putfield 16, 3) := by decide +kernel
theorem dX8_init_20 : decode cX8_init 20 = .ok (.aload_n 0, 1) := by decide +kernel
theorem dX8_init_21 : decode cX8_init 21 = .ok (.iload_n 2, 1) := by decide +kernel
theorem dX8_init_22 : decode cX8_init 22 = .ok (.putfield 20, 3) := by decide +kernel
theorem dX8_init_25 : decode cX8_init 25 = .ok (.aload_n 0, 1) := by decide +kernel
theorem dX8_init_26 : decode cX8_init 26 = .ok (.iload_n 3, 1) := by decide +kernel
theorem dX8_init_27 : decode cX8_init 27 = .ok (.putfield 23, 3) := by decide +kernel
theorem dX8_init_30 : decode cX8_init 30 = .ok (.aload_n 0, 1) := by decide +kernel
theorem dX8_init_31 : decode cX8_init 31 = .ok (.iload_n 1, 1) := by decide +kernel
theorem dX8_init_32 : decode cX8_init 32 = .ok (.iload_n 1, 1) := by decide +kernel
theorem dX8_init_33 : decode cX8_init 33 = .ok (.imul, 1) := by decide +kernel
theorem dX8_init_34 : decode cX8_init 34 = .ok (.iload_n 2, 1) := by decide +kernel
theorem dX8_init_35 : decode cX8_init 35 = .ok (.iload_n 2, 1) := by decide +kernel
theorem dX8_init_36 : decode cX8_init 36 = .ok (.imul, 1) := by decide +kernel
theorem dX8_init_37 : decode cX8_init 37 = .ok (.iadd, 1) := by decide +kernel
theorem dX8_init_38 : decode cX8_init 38 = .ok (.putfield 26, 3) := by decide +kernel
theorem dX8_init_41 : decode cX8_init 41 = .ok (.iconst 0, 1) := by decide +kernel
theorem dX8_init_42 : decode cX8_init 42 = .ok (.istore 4, 2) := by decide +kernel
theorem dX8_init_44 : decode cX8_init 44 = .ok (.iload 4, 2) := by decide +kernel
theorem dX8_init_46 : decode cX8_init 46 = .ok (.aload_n 0, 1) := by decide +kernel
theorem dX8_init_47 : decode cX8_init 47 = .ok (.getfield 26, 3) := by decide +kernel
theorem dX8_init_50 : decode cX8_init 50 = .ok (.if_icmp .ge 50, 3) := by decide +kernel
theorem dX8_init_53 : decode cX8_init 53 = .ok (.iconst 0, 1) := by decide +kernel
theorem dX8_init_54 : decode cX8_init 54 = .ok (.istore 5, 2) := by decide +kernel
theorem dX8_init_56 : decode cX8_init 56 = .ok (.iload 5, 2) := by decide +kernel
theorem dX8_init_58 : decode cX8_init 58 = .ok (.aload_n 0, 1) := by decide +kernel
theorem dX8_init_59 : decode cX8_init 59 = .ok (.getfield 26, 3) := by decide +kernel
theorem dX8_init_62 : decode cX8_init 62 = .ok (.if_icmp .ge 32, 3) := by decide +kernel
theorem dX8_init_65 : decode cX8_init 65 = .ok (.aload_n 0, 1) := by decide +kernel
theorem dX8_init_66 : decode cX8_init 66 = .ok (.new 29, 3) := by decide +kernel
theorem dX8_init_69 : decode cX8_init 69 = .ok (.dup, 1) := by decide +kernel
theorem dX8_init_70 : decode cX8_init 70 = .ok (.iload 4, 2) := by decide +kernel
theorem dX8_init_72 : decode cX8_init 72 = .ok (.iload 5, 2) := by decide +kernel
theorem dX8_init_74 : decode cX8_init 74 = .ok (.aload_n 0, 1) := by decide +kernel
theorem dX8_init_75 : decode cX8_init 75 = .ok (.iload 4, 2) := by decide +kernel
theorem dX8_init_77 : decode cX8_init 77 = .ok (.iload 5, 2) := by decide +kernel
theorem dX8_init_79 : decode cX8_init 79 = .ok (.invokevirtual 31, 3) := by decide +kernel
theorem dX8_init_82 : decode cX8_init 82 = .ok (.invokespecial 35, 3) := by decide +kernel
theorem dX8_init_85 : decode cX8_init 85 = .ok (.invokevirtual 38, 3) := by decide +kernel
theorem dX8_init_88 : decode cX8_init 88 = .ok (.iinc 5 1, 3) := by decide +kernel
theorem dX8_init_91 : decode cX8_init 91 = .ok (.goto (-35), 3) := by decide +kernel
theorem dX8_init_94 : decode cX8_init 94 = .ok (.iinc 4 1, 3) := by decide +kernel
theorem dX8_init_97 : decode cX8_init 97 = .ok (.goto (-53), 3) := by decide +kernel
theorem dX8_init_100 : decode cX8_init 100 = .ok (.return_, 1) := by decide +kernel
theorem dX8_measure_0 : decode cX8_measure 0 = .ok (.iconst 2, 1) := by decide +kernel
theorem dX8_measure_1 : decode cX8_measure 1 = .ok (.aload_n 0, 1) := by decide +kernel
theorem dX8_measure_2 : decode cX8_measure 2 = .ok (.getfield 16, 3) := by decide +kernel
theorem dX8_measure_5 : decode cX8_measure 5 = .ok (.iload_n 1, 1) := by decide +kernel
theorem dX8_measure_6 : decode cX8_measure 6 = .ok (.imul, 1) := by decide +kernel
theorem dX8_measure_7 : decode cX8_measure 7 = .ok (.aload_n 0, 1) := by decide +kernel
theorem dX8_measure_8 : decode cX8_measure 8 = .ok (.getfield 20, 3) := by decide +kernel
theorem dX8_measure_11 : decode cX8_measure 11 = .ok (.iload_n 2, 1) := by decide +kernel
theorem dX8_measure_12 : decode cX8_measure 12 = .ok (.imul, 1) := by decide +kernel
theorem dX8_measure_13 : decode cX8_measure 13 = .ok (.iadd, 1) := by decide +kernel
theorem dX8_measure_14 : decode cX8_measure 14 = .ok (.aload_n 0, 1) := by decide +kernel
theorem dX8_measure_15 : decode cX8_measure 15 = .ok (.getfield 26, 3) := by decide +kernel
theorem dX8_measure_18 : decode cX8_measure 18 = .ok (.invokestatic 42, 3) := by decide +kernel
theorem dX8_measure_21 : decode cX8_measure 21 = .ok (.imul, 1) := by decide +kernel
theorem dX8_measure_22 : decode cX8_measure 22 = .ok (.aload_n 0, 1) := by decide +kernel
theorem dX8_measure_23 : decode cX8_measure 23 = .ok (.getfield 26, 3) := by decide +kernel
theorem dX8_measure_26 : decode cX8_measure 26 = .ok (.isub, 1) := by decide +kernel
theorem dX8_measure_27 : decode cX8_measure 27 = .ok (.invokestatic 47, 3) := by decide +kernel
theorem dX8_measure_30 : decode cX8_measure 30 = .ok (.istore_n 3, 1) := by decide +kernel
theorem dX8_measure_31 : decode cX8_measure 31 = .ok (.iconst 2, 1) := by decide +kernel
theorem dX8_measure_32 : decode cX8_measure 32 = .ok (.aload_n 0, 1) := by decide +kernel
theorem dX8_measure_33 : decode cX8_measure 33 = .ok (.getfield 16, 3) := by decide +kernel
theorem dX8_measure_36 : decode cX8_measure 36 = .ok (.iload_n 2, 1) := by decide +kernel
theorem dX8_measure_37 : decode cX8_measure 37 = .ok (.imul, 1) := by decide +kernel
theorem dX8_measure_38 : decode cX8_measure 38 = .ok (.aload_n 0, 1) := by decide +kernel
theorem dX8_measure_39 : decode cX8_measure 39 = .ok (.getfield 20, 3) := by decide +kernel
theorem dX8_measure_42 : decode cX8_measure 42 = .ok (.iload_n 1, 1) := by decide +kernel
theorem dX8_measure_43 : decode cX8_measure 43 = .ok (.imul, 1) := by decide +kernel
theorem dX8_measure_44 : decode cX8_measure 44 = .ok (.isub, 1) := by decide +kernel
theorem dX8_measure_45 : decode cX8_measure 45 = .ok (.aload_n 0, 1) := by decide +kernel
theorem dX8_measure_46 : decode cX8_measure 46 = .ok (.getfield 26, 3) := by decide +kernel
theorem dX8_measure_49 : decode cX8_measure 49 = .ok (.invokestatic 42, 3) := by decide +kernel
theorem dX8_measure_52 : decode cX8_measure 52 = .ok (.imul, 1) := by decide +kernel
theorem dX8_measure_53 : decode cX8_measure 53 = .ok (.aload_n 0, 1) := by decide +kernel
theorem dX8_measure_54 : decode cX8_measure 54 = .ok (.getfield 26, 3) := by decide +kernel
theorem dX8_measure_57 : decode cX8_measure 57 = .ok (.isub, 1) := by decide +kernel
theorem dX8_measure_58 : decode cX8_measure 58 = .ok (.invokestatic 47, 3) := by decide +kernel
theorem dX8_measure_61 : decode cX8_measure 61 = .ok (.istore 4, 2) := by decide +kernel
theorem dX8_measure_63 : decode cX8_measure 63 = .ok (.aload_n 0, 1) := by decide +kernel
theorem dX8_measure_64 : decode cX8_measure 64 = .ok (.getfield 23, 3) := by decide +kernel
theorem dX8_measure_67 : decode cX8_measure 67 = .ok (.tableswitch 42 0 2 #[25, 35, 37], 25) := by decide +kernel
theorem dX8_measure_92 : decode cX8_measure 92 = .ok (.iload_n 3, 1) := by decide +kernel
theorem dX8_measure_93 : decode cX8_measure 93 = .ok (.iload_n 3, 1) := by decide +kernel
theorem dX8_measure_94 : decode cX8_measure 94 = .ok (.imul, 1) := by decide +kernel
theorem dX8_measure_95 : decode cX8_measure 95 = .ok (.iload 4, 2) := by decide +kernel
theorem dX8_measure_97 : decode cX8_measure 97 = .ok (.iload 4, 2) := by decide +kernel
theorem dX8_measure_99 : decode cX8_measure 99 = .ok (.imul, 1) := by decide +kernel
theorem dX8_measure_100 : decode cX8_measure 100 = .ok (.iadd, 1) := by decide +kernel
theorem dX8_measure_101 : decode cX8_measure 101 = .ok (.ireturn, 1) := by decide +kernel
theorem dX8_measure_102 : decode cX8_measure 102 = .ok (.iload_n 3, 1) := by decide +kernel
theorem dX8_measure_103 : decode cX8_measure 103 = .ok (.ireturn, 1) := by decide +kernel
theorem dX8_measure_104 : decode cX8_measure 104 = .ok (.iload_n 3, 1) := by decide +kernel
theorem dX8_measure_105 : decode cX8_measure 105 = .ok (.iload 4, 2) := by decide +kernel
theorem dX8_measure_107 : decode cX8_measure 107 = .ok (.iadd, 1) := by decide +kernel
theorem dX8_measure_108 : decode cX8_measure 108 = .ok (.ireturn, 1) := by decide +kernel
theorem dX8_measure_109 : decode cX8_measure 109 = .ok (.iload_n 3, 1) := by decide +kernel
theorem dX8_measure_110 : decode cX8_measure 110 = .ok (.iload 4, 2) := by decide +kernel
theorem dX8_measure_112 : decode cX8_measure 112 = .ok (.if_icmp .le 7, 3) := by decide +kernel
theorem dX8_measure_115 : decode cX8_measure 115 = .ok (.iload_n 3, 1) := by decide +kernel
theorem dX8_measure_116 : decode cX8_measure 116 = .ok (.goto 5, 3) := by decide +kernel
theorem dX8_measure_119 : decode cX8_measure 119 = .ok (.iload 4, 2) := by decide +kernel
theorem dX8_measure_121 : decode cX8_measure 121 = .ok (.ireturn, 1) := by decide +kernel
theorem dX8_comes_0 : decode cX8_comes 0 = .ok (.aload_n 0, 1) := by decide +kernel
theorem dX8_comes_1 : decode cX8_comes 1 = .ok (.getfield 10, 3) := by decide +kernel
theorem dX8_comes_4 : decode cX8_comes 4 = .ok (.invokevirtual 51, 3) := by decide +kernel
theorem dX8_comes_7 : decode cX8_comes 7 = .ok (.istore_n 2, 1) := by decide +kernel
theorem dX8_comes_8 : decode cX8_comes 8 = .ok (.iload_n 2, 1) := by decide +kernel
theorem dX8_comes_9 : decode cX8_comes 9 = .ok (.ifCond .le 29, 3) := by decide +kernel
theorem dX8_comes_12 : decode cX8_comes 12 = .ok (.aload_n 1, 1) := by decide +kernel
theorem dX8_comes_13 : decode cX8_comes 13 = .ok (.aload_n 0, 1) := by decide +kernel
theorem dX8_comes_14 : decode cX8_comes 14 = .ok (.getfield 10, 3) := by decide +kernel
theorem dX8_comes_17 : decode cX8_comes 17 = .ok (.iload_n 2, 1) := by decide +kernel
theorem dX8_comes_18 : decode cX8_comes 18 = .ok (.iconst 1, 1) := by decide +kernel
theorem dX8_comes_19 : decode cX8_comes 19 = .ok (.isub, 1) := by decide +kernel
theorem dX8_comes_20 : decode cX8_comes 20 = .ok (.invokevirtual 55, 3) := by decide +kernel
theorem dX8_comes_23 : decode cX8_comes 23 = .ok (.checkcast 29, 3) := by decide +kernel
theorem dX8_comes_26 : decode cX8_comes 26 = .ok (.invokevirtual 59, 3) := by decide +kernel
theorem dX8_comes_29 : decode cX8_comes 29 = .ok (.ifCond .eq 9, 3) := by decide +kernel
theorem dX8_comes_32 : decode cX8_comes 32 = .ok (.iinc 2 (-1), 3) := by decide +kernel
theorem dX8_comes_35 : decode cX8_comes 35 = .ok (.goto (-27), 3) := by decide +kernel
theorem dX8_comes_38 : decode cX8_comes 38 = .ok (.aload_n 0, 1) := by decide +kernel
theorem dX8_comes_39 : decode cX8_comes 39 = .ok (.getfield 10, 3) := by decide +kernel
theorem dX8_comes_42 : decode cX8_comes 42 = .ok (.iload_n 2, 1) := by decide +kernel
theorem dX8_comes_43 : decode cX8_comes 43 = .ok (.aload_n 1, 1) := by decide +kernel
theorem dX8_comes_44 : decode cX8_comes 44 = .ok (.invokevirtual 63, 3) := by decide +kernel
theorem dX8_comes_47 : decode cX8_comes 47 = .ok (.return_, 1) := by decide +kernel
theorem dX8_rank_0 : decode cX8_rank 0 = .ok (.iconst 0, 1) := by decide +kernel
theorem dX8_rank_1 : decode cX8_rank 1 = .ok (.istore_n 3, 1) := by decide +kernel
theorem dX8_rank_2 : decode cX8_rank 2 = .ok (.aload_n 0, 1) := by decide +kernel
theorem dX8_rank_3 : decode cX8_rank 3 = .ok (.getfield 10, 3) := by decide +kernel
theorem dX8_rank_6 : decode cX8_rank 6 = .ok (.iload_n 3, 1) := by decide +kernel
theorem dX8_rank_7 : decode cX8_rank 7 = .ok (.invokevirtual 55, 3) := by decide +kernel
theorem dX8_rank_10 : decode cX8_rank 10 = .ok (.checkcast 29, 3) := by decide +kernel
theorem dX8_rank_13 : decode cX8_rank 13 = .ok (.getfield 67, 3) := by decide +kernel
theorem dX8_rank_16 : decode cX8_rank 16 = .ok (.iload_n 1, 1) := by decide +kernel
theorem dX8_rank_17 : decode cX8_rank 17 = .ok (.aload_n 0, 1) := by decide +kernel
theorem dX8_rank_18 : decode cX8_rank 18 = .ok (.getfield 70, 3) := by decide +kernel
theorem dX8_rank_21 : decode cX8_rank 21 = .ok (.iadd, 1) := by decide +kernel
theorem dX8_rank_22 : decode cX8_rank 22 = .ok (.aload_n 0, 1) := by decide +kernel
theorem dX8_rank_23 : decode cX8_rank 23 = .ok (.getfield 26, 3) := by decide +kernel
theorem dX8_rank_26 : decode cX8_rank 26 = .ok (.irem, 1) := by decide +kernel
theorem dX8_rank_27 : decode cX8_rank 27 = .ok (.if_icmp .ne 31, 3) := by decide +kernel
theorem dX8_rank_30 : decode cX8_rank 30 = .ok (.aload_n 0, 1) := by decide +kernel
theorem dX8_rank_31 : decode cX8_rank 31 = .ok (.getfield 10, 3) := by decide +kernel
theorem dX8_rank_34 : decode cX8_rank 34 = .ok (.iload_n 3, 1) := by decide +kernel
theorem dX8_rank_35 : decode cX8_rank 35 = .ok (.invokevirtual 55, 3) := by decide +kernel
theorem dX8_rank_38 : decode cX8_rank 38 = .ok (.checkcast 29, 3) := by decide +kernel
theorem dX8_rank_41 : decode cX8_rank 41 = .ok (.getfield 73, 3) := by decide +kernel
theorem dX8_rank_44 : decode cX8_rank 44 = .ok (.iload_n 2, 1) := by decide +kernel
theorem dX8_rank_45 : decode cX8_rank 45 = .ok (.aload_n 0, 1) := by decide +kernel
theorem dX8_rank_46 : decode cX8_rank 46 = .ok (.getfield 76, 3) := by decide +kernel
theorem dX8_rank_49 : decode cX8_rank 49 = .ok (.iadd, 1) := by decide +kernel
theorem dX8_rank_50 : decode cX8_rank 50 = .ok (.aload_n 0, 1) := by decide +kernel
theorem dX8_rank_51 : decode cX8_rank 51 = .ok (.getfield 26, 3) := by decide +kernel
theorem dX8_rank_54 : decode cX8_rank 54 = .ok (.irem, 1) := by decide +kernel
theorem dX8_rank_55 : decode cX8_rank 55 = .ok (.if_icmp .eq 9, 3) := by decide +kernel
theorem dX8_rank_58 : decode cX8_rank 58 = .ok (.iinc 3 1, 3) := by decide +kernel
theorem dX8_rank_61 : decode cX8_rank 61 = .ok (.goto (-59), 3) := by decide +kernel
theorem dX8_rank_64 : decode cX8_rank 64 = .ok (.iload_n 3, 1) := by decide +kernel
theorem dX8_rank_65 : decode cX8_rank 65 = .ok (.ireturn, 1) := by decide +kernel
theorem dJ5_init_d00df_0 : decode cJ5_init_d00df 0 = .ok (.aload_n 0, 1) := by decide +kernel
theorem dJ5_init_d00df_1 : decode cJ5_init_d00df 1 = .ok (.invokespecial 3, 3) := by decide +kernel
theorem dJ5_init_d00df_4 : decode cJ5_init_d00df 4 = .ok (.getstatic 18, 3) := by decide +kernel
theorem dJ5_init_d00df_7 : decode cJ5_init_d00df 7 = .ok (.ifCond .eq 18, 3) := by decide +kernel
theorem dJ5_init_d00df_10 : decode cJ5_init_d00df 10 = .ok (.aload_n 0, 1) := by decide +kernel
theorem dJ5_init_d00df_11 : decode cJ5_init_d00df 11 = .ok (.iload_n 1, 1) := by decide +kernel
theorem dJ5_init_d00df_12 : decode cJ5_init_d00df 12 = .ok (.newarray .byte, 2) := by decide +kernel
theorem dJ5_init_d00df_14 : decode cJ5_init_d00df 14 = .ok (.putfield 15, 3) := by decide +kernel
theorem dJ5_init_d00df_17 : decode cJ5_init_d00df 17 = .ok (.aload_n 0, 1) := by decide +kernel
theorem dJ5_init_d00df_18 : decode cJ5_init_d00df 18 = .ok (.iconst 0, 1) := by decide +kernel
theorem dJ5_init_d00df_19 : decode cJ5_init_d00df 19 = .ok (.putfield 22, 3) := by decide +kernel
theorem dJ5_init_d00df_22 : decode cJ5_init_d00df 22 = .ok (.goto 16, 3) := by decide +kernel
theorem dJ5_init_d00df_25 : decode cJ5_init_d00df 25 = .ok (.aload_n 0, 1) := by decide +kernel
theorem dJ5_init_d00df_26 : decode cJ5_init_d00df 26 = .ok (.iload_n 1, 1) := by decide +kernel
theorem dJ5_init_d00df_27 : decode cJ5_init_d00df 27 = .ok (.invokestatic 26, 3) := by decide +kernel
theorem dJ5_init_d00df_30 : decode cJ5_init_d00df 30 = .ok (.putfield 15, 3) := by decide +kernel
theorem dJ5_init_d00df_33 : decode cJ5_init_d00df 33 = .ok (.aload_n 0, 1) := by decide +kernel
theorem dJ5_init_d00df_34 : decode cJ5_init_d00df 34 = .ok (.iconst 1, 1) := by decide +kernel
theorem dJ5_init_d00df_35 : decode cJ5_init_d00df 35 = .ok (.putfield 22, 3) := by decide +kernel
theorem dJ5_init_d00df_38 : decode cJ5_init_d00df 38 = .ok (.return_, 1) := by decide +kernel
theorem dJ5_init_a7421_0 : decode cJ5_init_a7421 0 = .ok (.aload_n 0, 1) := by decide +kernel
theorem dJ5_init_a7421_1 : decode cJ5_init_a7421 1 = .ok (.invokespecial 3, 3) := by decide +kernel
theorem dJ5_init_a7421_4 : decode cJ5_init_a7421 4 = .ok (.aload_n 1, 1) := by decide +kernel
theorem dJ5_init_a7421_5 : decode cJ5_init_a7421 5 = .ok (.invokevirtual 32, 3) := by decide +kernel
theorem dJ5_init_a7421_8 : decode cJ5_init_a7421 8 = .ok (.istore_n 2, 1) := by decide +kernel
theorem dJ5_init_a7421_9 : decode cJ5_init_a7421 9 = .ok (.iload_n 2, 1) := by decide +kernel
theorem dJ5_init_a7421_10 : decode cJ5_init_a7421 10 = .ok (.ldc 38, 2) := by decide +kernel
theorem dJ5_init_a7421_12 : decode cJ5_init_a7421 12 = .ok (.if_icmp .ge 10, 3) := by decide +kernel
theorem dJ5_init_a7421_15 : decode cJ5_init_a7421 15 = .ok (.iload_n 2, 1) := by decide +kernel
theorem dJ5_init_a7421_16 : decode cJ5_init_a7421 16 = .ok (.bipush 16, 2) := by decide +kernel
theorem dJ5_init_a7421_18 : decode cJ5_init_a7421 18 = .ok (.iadd, 1) := by decide +kernel
theorem dJ5_init_a7421_19 : decode cJ5_init_a7421 19 = .ok (.goto 5, 3) := by decide +kernel
theorem dJ5_init_a7421_22 : decode cJ5_init_a7421 22 = .ok (.ldc 39, 2) := by decide +kernel
theorem dJ5_init_a7421_24 : decode cJ5_init_a7421 24 = .ok (.istore_n 3, 1) := by decide +kernel
theorem dJ5_init_a7421_25 : decode cJ5_init_a7421 25 = .ok (.aload_n 1, 1) := by decide +kernel
theorem dJ5_init_a7421_26 : decode cJ5_init_a7421 26 = .ok (.invokevirtual 40, 3) := by decide +kernel
theorem dJ5_init_a7421_29 : decode cJ5_init_a7421 29 = .ok (.istore 4, 2) := by decide +kernel
theorem dJ5_init_a7421_31 : decode cJ5_init_a7421 31 = .ok (.aload_n 0, 1) := by decide +kernel
theorem dJ5_init_a7421_32 : decode cJ5_init_a7421 32 = .ok (.iload 4, 2) := by decide +kernel
theorem dJ5_init_a7421_34 : decode cJ5_init_a7421 34 = .ok (.putfield 22, 3) := by decide +kernel
theorem dJ5_init_a7421_37 : decode cJ5_init_a7421 37 = .ok (.aload_n 0, 1) := by decide +kernel
theorem dJ5_init_a7421_38 : decode cJ5_init_a7421 38 = .ok (.iload 4, 2) := by decide +kernel
theorem dJ5_init_a7421_40 : decode cJ5_init_a7421 40 = .ok (.ifCond .ne 9, 3) := by decide +kernel
theorem dJ5_init_a7421_43 : decode cJ5_init_a7421 43 = .ok (.iload_n 3, 1) := by decide +kernel
theorem dJ5_init_a7421_44 : decode cJ5_init_a7421 44 = .ok (.newarray .byte, 2) := by decide +kernel
theorem dJ5_init_a7421_46 : decode cJ5_init_a7421 46 = .ok (.goto 7, 3) := by decide +kernel
theorem dJ5_init_a7421_49 : decode cJ5_init_a7421 49 = .ok (.iload_n 3, 1) := by decide +kernel
theorem dJ5_init_a7421_50 : decode cJ5_init_a7421 50 = .ok (.invokestatic 26, 3) := by decide +kernel
theorem dJ5_init_a7421_53 : decode cJ5_init_a7421 53 = .ok (.putfield 15, 3) := by decide +kernel
theorem dJ5_init_a7421_56 : decode cJ5_init_a7421 56 = .ok (.aload_n 0, 1) := by decide +kernel
theorem dJ5_init_a7421_57 : decode cJ5_init_a7421 57 = .ok (.aload_n 1, 1) := by decide +kernel
theorem dJ5_init_a7421_58 : decode cJ5_init_a7421 58 = .ok (.invokevirtual 43, 3) := by decide +kernel
theorem dJ5_init_a7421_61 : decode cJ5_init_a7421 61 = .ok (.pop, 1) := by decide +kernel
theorem dJ5_init_a7421_62 : decode cJ5_init_a7421 62 = .ok (.return_, 1) := by decide +kernel
theorem dJ5_length_8abf5_0 : decode cJ5_length_8abf5 0 = .ok (.aload_n 0, 1) := by decide +kernel
theorem dJ5_length_8abf5_1 : decode cJ5_length_8abf5 1 = .ok (.getfield 79, 3) := by decide +kernel
theorem dJ5_length_8abf5_4 : decode cJ5_length_8abf5 4 = .ok (.ireturn, 1) := by decide +kernel
theorem dJ5_ensureCapacityInternal_d00df_0 : decode cJ5_ensureCapacityInternal_d00df 0 = .ok (.aload_n 0, 1) := by decide +kernel
theorem dJ5_ensureCapacityInternal_d00df_1 : decode cJ5_ensureCapacityInternal_d00df 1 = .ok (.getfield 15, 3) := by decide +kernel
theorem dJ5_ensureCapacityInternal_d00df_4 : decode cJ5_ensureCapacityInternal_d00df 4 = .ok (.arraylength, 1) := by decide +kernel
theorem dJ5_ensureCapacityInternal_d00df_5 : decode cJ5_ensureCapacityInternal_d00df 5 = .ok (.aload_n 0, 1) := by decide +kernel
theorem dJ5_ensureCapacityInternal_d00df_6 : decode cJ5_ensureCapacityInternal_d00df 6 = .ok (.getfield 22, 3) := by decide +kernel
theorem dJ5_ensureCapacityInternal_d00df_9 : decode cJ5_ensureCapacityInternal_d00df 9 = .ok (.ishr, 1) := by decide +kernel
theorem dJ5_ensureCapacityInternal_d00df_10 : decode cJ5_ensureCapacityInternal_d00df 10 = .ok (.istore_n 2, 1) := by decide +kernel
theorem dJ5_ensureCapacityInternal_d00df_11 : decode cJ5_ensureCapacityInternal_d00df 11 = .ok (.iload_n 1, 1) := by decide +kernel
theorem dJ5_ensureCapacityInternal_d00df_12 : decode cJ5_ensureCapacityInternal_d00df 12 = .ok (.iload_n 2, 1) := by decide +kernel
theorem dJ5_ensureCapacityInternal_d00df_13 : decode cJ5_ensureCapacityInternal_d00df 13 = .ok (.isub, 1) := by decide +kernel
theorem dJ5_ensureCapacityInternal_d00df_14 : decode cJ5_ensureCapacityInternal_d00df 14 = .ok (.ifCond .le 24, 3) := by decide +kernel
theorem dJ5_ensureCapacityInternal_d00df_17 : decode cJ5_ensureCapacityInternal_d00df 17 = .ok (.aload_n 0, 1) := by decide +kernel
theorem dJ5_ensureCapacityInternal_d00df_18 : decode cJ5_ensureCapacityInternal_d00df 18 = .ok (.aload_n 0, 1) := by decide +kernel
theorem dJ5_ensureCapacityInternal_d00df_19 : decode cJ5_ensureCapacityInternal_d00df 19 = .ok (.getfield 15, 3) := by decide +kernel
theorem dJ5_ensureCapacityInternal_d00df_22 : decode cJ5_ensureCapacityInternal_d00df 22 = .ok (.aload_n 0, 1) := by decide +kernel
theorem dJ5_ensureCapacityInternal_d00df_23 : decode cJ5_ensureCapacityInternal_d00df 23 = .ok (.iload_n 1, 1) := by decide +kernel
theorem dJ5_ensureCapacityInternal_d00df_24 : decode cJ5_ensureCapacityInternal_d00df 24 = .ok (.invokevirtual 104, 3) := by decide +kernel
theorem dJ5_ensureCapacityInternal_d00df_27 : decode cJ5_ensureCapacityInternal_d00df 27 = .ok (.aload_n 0, 1) := by decide +kernel
theorem dJ5_ensureCapacityInternal_d00df_28 : decode cJ5_ensureCapacityInternal_d00df 28 = .ok (.getfield 22, 3) := by decide +kernel
theorem dJ5_ensureCapacityInternal_d00df_31 : decode cJ5_ensureCapacityInternal_d00df 31 = .ok (.ishl, 1) := by decide +kernel
theorem dJ5_ensureCapacityInternal_d00df_32 : decode cJ5_ensureCapacityInternal_d00df 32 = .ok (.invokestatic 108, 3) := by decide +kernel
theorem dJ5_ensureCapacityInternal_d00df_35 : decode cJ5_ensureCapacityInternal_d00df 35 = .ok (.putfield 15, 3) := by decide +kernel
theorem dJ5_ensureCapacityInternal_d00df_38 : decode cJ5_ensureCapacityInternal_d00df 38 = .ok (.return_, 1) := by decide +kernel
theorem dJ5_newCapacity_0f7a4_0 : decode cJ5_newCapacity_0f7a4 0 = .ok (.aload_n 0, 1) := by decide +kernel
theorem dJ5_newCapacity_0f7a4_1 : decode cJ5_newCapacity_0f7a4 1 = .ok (.getfield 15, 3) := by decide +kernel
theorem dJ5_newCapacity_0f7a4_4 : decode cJ5_newCapacity_0f7a4 4 = .ok (.arraylength, 1) := by decide +kernel
theorem dJ5_newCapacity_0f7a4_5 : decode cJ5_newCapacity_0f7a4 5 = .ok (.istore_n 2, 1) := by decide +kernel
theorem dJ5_newCapacity_0f7a4_6 : decode cJ5_newCapacity_0f7a4 6 = .ok (.iload_n 1, 1) := by decide +kernel
theorem dJ5_newCapacity_0f7a4_7 : decode cJ5_newCapacity_0f7a4 7 = .ok (.aload_n 0, 1) := by decide +kernel
theorem dJ5_newCapacity_0f7a4_8 : decode cJ5_newCapacity_0f7a4 8 = .ok (.getfield 22, 3) := by decide +kernel
theorem dJ5_newCapacity_0f7a4_11 : decode cJ5_newCapacity_0f7a4 11 = .ok (.ishl, 1) := by decide +kernel
theorem dJ5_newCapacity_0f7a4_12 : decode cJ5_newCapacity_0f7a4 12 = .ok (.istore_n 3, 1) := by decide +kernel
theorem dJ5_newCapacity_0f7a4_13 : decode cJ5_newCapacity_0f7a4 13 = .ok (.iload_n 3, 1) := by decide +kernel
theorem dJ5_newCapacity_0f7a4_14 : decode cJ5_newCapacity_0f7a4 14 = .ok (.iload_n 2, 1) := by decide +kernel
theorem dJ5_newCapacity_0f7a4_15 : decode cJ5_newCapacity_0f7a4 15 = .ok (.isub, 1) := by decide +kernel
theorem dJ5_newCapacity_0f7a4_16 : decode cJ5_newCapacity_0f7a4 16 = .ok (.istore 4, 2) := by decide +kernel
theorem dJ5_newCapacity_0f7a4_18 : decode cJ5_newCapacity_0f7a4 18 = .ok (.iload_n 2, 1) := by decide +kernel
theorem dJ5_newCapacity_0f7a4_19 : decode cJ5_newCapacity_0f7a4 19 = .ok (.iload 4, 2) := by decide +kernel
theorem dJ5_newCapacity_0f7a4_21 : decode cJ5_newCapacity_0f7a4 21 = .ok (.iload_n 2, 1) := by decide +kernel
theorem dJ5_newCapacity_0f7a4_22 : decode cJ5_newCapacity_0f7a4 22 = .ok (.iconst 2, 1) := by decide +kernel
theorem dJ5_newCapacity_0f7a4_23 : decode cJ5_newCapacity_0f7a4 23 = .ok (.aload_n 0, 1) := by decide +kernel
theorem dJ5_newCapacity_0f7a4_24 : decode cJ5_newCapacity_0f7a4 24 = .ok (.getfield 22, 3) := by decide +kernel
theorem dJ5_newCapacity_0f7a4_27 : decode cJ5_newCapacity_0f7a4 27 = .ok (.ishl, 1) := by decide +kernel
theorem dJ5_newCapacity_0f7a4_28 : decode cJ5_newCapacity_0f7a4 28 = .ok (.iadd, 1) := by decide +kernel
theorem dJ5_newCapacity_0f7a4_29 : decode cJ5_newCapacity_0f7a4 29 = .ok (.invokestatic 114, 3) := by decide +kernel
theorem dJ5_newCapacity_0f7a4_32 : decode cJ5_newCapacity_0f7a4 32 = .ok (.istore 5, 2) := by decide +kernel
theorem dJ5_newCapacity_0f7a4_34 : decode cJ5_newCapacity_0f7a4 34 = .ok (.iload 5, 2) := by decide +kernel
theorem dJ5_newCapacity_0f7a4_36 : decode cJ5_newCapacity_0f7a4 36 = .ok (.ldc 39, 2) := by decide +kernel
theorem dJ5_newCapacity_0f7a4_38 : decode cJ5_newCapacity_0f7a4 38 = .ok (.if_icmp .ne 13, 3) := by decide +kernel
theorem dJ5_newCapacity_0f7a4_41 : decode cJ5_newCapacity_0f7a4 41 = .ok (.new 120, 3) := by decide +kernel
theorem dJ5_newCapacity_0f7a4_44 : decode cJ5_newCapacity_0f7a4 44 = .ok (.dup, 1) := by decide +kernel
theorem dJ5_newCapacity_0f7a4_45 : decode cJ5_newCapacity_0f7a4 45 = .ok (.ldc 122, 2) := by decide +kernel
theorem dJ5_newCapacity_0f7a4_47 : decode cJ5_newCapacity_0f7a4 47 = .ok (.invokespecial 124, 3) := by decide +kernel
theorem dJ5_newCapacity_0f7a4_50 : decode cJ5_newCapacity_0f7a4 50 = .ok (.athrow, 1) := by decide +kernel
theorem dJ5_newCapacity_0f7a4_51 : decode cJ5_newCapacity_0f7a4 51 = .ok (.iload 5, 2) := by decide +kernel
theorem dJ5_newCapacity_0f7a4_53 : decode cJ5_newCapacity_0f7a4 53 = .ok (.aload_n 0, 1) := by decide +kernel
theorem dJ5_newCapacity_0f7a4_54 : decode cJ5_newCapacity_0f7a4 54 = .ok (.getfield 22, 3) := by decide +kernel
theorem dJ5_newCapacity_0f7a4_57 : decode cJ5_newCapacity_0f7a4 57 = .ok (.ishr, 1) := by decide +kernel
theorem dJ5_newCapacity_0f7a4_58 : decode cJ5_newCapacity_0f7a4 58 = .ok (.ireturn, 1) := by decide +kernel
theorem dJ5_inflate_da8c8_0 : decode cJ5_inflate_da8c8 0 = .ok (.aload_n 0, 1) := by decide +kernel
theorem dJ5_inflate_da8c8_1 : decode cJ5_inflate_da8c8 1 = .ok (.invokevirtual 83, 3) := by decide +kernel
theorem dJ5_inflate_da8c8_4 : decode cJ5_inflate_da8c8 4 = .ok (.ifCond .ne 4, 3) := by decide +kernel
theorem dJ5_inflate_da8c8_7 : decode cJ5_inflate_da8c8 7 = .ok (.return_, 1) := by decide +kernel
theorem dJ5_inflate_da8c8_8 : decode cJ5_inflate_da8c8 8 = .ok (.aload_n 0, 1) := by decide +kernel
theorem dJ5_inflate_da8c8_9 : decode cJ5_inflate_da8c8 9 = .ok (.getfield 15, 3) := by decide +kernel
theorem dJ5_inflate_da8c8_12 : decode cJ5_inflate_da8c8 12 = .ok (.arraylength, 1) := by decide +kernel
theorem dJ5_inflate_da8c8_13 : decode cJ5_inflate_da8c8 13 = .ok (.invokestatic 26, 3) := by decide +kernel
theorem dJ5_inflate_da8c8_16 : decode cJ5_inflate_da8c8 16 = .ok (.astore_n 1, 1) := by decide +kernel
theorem dJ5_inflate_da8c8_17 : decode cJ5_inflate_da8c8 17 = .ok (.aload_n 0, 1) := by decide +kernel
theorem dJ5_inflate_da8c8_18 : decode cJ5_inflate_da8c8 18 = .ok (.getfield 15, 3) := by decide +kernel
theorem dJ5_inflate_da8c8_21 : decode cJ5_inflate_da8c8 21 = .ok (.iconst 0, 1) := by decide +kernel
theorem dJ5_inflate_da8c8_22 : decode cJ5_inflate_da8c8 22 = .ok (.aload_n 1, 1) := by decide +kernel
theorem dJ5_inflate_da8c8_23 : decode cJ5_inflate_da8c8 23 = .ok (.iconst 0, 1) := by decide +kernel
theorem dJ5_inflate_da8c8_24 : decode cJ5_inflate_da8c8 24 = .ok (.aload_n 0, 1) := by decide +kernel
theorem dJ5_inflate_da8c8_25 : decode cJ5_inflate_da8c8 25 = .ok (.getfield 79, 3) := by decide +kernel
theorem dJ5_inflate_da8c8_28 : decode cJ5_inflate_da8c8 28 = .ok (.invokestatic 125, 3) := by decide +kernel
theorem dJ5_inflate_da8c8_31 : decode cJ5_inflate_da8c8 31 = .ok (.aload_n 0, 1) := by decide +kernel
theorem dJ5_inflate_da8c8_32 : decode cJ5_inflate_da8c8 32 = .ok (.aload_n 1, 1) := by decide +kernel
theorem dJ5_inflate_da8c8_33 : decode cJ5_inflate_da8c8 33 = .ok (.putfield 15, 3) := by decide +kernel
theorem dJ5_inflate_da8c8_36 : decode cJ5_inflate_da8c8 36 = .ok (.aload_n 0, 1) := by decide +kernel
theorem dJ5_inflate_da8c8_37 : decode cJ5_inflate_da8c8 37 = .ok (.iconst 1, 1) := by decide +kernel
theorem dJ5_inflate_da8c8_38 : decode cJ5_inflate_da8c8 38 = .ok (.putfield 22, 3) := by decide +kernel
theorem dJ5_inflate_da8c8_41 : decode cJ5_inflate_da8c8 41 = .ok (.return_, 1) := by decide +kernel
theorem dJ5_append_cf1ce_0 : decode cJ5_append_cf1ce 0 = .ok (.aload_n 1, 1) := by decide +kernel
theorem dJ5_append_cf1ce_1 : decode cJ5_append_cf1ce 1 = .ok (.ifnonnull 8, 3) := by decide +kernel
theorem dJ5_append_cf1ce_4 : decode cJ5_append_cf1ce 4 = .ok (.aload_n 0, 1) := by decide +kernel
theorem dJ5_append_cf1ce_5 : decode cJ5_append_cf1ce 5 = .ok (.invokevirtual 204, 3) := by decide +kernel
theorem dJ5_append_cf1ce_8 : decode cJ5_append_cf1ce 8 = .ok (.areturn, 1) := by decide +kernel
theorem dJ5_append_cf1ce_9 : decode cJ5_append_cf1ce 9 = .ok (.aload_n 1, 1) := by decide +kernel
theorem dJ5_append_cf1ce_10 : decode cJ5_append_cf1ce 10 = .ok (.invokevirtual 32, 3) := by decide +kernel
theorem dJ5_append_cf1ce_13 : decode cJ5_append_cf1ce 13 = .ok (.istore_n 2, 1) := by decide +kernel
theorem dJ5_append_cf1ce_14 : decode cJ5_append_cf1ce 14 = .ok (.aload_n 0, 1) := by decide +kernel
theorem dJ5_append_cf1ce_15 : decode cJ5_append_cf1ce 15 = .ok (.aload_n 0, 1) := by decide +kernel
theorem dJ5_append_cf1ce_16 : decode cJ5_append_cf1ce 16 = .ok (.getfield 79, 3) := by decide +kernel
theorem dJ5_append_cf1ce_19 : decode cJ5_append_cf1ce 19 = .ok (.iload_n 2, 1) := by decide +kernel
theorem dJ5_append_cf1ce_20 : decode cJ5_append_cf1ce 20 = .ok (.iadd, 1) := by decide +kernel
theorem dJ5_append_cf1ce_21 : decode cJ5_append_cf1ce 21 = .ok (.invokevirtual 100, 3) := by decide +kernel
theorem dJ5_append_cf1ce_24 : decode cJ5_append_cf1ce 24 = .ok (.aload_n 0, 1) := by decide +kernel
theorem dJ5_append_cf1ce_25 : decode cJ5_append_cf1ce 25 = .ok (.aload_n 0, 1) := by decide +kernel
theorem dJ5_append_cf1ce_26 : decode cJ5_append_cf1ce 26 = .ok (.getfield 79, 3) := by decide +kernel
theorem dJ5_append_cf1ce_29 : decode cJ5_append_cf1ce 29 = .ok (.aload_n 1, 1) := by decide +kernel
theorem dJ5_append_cf1ce_30 : decode cJ5_append_cf1ce 30 = .ok (.invokevirtual 208, 3) := by decide +kernel
theorem dJ5_append_cf1ce_33 : decode cJ5_append_cf1ce 33 = .ok (.aload_n 0, 1) := by decide +kernel
theorem dJ5_append_cf1ce_34 : decode cJ5_append_cf1ce 34 = .ok (.dup, 1) := by decide +kernel
theorem dJ5_append_cf1ce_35 : decode cJ5_append_cf1ce 35 = .ok (.getfield 79, 3) := by decide +kernel
theorem dJ5_append_cf1ce_38 : decode cJ5_append_cf1ce 38 = .ok (.iload_n 2, 1) := by decide +kernel
theorem dJ5_append_cf1ce_39 : decode cJ5_append_cf1ce 39 = .ok (.iadd, 1) := by decide +kernel
theorem dJ5_append_cf1ce_40 : decode cJ5_append_cf1ce 40 = .ok (.putfield 79, 3) := by decide +kernel
theorem dJ5_append_cf1ce_43 : decode cJ5_append_cf1ce 43 = .ok (.aload_n 0, 1) := by decide +kernel
theorem dJ5_append_cf1ce_44 : decode cJ5_append_cf1ce 44 = .ok (.areturn, 1) := by decide +kernel
theorem dJ5_appendNull_278bc_0 : decode cJ5_appendNull_278bc 0 = .ok (.aload_n 0, 1) := by decide +kernel
theorem dJ5_appendNull_278bc_1 : decode cJ5_appendNull_278bc 1 = .ok (.aload_n 0, 1) := by decide +kernel
theorem dJ5_appendNull_278bc_2 : decode cJ5_appendNull_278bc 2 = .ok (.getfield 79, 3) := by decide +kernel
theorem dJ5_appendNull_278bc_5 : decode cJ5_appendNull_278bc 5 = .ok (.iconst 4, 1) := by decide +kernel
theorem dJ5_appendNull_278bc_6 : decode cJ5_appendNull_278bc 6 = .ok (.iadd, 1) := by decide +kernel
theorem dJ5_appendNull_278bc_7 : decode cJ5_appendNull_278bc 7 = .ok (.invokevirtual 100, 3) := by decide +kernel
theorem dJ5_appendNull_278bc_10 : decode cJ5_appendNull_278bc 10 = .ok (.aload_n 0, 1) := by decide +kernel
theorem dJ5_appendNull_278bc_11 : decode cJ5_appendNull_278bc 11 = .ok (.getfield 79, 3) := by decide +kernel
theorem dJ5_appendNull_278bc_14 : decode cJ5_appendNull_278bc 14 = .ok (.istore_n 1, 1) := by decide +kernel
theorem dJ5_appendNull_278bc_15 : decode cJ5_appendNull_278bc 15 = .ok (.aload_n 0, 1) := by decide +kernel
theorem dJ5_appendNull_278bc_16 : decode cJ5_appendNull_278bc 16 = .ok (.getfield 15, 3) := by decide +kernel
theorem dJ5_appendNull_278bc_19 : decode cJ5_appendNull_278bc 19 = .ok (.astore_n 2, 1) := by decide +kernel
theorem dJ5_appendNull_278bc_20 : decode cJ5_appendNull_278bc 20 = .ok (.aload_n 0, 1) := by decide +kernel
theorem dJ5_appendNull_278bc_21 : decode cJ5_appendNull_278bc 21 = .ok (.invokevirtual 83, 3) := by decide +kernel
theorem dJ5_appendNull_278bc_24 : decode cJ5_appendNull_278bc 24 = .ok (.ifCond .eq 38, 3) := by decide +kernel
theorem dJ5_appendNull_278bc_27 : decode cJ5_appendNull_278bc 27 = .ok (.aload_n 2, 1) := by decide +kernel
theorem dJ5_appendNull_278bc_28 : decode cJ5_appendNull_278bc 28 = .ok (.iload_n 1, 1) := by decide +kernel
theorem dJ5_appendNull_278bc_29 : decode cJ5_appendNull_278bc 29 = .ok (.iinc 1 1, 3) := by decide +kernel
theorem dJ5_appendNull_278bc_32 : decode cJ5_appendNull_278bc 32 = .ok (.bipush 110, 2) := by decide +kernel
theorem dJ5_appendNull_278bc_34 : decode cJ5_appendNull_278bc 34 = .ok (.bastore, 1) := by decide +kernel
theorem dJ5_appendNull_278bc_35 : decode cJ5_appendNull_278bc 35 = .ok (.aload_n 2, 1) := by decide +kernel
theorem dJ5_appendNull_278bc_36 : decode cJ5_appendNull_278bc 36 = .ok (.iload_n 1, 1) := by decide +kernel
theorem dJ5_appendNull_278bc_37 : decode cJ5_appendNull_278bc 37 = .ok (.iinc 1 1, 3) := by decide +kernel
theorem dJ5_appendNull_278bc_40 : decode cJ5_appendNull_278bc 40 = .ok (.bipush 117, 2) := by decide +kernel
theorem dJ5_appendNull_278bc_42 : decode cJ5_appendNull_278bc 42 = .ok (.bastore, 1) := by decide +kernel
theorem dJ5_appendNull_278bc_43 : decode cJ5_appendNull_278bc 43 = .ok (.aload_n 2, 1) := by decide +kernel
theorem dJ5_appendNull_278bc_44 : decode cJ5_appendNull_278bc 44 = .ok (.iload_n 1, 1) := by decide +kernel
theorem dJ5_appendNull_278bc_45 : decode cJ5_appendNull_278bc 45 = .ok (.iinc 1 1, 3) := by decide +kernel
theorem dJ5_appendNull_278bc_48 : decode cJ5_appendNull_278bc 48 = .ok (.bipush 108, 2) := by decide +kernel
theorem dJ5_appendNull_278bc_50 : decode cJ5_appendNull_278bc 50 = .ok (.bastore, 1) := by decide +kernel
theorem dJ5_appendNull_278bc_51 : decode cJ5_appendNull_278bc 51 = .ok (.aload_n 2, 1) := by decide +kernel
theorem dJ5_appendNull_278bc_52 : decode cJ5_appendNull_278bc 52 = .ok (.iload_n 1, 1) := by decide +kernel
theorem dJ5_appendNull_278bc_53 : decode cJ5_appendNull_278bc 53 = .ok (.iinc 1 1, 3) := by decide +kernel
theorem dJ5_appendNull_278bc_56 : decode cJ5_appendNull_278bc 56 = .ok (.bipush 108, 2) := by decide +kernel
theorem dJ5_appendNull_278bc_58 : decode cJ5_appendNull_278bc 58 = .ok (.bastore, 1) := by decide +kernel
theorem dJ5_appendNull_278bc_59 : decode cJ5_appendNull_278bc 59 = .ok (.goto 17, 3) := by decide +kernel
theorem dJ5_appendNull_278bc_62 : decode cJ5_appendNull_278bc 62 = .ok (.aload_n 2, 1) := by decide +kernel
theorem dJ5_appendNull_278bc_63 : decode cJ5_appendNull_278bc 63 = .ok (.iload_n 1, 1) := by decide +kernel
theorem dJ5_appendNull_278bc_64 : decode cJ5_appendNull_278bc 64 = .ok (.bipush 110, 2) := by decide +kernel
theorem dJ5_appendNull_278bc_66 : decode cJ5_appendNull_278bc 66 = .ok (.bipush 117, 2) := by decide +kernel
theorem dJ5_appendNull_278bc_68 : decode cJ5_appendNull_278bc 68 = .ok (.bipush 108, 2) := by decide +kernel
theorem dJ5_appendNull_278bc_70 : decode cJ5_appendNull_278bc 70 = .ok (.bipush 108, 2) := by decide +kernel
theorem dJ5_appendNull_278bc_72 : decode cJ5_appendNull_278bc 72 = .ok (.invokestatic 226, 3) := by decide +kernel
theorem dJ5_appendNull_278bc_75 : decode cJ5_appendNull_278bc 75 = .ok (.istore_n 1, 1) := by decide +kernel
theorem dJ5_appendNull_278bc_76 : decode cJ5_appendNull_278bc 76 = .ok (.aload_n 0, 1) := by decide +kernel
theorem dJ5_appendNull_278bc_77 : decode cJ5_appendNull_278bc 77 = .ok (.iload_n 1, 1) := by decide +kernel
theorem dJ5_appendNull_278bc_78 : decode cJ5_appendNull_278bc 78 = .ok (.putfield 79, 3) := by decide +kernel
theorem dJ5_appendNull_278bc_81 : decode cJ5_appendNull_278bc 81 = .ok (.aload_n 0, 1) := by decide +kernel
theorem dJ5_appendNull_278bc_82 : decode cJ5_appendNull_278bc 82 = .ok (.areturn, 1) := by decide +kernel
theorem dJ5_append_3fe6f_0 : decode cJ5_append_3fe6f 0 = .ok (.aload_n 0, 1) := by decide +kernel
theorem dJ5_append_3fe6f_1 : decode cJ5_append_3fe6f 1 = .ok (.aload_n 0, 1) := by decide +kernel
theorem dJ5_append_3fe6f_2 : decode cJ5_append_3fe6f 2 = .ok (.getfield 79, 3) := by decide +kernel
theorem dJ5_append_3fe6f_5 : decode cJ5_append_3fe6f 5 = .ok (.iconst 1, 1) := by decide +kernel
theorem dJ5_append_3fe6f_6 : decode cJ5_append_3fe6f 6 = .ok (.iadd, 1) := by decide +kernel
theorem dJ5_append_3fe6f_7 : decode cJ5_append_3fe6f 7 = .ok (.invokevirtual 100, 3) := by decide +kernel
theorem dJ5_append_3fe6f_10 : decode cJ5_append_3fe6f 10 = .ok (.aload_n 0, 1) := by decide +kernel
theorem dJ5_append_3fe6f_11 : decode cJ5_append_3fe6f 11 = .ok (.invokevirtual 83, 3) := by decide +kernel
theorem dJ5_append_3fe6f_14 : decode cJ5_append_3fe6f 14 = .ok (.ifCond .eq 31, 3) := by decide +kernel
theorem dJ5_append_3fe6f_17 : decode cJ5_append_3fe6f 17 = .ok (.iload_n 1, 1) := by decide +kernel
theorem dJ5_append_3fe6f_18 : decode cJ5_append_3fe6f 18 = .ok (.invokestatic 191, 3) := by decide +kernel
theorem dJ5_append_3fe6f_21 : decode cJ5_append_3fe6f 21 = .ok (.ifCond .eq 24, 3) := by decide +kernel
theorem dJ5_append_3fe6f_24 : decode cJ5_append_3fe6f 24 = .ok (.aload_n 0, 1) := by decide +kernel
theorem dJ5_append_3fe6f_25 : decode cJ5_append_3fe6f 25 = .ok (.getfield 15, 3) := by decide +kernel
theorem dJ5_append_3fe6f_28 : decode cJ5_append_3fe6f 28 = .ok (.aload_n 0, 1) := by decide +kernel
theorem dJ5_append_3fe6f_29 : decode cJ5_append_3fe6f 29 = .ok (.dup, 1) := by decide +kernel
theorem dJ5_append_3fe6f_30 : decode cJ5_append_3fe6f 30 = .ok (.getfield 79, 3) := by decide +kernel
theorem dJ5_append_3fe6f_33 : decode cJ5_append_3fe6f 33 = .ok (.dup_x1, 1) := by decide +kernel
theorem dJ5_append_3fe6f_34 : decode cJ5_append_3fe6f 34 = .ok (.iconst 1, 1) := by decide +kernel
theorem dJ5_append_3fe6f_35 : decode cJ5_append_3fe6f 35 = .ok (.iadd, 1) := by decide +kernel
theorem dJ5_append_3fe6f_36 : decode cJ5_append_3fe6f 36 = .ok (.putfield 79, 3) := by decide +kernel
theorem dJ5_append_3fe6f_39 : decode cJ5_append_3fe6f 39 = .ok (.iload_n 1, 1) := by decide +kernel
theorem dJ5_append_3fe6f_40 : decode cJ5_append_3fe6f 40 = .ok (.i2b, 1) := by decide +kernel
theorem dJ5_append_3fe6f_41 : decode cJ5_append_3fe6f 41 = .ok (.bastore, 1) := by decide +kernel
theorem dJ5_append_3fe6f_42 : decode cJ5_append_3fe6f 42 = .ok (.goto 33, 3) := by decide +kernel
theorem dJ5_append_3fe6f_45 : decode cJ5_append_3fe6f 45 = .ok (.aload_n 0, 1) := by decide +kernel
theorem dJ5_append_3fe6f_46 : decode cJ5_append_3fe6f 46 = .ok (.invokevirtual 83, 3) := by decide +kernel
theorem dJ5_append_3fe6f_49 : decode cJ5_append_3fe6f 49 = .ok (.ifCond .eq 7, 3) := by decide +kernel
theorem dJ5_append_3fe6f_52 : decode cJ5_append_3fe6f 52 = .ok (.aload_n 0, 1) := by decide +kernel
theorem dJ5_append_3fe6f_53 : decode cJ5_append_3fe6f 53 = .ok (.invokevirtual 195, 3) := by decide +kernel
theorem dJ5_append_3fe6f_56 : decode cJ5_append_3fe6f 56 = .ok (.aload_n 0, 1) := by decide +kernel
theorem dJ5_append_3fe6f_57 : decode cJ5_append_3fe6f 57 = .ok (.getfield 15, 3) := by decide +kernel
theorem dJ5_append_3fe6f_60 : decode cJ5_append_3fe6f 60 = .ok (.aload_n 0, 1) := by decide +kernel
theorem dJ5_append_3fe6f_61 : decode cJ5_append_3fe6f 61 = .ok (.dup, 1) := by decide +kernel
theorem dJ5_append_3fe6f_62 : decode cJ5_append_3fe6f 62 = .ok (.getfield 79, 3) := by decide +kernel
theorem dJ5_append_3fe6f_65 : decode cJ5_append_3fe6f 65 = .ok (.dup_x1, 1) := by decide +kernel
theorem dJ5_append_3fe6f_66 : decode cJ5_append_3fe6f 66 = .ok (.iconst 1, 1) := by decide +kernel
theorem dJ5_append_3fe6f_67 : decode cJ5_append_3fe6f 67 = .ok (.iadd, 1) := by decide +kernel
theorem dJ5_append_3fe6f_68 : decode cJ5_append_3fe6f 68 = .ok (.putfield 79, 3) := by decide +kernel
theorem dJ5_append_3fe6f_71 : decode cJ5_append_3fe6f 71 = .ok (.iload_n 1, 1) := by decide +kernel
theorem dJ5_append_3fe6f_72 : decode cJ5_append_3fe6f 72 = .ok (.invokestatic 197, 3) := by decide +kernel
theorem dJ5_append_3fe6f_75 : decode cJ5_append_3fe6f 75 = .ok (.aload_n 0, 1) := by decide +kernel
theorem dJ5_append_3fe6f_76 : decode cJ5_append_3fe6f 76 = .ok (.areturn, 1) := by decide +kernel
theorem dJ5_append_c97b9_0 : decode cJ5_append_c97b9 0 = .ok (.aload_n 0, 1) := by decide +kernel
theorem dJ5_append_c97b9_1 : decode cJ5_append_c97b9 1 = .ok (.getfield 79, 3) := by decide +kernel
theorem dJ5_append_c97b9_4 : decode cJ5_append_c97b9 4 = .ok (.istore_n 2, 1) := by decide +kernel
theorem dJ5_append_c97b9_5 : decode cJ5_append_c97b9 5 = .ok (.iload_n 2, 1) := by decide +kernel
theorem dJ5_append_c97b9_6 : decode cJ5_append_c97b9 6 = .ok (.iload_n 1, 1) := by decide +kernel
theorem dJ5_append_c97b9_7 : decode cJ5_append_c97b9 7 = .ok (.invokestatic 245, 3) := by decide +kernel
theorem dJ5_append_c97b9_10 : decode cJ5_append_c97b9 10 = .ok (.iadd, 1) := by decide +kernel
theorem dJ5_append_c97b9_11 : decode cJ5_append_c97b9 11 = .ok (.istore_n 3, 1) := by decide +kernel
theorem dJ5_append_c97b9_12 : decode cJ5_append_c97b9 12 = .ok (.aload_n 0, 1) := by decide +kernel
theorem dJ5_append_c97b9_13 : decode cJ5_append_c97b9 13 = .ok (.iload_n 3, 1) := by decide +kernel
theorem dJ5_append_c97b9_14 : decode cJ5_append_c97b9 14 = .ok (.invokevirtual 100, 3) := by decide +kernel
theorem dJ5_append_c97b9_17 : decode cJ5_append_c97b9 17 = .ok (.aload_n 0, 1) := by decide +kernel
theorem dJ5_append_c97b9_18 : decode cJ5_append_c97b9 18 = .ok (.invokevirtual 83, 3) := by decide +kernel
theorem dJ5_append_c97b9_21 : decode cJ5_append_c97b9 21 = .ok (.ifCond .eq 16, 3) := by decide +kernel
theorem dJ5_append_c97b9_24 : decode cJ5_append_c97b9 24 = .ok (.iload_n 1, 1) := by decide +kernel
theorem dJ5_append_c97b9_25 : decode cJ5_append_c97b9 25 = .ok (.iload_n 3, 1) := by decide +kernel
theorem dJ5_append_c97b9_26 : decode cJ5_append_c97b9 26 = .ok (.aload_n 0, 1) := by decide +kernel
theorem dJ5_append_c97b9_27 : decode cJ5_append_c97b9 27 = .ok (.getfield 15, 3) := by decide +kernel
theorem dJ5_append_c97b9_30 : decode cJ5_append_c97b9 30 = .ok (.invokestatic 248, 3) := by decide +kernel
theorem dJ5_append_c97b9_33 : decode cJ5_append_c97b9 33 = .ok (.pop, 1) := by decide +kernel
theorem dJ5_append_c97b9_34 : decode cJ5_append_c97b9 34 = .ok (.goto 14, 3) := by decide +kernel
theorem dJ5_append_c97b9_37 : decode cJ5_append_c97b9 37 = .ok (.iload_n 1, 1) := by decide +kernel
theorem dJ5_append_c97b9_38 : decode cJ5_append_c97b9 38 = .ok (.iload_n 2, 1) := by decide +kernel
theorem dJ5_append_c97b9_39 : decode cJ5_append_c97b9 39 = .ok (.iload_n 3, 1) := by decide +kernel
theorem dJ5_append_c97b9_40 : decode cJ5_append_c97b9 40 = .ok (.aload_n 0, 1) := by decide +kernel
theorem dJ5_append_c97b9_41 : decode cJ5_append_c97b9 41 = .ok (.getfield 15, 3) := by decide +kernel
theorem dJ5_append_c97b9_44 : decode cJ5_append_c97b9 44 = .ok (.invokestatic 251, 3) := by decide +kernel
theorem dJ5_append_c97b9_47 : decode cJ5_append_c97b9 47 = .ok (.pop, 1) := by decide +kernel
theorem dJ5_append_c97b9_48 : decode cJ5_append_c97b9 48 = .ok (.aload_n 0, 1) := by decide +kernel
theorem dJ5_append_c97b9_49 : decode cJ5_append_c97b9 49 = .ok (.iload_n 3, 1) := by decide +kernel
theorem dJ5_append_c97b9_50 : decode cJ5_append_c97b9 50 = .ok (.putfield 79, 3) := by decide +kernel
theorem dJ5_append_c97b9_53 : decode cJ5_append_c97b9 53 = .ok (.aload_n 0, 1) := by decide +kernel
theorem dJ5_append_c97b9_54 : decode cJ5_append_c97b9 54 = .ok (.areturn, 1) := by decide +kernel
theorem dJ5_getValue_6d5f1_0 : decode cJ5_getValue_6d5f1 0 = .ok (.aload_n 0, 1) := by decide +kernel
theorem dJ5_getValue_6d5f1_1 : decode cJ5_getValue_6d5f1 1 = .ok (.getfield 15, 3) := by decide +kernel
theorem dJ5_getValue_6d5f1_4 : decode cJ5_getValue_6d5f1 4 = .ok (.areturn, 1) := by decide +kernel
theorem dJ5_isLatin1_aae02_0 : decode cJ5_isLatin1_aae02 0 = .ok (.getstatic 18, 3) := by decide +kernel
theorem dJ5_isLatin1_aae02_3 : decode cJ5_isLatin1_aae02 3 = .ok (.ifCond .eq 14, 3) := by decide +kernel
theorem dJ5_isLatin1_aae02_6 : decode cJ5_isLatin1_aae02 6 = .ok (.aload_n 0, 1) := by decide +kernel
theorem dJ5_isLatin1_aae02_7 : decode cJ5_isLatin1_aae02 7 = .ok (.getfield 22, 3) := by decide +kernel
theorem dJ5_isLatin1_aae02_10 : decode cJ5_isLatin1_aae02 10 = .ok (.ifCond .ne 7, 3) := by decide +kernel
theorem dJ5_isLatin1_aae02_13 : decode cJ5_isLatin1_aae02 13 = .ok (.iconst 1, 1) := by decide +kernel
theorem dJ5_isLatin1_aae02_14 : decode cJ5_isLatin1_aae02 14 = .ok (.goto 4, 3) := by decide +kernel
theorem dJ5_isLatin1_aae02_17 : decode cJ5_isLatin1_aae02 17 = .ok (.iconst 0, 1) := by decide +kernel
theorem dJ5_isLatin1_aae02_18 : decode cJ5_isLatin1_aae02 18 = .ok (.ireturn, 1) := by decide +kernel
theorem dJ5_inflateIfNeededFor_a7421_0 : decode cJ5_inflateIfNeededFor_a7421 0 = .ok (.getstatic 18, 3) := by decide +kernel
theorem dJ5_inflateIfNeededFor_a7421_3 : decode cJ5_inflateIfNeededFor_a7421 3 = .ok (.ifCond .eq 18, 3) := by decide +kernel
theorem dJ5_inflateIfNeededFor_a7421_6 : decode cJ5_inflateIfNeededFor_a7421 6 = .ok (.aload_n 0, 1) := by decide +kernel
theorem dJ5_inflateIfNeededFor_a7421_7 : decode cJ5_inflateIfNeededFor_a7421 7 = .ok (.getfield 22, 3) := by decide +kernel
theorem dJ5_inflateIfNeededFor_a7421_10 : decode cJ5_inflateIfNeededFor_a7421 10 = .ok (.aload_n 1, 1) := by decide +kernel
theorem dJ5_inflateIfNeededFor_a7421_11 : decode cJ5_inflateIfNeededFor_a7421 11 = .ok (.invokevirtual 40, 3) := by decide +kernel
theorem dJ5_inflateIfNeededFor_a7421_14 : decode cJ5_inflateIfNeededFor_a7421 14 = .ok (.if_icmp .eq 7, 3) := by decide +kernel
theorem dJ5_inflateIfNeededFor_a7421_17 : decode cJ5_inflateIfNeededFor_a7421 17 = .ok (.aload_n 0, 1) := by decide +kernel
theorem dJ5_inflateIfNeededFor_a7421_18 : decode cJ5_inflateIfNeededFor_a7421 18 = .ok (.invokevirtual 195, 3) := by decide +kernel
theorem dJ5_inflateIfNeededFor_a7421_21 : decode cJ5_inflateIfNeededFor_a7421 21 = .ok (.return_, 1) := by decide +kernel
theorem dJ5_putStringAt_47b60_0 : decode cJ5_putStringAt_47b60 0 = .ok (.aload_n 0, 1) := by decide +kernel
theorem dJ5_putStringAt_47b60_1 : decode cJ5_putStringAt_47b60 1 = .ok (.aload_n 2, 1) := by decide +kernel
theorem dJ5_putStringAt_47b60_2 : decode cJ5_putStringAt_47b60 2 = .ok (.invokevirtual 397, 3) := by decide +kernel
theorem dJ5_putStringAt_47b60_5 : decode cJ5_putStringAt_47b60 5 = .ok (.aload_n 2, 1) := by decide +kernel
theorem dJ5_putStringAt_47b60_6 : decode cJ5_putStringAt_47b60 6 = .ok (.aload_n 0, 1) := by decide +kernel
theorem dJ5_putStringAt_47b60_7 : decode cJ5_putStringAt_47b60 7 = .ok (.getfield 15, 3) := by decide +kernel
theorem dJ5_putStringAt_47b60_10 : decode cJ5_putStringAt_47b60 10 = .ok (.iload_n 1, 1) := by decide +kernel
theorem dJ5_putStringAt_47b60_11 : decode cJ5_putStringAt_47b60 11 = .ok (.aload_n 0, 1) := by decide +kernel
theorem dJ5_putStringAt_47b60_12 : decode cJ5_putStringAt_47b60 12 = .ok (.getfield 22, 3) := by decide +kernel
theorem dJ5_putStringAt_47b60_15 : decode cJ5_putStringAt_47b60 15 = .ok (.invokevirtual 399, 3) := by decide +kernel
theorem dJ5_putStringAt_47b60_18 : decode cJ5_putStringAt_47b60 18 = .ok (.return_, 1) := by decide +kernel
theorem dJ6_getChars_ba4f3_0 : decode cJ6_getChars_ba4f3 0 = .ok (.iload_n 1, 1) := by decide +kernel
theorem dJ6_getChars_ba4f3_1 : decode cJ6_getChars_ba4f3 1 = .ok (.istore 5, 2) := by decide +kernel
theorem dJ6_getChars_ba4f3_3 : decode cJ6_getChars_ba4f3 3 = .ok (.iload_n 0, 1) := by decide +kernel
theorem dJ6_getChars_ba4f3_4 : decode cJ6_getChars_ba4f3 4 = .ok (.ifCond .ge 7, 3) := by decide +kernel
theorem dJ6_getChars_ba4f3_7 : decode cJ6_getChars_ba4f3 7 = .ok (.iconst 1, 1) := by decide +kernel
theorem dJ6_getChars_ba4f3_8 : decode cJ6_getChars_ba4f3 8 = .ok (.goto 4, 3) := by decide +kernel
theorem dJ6_getChars_ba4f3_11 : decode cJ6_getChars_ba4f3 11 = .ok (.iconst 0, 1) := by decide +kernel
theorem dJ6_getChars_ba4f3_12 : decode cJ6_getChars_ba4f3 12 = .ok (.istore 6, 2) := by decide +kernel
theorem dJ6_getChars_ba4f3_14 : decode cJ6_getChars_ba4f3 14 = .ok (.iload 6, 2) := by decide +kernel
theorem dJ6_getChars_ba4f3_16 : decode cJ6_getChars_ba4f3 16 = .ok (.ifCond .ne 6, 3) := by decide +kernel
theorem dJ6_getChars_ba4f3_19 : decode cJ6_getChars_ba4f3 19 = .ok (.iload_n 0, 1) := by decide +kernel
theorem dJ6_getChars_ba4f3_20 : decode cJ6_getChars_ba4f3 20 = .ok (.ineg, 1) := by decide +kernel
theorem dJ6_getChars_ba4f3_21 : decode cJ6_getChars_ba4f3 21 = .ok (.istore_n 0, 1) := by decide +kernel
theorem dJ6_getChars_ba4f3_22 : decode cJ6_getChars_ba4f3 22 = .ok (.iload_n 0, 1) := by decide +kernel
theorem dJ6_getChars_ba4f3_23 : decode cJ6_getChars_ba4f3 23 = .ok (.bipush (-100), 2) := by decide +kernel
theorem dJ6_getChars_ba4f3_25 : decode cJ6_getChars_ba4f3 25 = .ok (.if_icmp .gt 47, 3) := by decide +kernel
theorem dJ6_getChars_ba4f3_28 : decode cJ6_getChars_ba4f3 28 = .ok (.iload_n 0, 1) := by decide +kernel
theorem dJ6_getChars_ba4f3_29 : decode cJ6_getChars_ba4f3 29 = .ok (.bipush 100, 2) := by decide +kernel
theorem dJ6_getChars_ba4f3_31 : decode cJ6_getChars_ba4f3 31 = .ok (.idiv, 1) := by decide +kernel
theorem dJ6_getChars_ba4f3_32 : decode cJ6_getChars_ba4f3 32 = .ok (.istore_n 3, 1) := by decide +kernel
theorem dJ6_getChars_ba4f3_33 : decode cJ6_getChars_ba4f3 33 = .ok (.iload_n 3, 1) := by decide +kernel
theorem dJ6_getChars_ba4f3_34 : decode cJ6_getChars_ba4f3 34 = .ok (.bipush 100, 2) := by decide +kernel
theorem dJ6_getChars_ba4f3_36 : decode cJ6_getChars_ba4f3 36 = .ok (.imul, 1) := by decide +kernel
theorem dJ6_getChars_ba4f3_37 : decode cJ6_getChars_ba4f3 37 = .ok (.iload_n 0, 1) := by decide +kernel
theorem dJ6_getChars_ba4f3_38 : decode cJ6_getChars_ba4f3 38 = .ok (.isub, 1) := by decide +kernel
theorem dJ6_getChars_ba4f3_39 : decode cJ6_getChars_ba4f3 39 = .ok (.istore 4, 2) := by decide +kernel
theorem dJ6_getChars_ba4f3_41 : decode cJ6_getChars_ba4f3 41 = .ok (.iload_n 3, 1) := by decide +kernel
theorem dJ6_getChars_ba4f3_42 : decode cJ6_getChars_ba4f3 42 = .ok (.istore_n 0, 1) := by decide +kernel
theorem dJ6_getChars_ba4f3_43 : decode cJ6_getChars_ba4f3 43 = .ok (.aload_n 2, 1) := by decide +kernel
theorem dJ6_getChars_ba4f3_44 : decode cJ6_getChars_ba4f3 44 = .ok (.iinc 5 (-1), 3) := by decide +kernel
theorem dJ6_getChars_ba4f3_47 : decode cJ6_getChars_ba4f3 47 = .ok (.iload 5, 2) := by decide +kernel
theorem dJ6_getChars_ba4f3_49 : decode cJ6_getChars_ba4f3 49 = .ok (.getstatic 83, 3) := by decide +kernel
theorem dJ6_getChars_ba4f3_52 : decode cJ6_getChars_ba4f3 52 = .ok (.iload 4, 2) := by decide +kernel
theorem dJ6_getChars_ba4f3_54 : decode cJ6_getChars_ba4f3 54 = .ok (.baload, 1) := by decide +kernel
theorem dJ6_getChars_ba4f3_55 : decode cJ6_getChars_ba4f3 55 = .ok (.bastore, 1) := by decide +kernel
theorem dJ6_getChars_ba4f3_56 : decode cJ6_getChars_ba4f3 56 = .ok (.aload_n 2, 1) := by decide +kernel
theorem dJ6_getChars_ba4f3_57 : decode cJ6_getChars_ba4f3 57 = .ok (.iinc 5 (-1), 3) := by decide +kernel
theorem dJ6_getChars_ba4f3_60 : decode cJ6_getChars_ba4f3 60 = .ok (.iload 5, 2) := by decide +kernel
theorem dJ6_getChars_ba4f3_62 : decode cJ6_getChars_ba4f3 62 = .ok (.getstatic 87, 3) := by decide +kernel
theorem dJ6_getChars_ba4f3_65 : decode cJ6_getChars_ba4f3 65 = .ok (.iload 4, 2) := by decide +kernel
theorem dJ6_getChars_ba4f3_67 : decode cJ6_getChars_ba4f3 67 = .ok (.baload, 1) := by decide +kernel
theorem dJ6_getChars_ba4f3_68 : decode cJ6_getChars_ba4f3 68 = .ok (.bastore, 1) := by decide +kernel
theorem dJ6_getChars_ba4f3_69 : decode cJ6_getChars_ba4f3 69 = .ok (.goto (-47), 3) := by decide +kernel
theorem dJ6_getChars_ba4f3_72 : decode cJ6_getChars_ba4f3 72 = .ok (.aload_n 2, 1) := by decide +kernel
theorem dJ6_getChars_ba4f3_73 : decode cJ6_getChars_ba4f3 73 = .ok (.iinc 5 (-1), 3) := by decide +kernel
theorem dJ6_getChars_ba4f3_76 : decode cJ6_getChars_ba4f3 76 = .ok (.iload 5, 2) := by decide +kernel
theorem dJ6_getChars_ba4f3_78 : decode cJ6_getChars_ba4f3 78 = .ok (.getstatic 83, 3) := by decide +kernel
theorem dJ6_getChars_ba4f3_81 : decode cJ6_getChars_ba4f3 81 = .ok (.iload_n 0, 1) := by decide +kernel
theorem dJ6_getChars_ba4f3_82 : decode cJ6_getChars_ba4f3 82 = .ok (.ineg, 1) := by decide +kernel
theorem dJ6_getChars_ba4f3_83 : decode cJ6_getChars_ba4f3 83 = .ok (.baload, 1) := by decide +kernel
theorem dJ6_getChars_ba4f3_84 : decode cJ6_getChars_ba4f3 84 = .ok (.bastore, 1) := by decide +kernel
theorem dJ6_getChars_ba4f3_85 : decode cJ6_getChars_ba4f3 85 = .ok (.iload_n 0, 1) := by decide +kernel
theorem dJ6_getChars_ba4f3_86 : decode cJ6_getChars_ba4f3 86 = .ok (.bipush (-9), 2) := by decide +kernel
theorem dJ6_getChars_ba4f3_88 : decode cJ6_getChars_ba4f3 88 = .ok (.if_icmp .ge 16, 3) := by decide +kernel
theorem dJ6_getChars_ba4f3_91 : decode cJ6_getChars_ba4f3 91 = .ok (.aload_n 2, 1) := by decide +kernel
theorem dJ6_getChars_ba4f3_92 : decode cJ6_getChars_ba4f3 92 = .ok (.iinc 5 (-1), 3) := by decide +kernel
theorem dJ6_getChars_ba4f3_95 : decode cJ6_getChars_ba4f3 95 = .ok (.iload 5, 2) := by decide +kernel
theorem dJ6_getChars_ba4f3_97 : decode cJ6_getChars_ba4f3 97 = .ok (.getstatic 87, 3) := by decide +kernel
theorem dJ6_getChars_ba4f3_100 : decode cJ6_getChars_ba4f3 100 = .ok (.iload_n 0, 1) := by decide +kernel
theorem dJ6_getChars_ba4f3_101 : decode cJ6_getChars_ba4f3 101 = .ok (.ineg, 1) := by decide +kernel
theorem dJ6_getChars_ba4f3_102 : decode cJ6_getChars_ba4f3 102 = .ok (.baload, 1) := by decide +kernel
theorem dJ6_getChars_ba4f3_103 : decode cJ6_getChars_ba4f3 103 = .ok (.bastore, 1) := by decide +kernel
theorem dJ6_getChars_ba4f3_104 : decode cJ6_getChars_ba4f3 104 = .ok (.iload 6, 2) := by decide +kernel
theorem dJ6_getChars_ba4f3_106 : decode cJ6_getChars_ba4f3 106 = .ok (.ifCond .eq 12, 3) := by decide +kernel
theorem dJ6_getChars_ba4f3_109 : decode cJ6_getChars_ba4f3 109 = .ok (.aload_n 2, 1) := by decide +kernel
theorem dJ6_getChars_ba4f3_110 : decode cJ6_getChars_ba4f3 110 = .ok (.iinc 5 (-1), 3) := by decide +kernel
theorem dJ6_getChars_ba4f3_113 : decode cJ6_getChars_ba4f3 113 = .ok (.iload 5, 2) := by decide +kernel
theorem dJ6_getChars_ba4f3_115 : decode cJ6_getChars_ba4f3 115 = .ok (.bipush 45, 2) := by decide +kernel
theorem dJ6_getChars_ba4f3_117 : decode cJ6_getChars_ba4f3 117 = .ok (.bastore, 1) := by decide +kernel
theorem dJ6_getChars_ba4f3_118 : decode cJ6_getChars_ba4f3 118 = .ok (.iload 5, 2) := by decide +kernel
theorem dJ6_getChars_ba4f3_120 : decode cJ6_getChars_ba4f3 120 = .ok (.ireturn, 1) := by decide +kernel
theorem dJ6_stringSize_0f7a4_0 : decode cJ6_stringSize_0f7a4 0 = .ok (.iconst 1, 1) := by decide +kernel
theorem dJ6_stringSize_0f7a4_1 : decode cJ6_stringSize_0f7a4 1 = .ok (.istore_n 1, 1) := by decide +kernel
theorem dJ6_stringSize_0f7a4_2 : decode cJ6_stringSize_0f7a4 2 = .ok (.iload_n 0, 1) := by decide +kernel
theorem dJ6_stringSize_0f7a4_3 : decode cJ6_stringSize_0f7a4 3 = .ok (.ifCond .lt 8, 3) := by decide +kernel
theorem dJ6_stringSize_0f7a4_6 : decode cJ6_stringSize_0f7a4 6 = .ok (.iconst 0, 1) := by decide +kernel
theorem dJ6_stringSize_0f7a4_7 : decode cJ6_stringSize_0f7a4 7 = .ok (.istore_n 1, 1) := by decide +kernel
theorem dJ6_stringSize_0f7a4_8 : decode cJ6_stringSize_0f7a4 8 = .ok (.iload_n 0, 1) := by decide +kernel
theorem dJ6_stringSize_0f7a4_9 : decode cJ6_stringSize_0f7a4 9 = .ok (.ineg, 1) := by decide +kernel
theorem dJ6_stringSize_0f7a4_10 : decode cJ6_stringSize_0f7a4 10 = .ok (.istore_n 0, 1) := by decide +kernel
theorem dJ6_stringSize_0f7a4_11 : decode cJ6_stringSize_0f7a4 11 = .ok (.bipush (-10), 2) := by decide +kernel
theorem dJ6_stringSize_0f7a4_13 : decode cJ6_stringSize_0f7a4 13 = .ok (.istore_n 2, 1) := by decide +kernel
theorem dJ6_stringSize_0f7a4_14 : decode cJ6_stringSize_0f7a4 14 = .ok (.iconst 1, 1) := by decide +kernel
theorem dJ6_stringSize_0f7a4_15 : decode cJ6_stringSize_0f7a4 15 = .ok (.istore_n 3, 1) := by decide +kernel
theorem dJ6_stringSize_0f7a4_16 : decode cJ6_stringSize_0f7a4 16 = .ok (.iload_n 3, 1) := by decide +kernel
theorem dJ6_stringSize_0f7a4_17 : decode cJ6_stringSize_0f7a4 17 = .ok (.bipush 10, 2) := by decide +kernel
theorem dJ6_stringSize_0f7a4_19 : decode cJ6_stringSize_0f7a4 19 = .ok (.if_icmp .ge 23, 3) := by decide +kernel
theorem dJ6_stringSize_0f7a4_22 : decode cJ6_stringSize_0f7a4 22 = .ok (.iload_n 0, 1) := by decide +kernel
theorem dJ6_stringSize_0f7a4_23 : decode cJ6_stringSize_0f7a4 23 = .ok (.iload_n 2, 1) := by decide +kernel
theorem dJ6_stringSize_0f7a4_24 : decode cJ6_stringSize_0f7a4 24 = .ok (.if_icmp .le 7, 3) := by decide +kernel
theorem dJ6_stringSize_0f7a4_27 : decode cJ6_stringSize_0f7a4 27 = .ok (.iload_n 3, 1) := by decide +kernel
theorem dJ6_stringSize_0f7a4_28 : decode cJ6_stringSize_0f7a4 28 = .ok (.iload_n 1, 1) := by decide +kernel
theorem dJ6_stringSize_0f7a4_29 : decode cJ6_stringSize_0f7a4 29 = .ok (.iadd, 1) := by decide +kernel
theorem dJ6_stringSize_0f7a4_30 : decode cJ6_stringSize_0f7a4 30 = .ok (.ireturn, 1) := by decide +kernel
theorem dJ6_stringSize_0f7a4_31 : decode cJ6_stringSize_0f7a4 31 = .ok (.bipush 10, 2) := by decide +kernel
theorem dJ6_stringSize_0f7a4_33 : decode cJ6_stringSize_0f7a4 33 = .ok (.iload_n 2, 1) := by decide +kernel
theorem dJ6_stringSize_0f7a4_34 : decode cJ6_stringSize_0f7a4 34 = .ok (.imul, 1) := by decide +kernel
theorem dJ6_stringSize_0f7a4_35 : decode cJ6_stringSize_0f7a4 35 = .ok (.istore_n 2, 1) := by decide +kernel
theorem dJ6_stringSize_0f7a4_36 : decode cJ6_stringSize_0f7a4 36 = .ok (.iinc 3 1, 3) := by decide +kernel
theorem dJ6_stringSize_0f7a4_39 : decode cJ6_stringSize_0f7a4 39 = .ok (.goto (-23), 3) := by decide +kernel
theorem dJ6_stringSize_0f7a4_42 : decode cJ6_stringSize_0f7a4 42 = .ok (.bipush 10, 2) := by decide +kernel
theorem dJ6_stringSize_0f7a4_44 : decode cJ6_stringSize_0f7a4 44 = .ok (.iload_n 1, 1) := by decide +kernel
theorem dJ6_stringSize_0f7a4_45 : decode cJ6_stringSize_0f7a4 45 = .ok (.iadd, 1) := by decide +kernel
theorem dJ6_stringSize_0f7a4_46 : decode cJ6_stringSize_0f7a4 46 = .ok (.ireturn, 1) := by decide +kernel
theorem dJ6_bitCount_0f7a4_0 : decode cJ6_bitCount_0f7a4 0 = .ok (.iload_n 0, 1) := by decide +kernel
theorem dJ6_bitCount_0f7a4_1 : decode cJ6_bitCount_0f7a4 1 = .ok (.iload_n 0, 1) := by decide +kernel
theorem dJ6_bitCount_0f7a4_2 : decode cJ6_bitCount_0f7a4 2 = .ok (.iconst 1, 1) := by decide +kernel
theorem dJ6_bitCount_0f7a4_3 : decode cJ6_bitCount_0f7a4 3 = .ok (.iushr, 1) := by decide +kernel
theorem dJ6_bitCount_0f7a4_4 : decode cJ6_bitCount_0f7a4 4 = .ok (.ldc_w 265, 3) := by decide +kernel
theorem dJ6_bitCount_0f7a4_7 : decode cJ6_bitCount_0f7a4 7 = .ok (.iand, 1) := by decide +kernel
theorem dJ6_bitCount_0f7a4_8 : decode cJ6_bitCount_0f7a4 8 = .ok (.isub, 1) := by decide +kernel
theorem dJ6_bitCount_0f7a4_9 : decode cJ6_bitCount_0f7a4 9 = .ok (.istore_n 0, 1) := by decide +kernel
theorem dJ6_bitCount_0f7a4_10 : decode cJ6_bitCount_0f7a4 10 = .ok (.iload_n 0, 1) := by decide +kernel
theorem dJ6_bitCount_0f7a4_11 : decode cJ6_bitCount_0f7a4 11 = .ok (.ldc_w 266, 3) := by decide +kernel
theorem dJ6_bitCount_0f7a4_14 : decode cJ6_bitCount_0f7a4 14 = .ok (.iand, 1) := by decide +kernel
theorem dJ6_bitCount_0f7a4_15 : decode cJ6_bitCount_0f7a4 15 = .ok (.iload_n 0, 1) := by decide +kernel
theorem dJ6_bitCount_0f7a4_16 : decode cJ6_bitCount_0f7a4 16 = .ok (.iconst 2, 1) := by decide +kernel
theorem dJ6_bitCount_0f7a4_17 : decode cJ6_bitCount_0f7a4 17 = .ok (.iushr, 1) := by decide +kernel
theorem dJ6_bitCount_0f7a4_18 : decode cJ6_bitCount_0f7a4 18 = .ok (.ldc_w 266, 3) := by decide +kernel
theorem dJ6_bitCount_0f7a4_21 : decode cJ6_bitCount_0f7a4 21 = .ok (.iand, 1) := by decide +kernel
theorem dJ6_bitCount_0f7a4_22 : decode cJ6_bitCount_0f7a4 22 = .ok (.iadd, 1) := by decide +kernel
theorem dJ6_bitCount_0f7a4_23 : decode cJ6_bitCount_0f7a4 23 = .ok (.istore_n 0, 1) := by decide +kernel
theorem dJ6_bitCount_0f7a4_24 : decode cJ6_bitCount_0f7a4 24 = .ok (.iload_n 0, 1) := by decide +kernel
theorem dJ6_bitCount_0f7a4_25 : decode cJ6_bitCount_0f7a4 25 = .ok (.iload_n 0, 1) := by decide +kernel
theorem dJ6_bitCount_0f7a4_26 : decode cJ6_bitCount_0f7a4 26 = .ok (.iconst 4, 1) := by decide +kernel
theorem dJ6_bitCount_0f7a4_27 : decode cJ6_bitCount_0f7a4 27 = .ok (.iushr, 1) := by decide +kernel
theorem dJ6_bitCount_0f7a4_28 : decode cJ6_bitCount_0f7a4 28 = .ok (.iadd, 1) := by decide +kernel
theorem dJ6_bitCount_0f7a4_29 : decode cJ6_bitCount_0f7a4 29 = .ok (.ldc_w 267, 3) := by decide +kernel
theorem dJ6_bitCount_0f7a4_32 : decode cJ6_bitCount_0f7a4 32 = .ok (.iand, 1) := by decide +kernel
theorem dJ6_bitCount_0f7a4_33 : decode cJ6_bitCount_0f7a4 33 = .ok (.istore_n 0, 1) := by decide +kernel
theorem dJ6_bitCount_0f7a4_34 : decode cJ6_bitCount_0f7a4 34 = .ok (.iload_n 0, 1) := by decide +kernel
theorem dJ6_bitCount_0f7a4_35 : decode cJ6_bitCount_0f7a4 35 = .ok (.iload_n 0, 1) := by decide +kernel
theorem dJ6_bitCount_0f7a4_36 : decode cJ6_bitCount_0f7a4 36 = .ok (.bipush 8, 2) := by decide +kernel
theorem dJ6_bitCount_0f7a4_38 : decode cJ6_bitCount_0f7a4 38 = .ok (.iushr, 1) := by decide +kernel
theorem dJ6_bitCount_0f7a4_39 : decode cJ6_bitCount_0f7a4 39 = .ok (.iadd, 1) := by decide +kernel
theorem dJ6_bitCount_0f7a4_40 : decode cJ6_bitCount_0f7a4 40 = .ok (.istore_n 0, 1) := by decide +kernel
theorem dJ6_bitCount_0f7a4_41 : decode cJ6_bitCount_0f7a4 41 = .ok (.iload_n 0, 1) := by decide +kernel
theorem dJ6_bitCount_0f7a4_42 : decode cJ6_bitCount_0f7a4 42 = .ok (.iload_n 0, 1) := by decide +kernel
theorem dJ6_bitCount_0f7a4_43 : decode cJ6_bitCount_0f7a4 43 = .ok (.bipush 16, 2) := by decide +kernel
theorem dJ6_bitCount_0f7a4_45 : decode cJ6_bitCount_0f7a4 45 = .ok (.iushr, 1) := by decide +kernel
theorem dJ6_bitCount_0f7a4_46 : decode cJ6_bitCount_0f7a4 46 = .ok (.iadd, 1) := by decide +kernel
theorem dJ6_bitCount_0f7a4_47 : decode cJ6_bitCount_0f7a4 47 = .ok (.istore_n 0, 1) := by decide +kernel
theorem dJ6_bitCount_0f7a4_48 : decode cJ6_bitCount_0f7a4 48 = .ok (.iload_n 0, 1) := by decide +kernel
theorem dJ6_bitCount_0f7a4_49 : decode cJ6_bitCount_0f7a4 49 = .ok (.bipush 63, 2) := by decide +kernel
theorem dJ6_bitCount_0f7a4_51 : decode cJ6_bitCount_0f7a4 51 = .ok (.iand, 1) := by decide +kernel
theorem dJ6_bitCount_0f7a4_52 : decode cJ6_bitCount_0f7a4 52 = .ok (.ireturn, 1) := by decide +kernel
theorem dJ9_floorMod_7cf53_0 : decode cJ9_floorMod_7cf53 0 = .ok (.iload_n 0, 1) := by decide +kernel
theorem dJ9_floorMod_7cf53_1 : decode cJ9_floorMod_7cf53 1 = .ok (.iload_n 1, 1) := by decide +kernel
theorem dJ9_floorMod_7cf53_2 : decode cJ9_floorMod_7cf53 2 = .ok (.irem, 1) := by decide +kernel
theorem dJ9_floorMod_7cf53_3 : decode cJ9_floorMod_7cf53 3 = .ok (.istore_n 2, 1) := by decide +kernel
theorem dJ9_floorMod_7cf53_4 : decode cJ9_floorMod_7cf53 4 = .ok (.iload_n 0, 1) := by decide +kernel
theorem dJ9_floorMod_7cf53_5 : decode cJ9_floorMod_7cf53 5 = .ok (.iload_n 1, 1) := by decide +kernel
theorem dJ9_floorMod_7cf53_6 : decode cJ9_floorMod_7cf53 6 = .ok (.ixor, 1) := by decide +kernel
theorem dJ9_floorMod_7cf53_7 : decode cJ9_floorMod_7cf53 7 = .ok (.ifCond .ge 11, 3) := by decide +kernel
theorem dJ9_floorMod_7cf53_10 : decode cJ9_floorMod_7cf53 10 = .ok (.iload_n 2, 1) := by decide +kernel
theorem dJ9_floorMod_7cf53_11 : decode cJ9_floorMod_7cf53 11 = .ok (.ifCond .eq 7, 3) := by decide +kernel
theorem dJ9_floorMod_7cf53_14 : decode cJ9_floorMod_7cf53 14 = .ok (.iload_n 2, 1) := by decide +kernel
theorem dJ9_floorMod_7cf53_15 : decode cJ9_floorMod_7cf53 15 = .ok (.iload_n 1, 1) := by decide +kernel
theorem dJ9_floorMod_7cf53_16 : decode cJ9_floorMod_7cf53 16 = .ok (.iadd, 1) := by decide +kernel
theorem dJ9_floorMod_7cf53_17 : decode cJ9_floorMod_7cf53 17 = .ok (.ireturn, 1) := by decide +kernel
theorem dJ9_floorMod_7cf53_18 : decode cJ9_floorMod_7cf53 18 = .ok (.iload_n 2, 1) := by decide +kernel
theorem dJ9_floorMod_7cf53_19 : decode cJ9_floorMod_7cf53 19 = .ok (.ireturn, 1) := by decide +kernel
theorem dJ9_abs_0f7a4_0 : decode cJ9_abs_0f7a4 0 = .ok (.iload_n 0, 1) := by decide +kernel
theorem dJ9_abs_0f7a4_1 : decode cJ9_abs_0f7a4 1 = .ok (.ifCond .ge 8, 3) := by decide +kernel
theorem dJ9_abs_0f7a4_4 : decode cJ9_abs_0f7a4 4 = .ok (.iload_n 0, 1) := by decide +kernel
theorem dJ9_abs_0f7a4_5 : decode cJ9_abs_0f7a4 5 = .ok (.ineg, 1) := by decide +kernel
theorem dJ9_abs_0f7a4_6 : decode cJ9_abs_0f7a4 6 = .ok (.goto 4, 3) := by decide +kernel
theorem dJ9_abs_0f7a4_9 : decode cJ9_abs_0f7a4 9 = .ok (.iload_n 0, 1) := by decide +kernel
theorem dJ9_abs_0f7a4_10 : decode cJ9_abs_0f7a4 10 = .ok (.ireturn, 1) := by decide +kernel
theorem dJ9_max_7cf53_0 : decode cJ9_max_7cf53 0 = .ok (.iload_n 0, 1) := by decide +kernel
theorem dJ9_max_7cf53_1 : decode cJ9_max_7cf53 1 = .ok (.iload_n 1, 1) := by decide +kernel
theorem dJ9_max_7cf53_2 : decode cJ9_max_7cf53 2 = .ok (.if_icmp .lt 7, 3) := by decide +kernel
theorem dJ9_max_7cf53_5 : decode cJ9_max_7cf53 5 = .ok (.iload_n 0, 1) := by decide +kernel
theorem dJ9_max_7cf53_6 : decode cJ9_max_7cf53 6 = .ok (.goto 4, 3) := by decide +kernel
theorem dJ9_max_7cf53_9 : decode cJ9_max_7cf53 9 = .ok (.iload_n 1, 1) := by decide +kernel
theorem dJ9_max_7cf53_10 : decode cJ9_max_7cf53 10 = .ok (.ireturn, 1) := by decide +kernel
theorem dJ9_max_f86c9_0 : decode cJ9_max_f86c9 0 = .ok (.lload_n 0, 1) := by decide +kernel
theorem dJ9_max_f86c9_1 : decode cJ9_max_f86c9 1 = .ok (.lload_n 2, 1) := by decide +kernel
theorem dJ9_max_f86c9_2 : decode cJ9_max_f86c9 2 = .ok (.lcmp, 1) := by decide +kernel
theorem dJ9_max_f86c9_3 : decode cJ9_max_f86c9 3 = .ok (.ifCond .lt 7, 3) := by decide +kernel
theorem dJ9_max_f86c9_6 : decode cJ9_max_f86c9 6 = .ok (.lload_n 0, 1) := by decide +kernel
theorem dJ9_max_f86c9_7 : decode cJ9_max_f86c9 7 = .ok (.goto 4, 3) := by decide +kernel
theorem dJ9_max_f86c9_10 : decode cJ9_max_f86c9 10 = .ok (.lload_n 2, 1) := by decide +kernel
theorem dJ9_max_f86c9_11 : decode cJ9_max_f86c9 11 = .ok (.lreturn, 1) := by decide +kernel
theorem dJ9_min_7cf53_0 : decode cJ9_min_7cf53 0 = .ok (.iload_n 0, 1) := by decide +kernel
theorem dJ9_min_7cf53_1 : decode cJ9_min_7cf53 1 = .ok (.iload_n 1, 1) := by decide +kernel
theorem dJ9_min_7cf53_2 : decode cJ9_min_7cf53 2 = .ok (.if_icmp .gt 7, 3) := by decide +kernel
theorem dJ9_min_7cf53_5 : decode cJ9_min_7cf53 5 = .ok (.iload_n 0, 1) := by decide +kernel
theorem dJ9_min_7cf53_6 : decode cJ9_min_7cf53 6 = .ok (.goto 4, 3) := by decide +kernel
theorem dJ9_min_7cf53_9 : decode cJ9_min_7cf53 9 = .ok (.iload_n 1, 1) := by decide +kernel
theorem dJ9_min_7cf53_10 : decode cJ9_min_7cf53 10 = .ok (.ireturn, 1) := by decide +kernel
theorem dJ9_min_f86c9_0 : decode cJ9_min_f86c9 0 = .ok (.lload_n 0, 1) := by decide +kernel
theorem dJ9_min_f86c9_1 : decode cJ9_min_f86c9 1 = .ok (.lload_n 2, 1) := by decide +kernel
theorem dJ9_min_f86c9_2 : decode cJ9_min_f86c9 2 = .ok (.lcmp, 1) := by decide +kernel
theorem dJ9_min_f86c9_3 : decode cJ9_min_f86c9 3 = .ok (.ifCond .gt 7, 3) := by decide +kernel
theorem dJ9_min_f86c9_6 : decode cJ9_min_f86c9 6 = .ok (.lload_n 0, 1) := by decide +kernel
theorem dJ9_min_f86c9_7 : decode cJ9_min_f86c9 7 = .ok (.goto 4, 3) := by decide +kernel
theorem dJ9_min_f86c9_10 : decode cJ9_min_f86c9 10 = .ok (.lload_n 2, 1) := by decide +kernel
theorem dJ9_min_f86c9_11 : decode cJ9_min_f86c9 11 = .ok (.lreturn, 1) := by decide +kernel
theorem dJ0_init_81219_0 : decode cJ0_init_81219 0 = .ok (.aload_n 0, 1) := by decide +kernel
theorem dJ0_init_81219_1 : decode cJ0_init_81219 1 = .ok (.aload_n 1, 1) := by decide +kernel
theorem dJ0_init_81219_2 : decode cJ0_init_81219 2 = .ok (.aconst_null, 1) := by decide +kernel
theorem dJ0_init_81219_3 : decode cJ0_init_81219 3 = .ok (.invokespecial 489, 3) := by decide +kernel
theorem dJ0_init_81219_6 : decode cJ0_init_81219 6 = .ok (.return_, 1) := by decide +kernel
theorem dJ0_length_8abf5_0 : decode cJ0_length_8abf5 0 = .ok (.aload_n 0, 1) := by decide +kernel
theorem dJ0_length_8abf5_1 : decode cJ0_length_8abf5 1 = .ok (.getfield 9, 3) := by decide +kernel
theorem dJ0_length_8abf5_4 : decode cJ0_length_8abf5 4 = .ok (.arraylength, 1) := by decide +kernel
theorem dJ0_length_8abf5_5 : decode cJ0_length_8abf5 5 = .ok (.aload_n 0, 1) := by decide +kernel
theorem dJ0_length_8abf5_6 : decode cJ0_length_8abf5 6 = .ok (.invokevirtual 335, 3) := by decide +kernel
theorem dJ0_length_8abf5_9 : decode cJ0_length_8abf5 9 = .ok (.ishr, 1) := by decide +kernel
theorem dJ0_length_8abf5_10 : decode cJ0_length_8abf5 10 = .ok (.ireturn, 1) := by decide +kernel
theorem dJ0_charAt_5068e_0 : decode cJ0_charAt_5068e 0 = .ok (.aload_n 0, 1) := by decide +kernel
theorem dJ0_charAt_5068e_1 : decode cJ0_charAt_5068e 1 = .ok (.invokevirtual 492, 3) := by decide +kernel
theorem dJ0_charAt_5068e_4 : decode cJ0_charAt_5068e 4 = .ok (.ifCond .eq 12, 3) := by decide +kernel
theorem dJ0_charAt_5068e_7 : decode cJ0_charAt_5068e 7 = .ok (.aload_n 0, 1) := by decide +kernel
theorem dJ0_charAt_5068e_8 : decode cJ0_charAt_5068e 8 = .ok (.getfield 9, 3) := by decide +kernel
theorem dJ0_charAt_5068e_11 : decode cJ0_charAt_5068e 11 = .ok (.iload_n 1, 1) := by decide +kernel
theorem dJ0_charAt_5068e_12 : decode cJ0_charAt_5068e 12 = .ok (.invokestatic 495, 3) := by decide +kernel
theorem dJ0_charAt_5068e_15 : decode cJ0_charAt_5068e 15 = .ok (.ireturn, 1) := by decide +kernel
theorem dJ0_charAt_5068e_16 : decode cJ0_charAt_5068e 16 = .ok (.aload_n 0, 1) := by decide +kernel
theorem dJ0_charAt_5068e_17 : decode cJ0_charAt_5068e 17 = .ok (.getfield 9, 3) := by decide +kernel
theorem dJ0_charAt_5068e_20 : decode cJ0_charAt_5068e 20 = .ok (.iload_n 1, 1) := by decide +kernel
theorem dJ0_charAt_5068e_21 : decode cJ0_charAt_5068e 21 = .ok (.invokestatic 498, 3) := by decide +kernel
theorem dJ0_charAt_5068e_24 : decode cJ0_charAt_5068e 24 = .ok (.ireturn, 1) := by decide +kernel
theorem dJ0_getBytes_840e7_0 : decode cJ0_getBytes_840e7 0 = .ok (.aload_n 0, 1) := by decide +kernel
theorem dJ0_getBytes_840e7_1 : decode cJ0_getBytes_840e7 1 = .ok (.invokevirtual 335, 3) := by decide +kernel
theorem dJ0_getBytes_840e7_4 : decode cJ0_getBytes_840e7 4 = .ok (.iload_n 3, 1) := by decide +kernel
theorem dJ0_getBytes_840e7_5 : decode cJ0_getBytes_840e7 5 = .ok (.if_icmp .ne 23, 3) := by decide +kernel
theorem dJ0_getBytes_840e7_8 : decode cJ0_getBytes_840e7 8 = .ok (.aload_n 0, 1) := by decide +kernel
theorem dJ0_getBytes_840e7_9 : decode cJ0_getBytes_840e7 9 = .ok (.getfield 9, 3) := by decide +kernel
theorem dJ0_getBytes_840e7_12 : decode cJ0_getBytes_840e7 12 = .ok (.iconst 0, 1) := by decide +kernel
theorem dJ0_getBytes_840e7_13 : decode cJ0_getBytes_840e7 13 = .ok (.aload_n 1, 1) := by decide +kernel
theorem dJ0_getBytes_840e7_14 : decode cJ0_getBytes_840e7 14 = .ok (.iload_n 2, 1) := by decide +kernel
theorem dJ0_getBytes_840e7_15 : decode cJ0_getBytes_840e7 15 = .ok (.iload_n 3, 1) := by decide +kernel
theorem dJ0_getBytes_840e7_16 : decode cJ0_getBytes_840e7 16 = .ok (.ishl, 1) := by decide +kernel
theorem dJ0_getBytes_840e7_17 : decode cJ0_getBytes_840e7 17 = .ok (.aload_n 0, 1) := by decide +kernel
theorem dJ0_getBytes_840e7_18 : decode cJ0_getBytes_840e7 18 = .ok (.getfield 9, 3) := by decide +kernel
theorem dJ0_getBytes_840e7_21 : decode cJ0_getBytes_840e7 21 = .ok (.arraylength, 1) := by decide +kernel
theorem dJ0_getBytes_840e7_22 : decode cJ0_getBytes_840e7 22 = .ok (.invokestatic 212, 3) := by decide +kernel
theorem dJ0_getBytes_840e7_25 : decode cJ0_getBytes_840e7 25 = .ok (.goto 18, 3) := by decide +kernel
theorem dJ0_getBytes_840e7_28 : decode cJ0_getBytes_840e7 28 = .ok (.aload_n 0, 1) := by decide +kernel
theorem dJ0_getBytes_840e7_29 : decode cJ0_getBytes_840e7 29 = .ok (.getfield 9, 3) := by decide +kernel
theorem dJ0_getBytes_840e7_32 : decode cJ0_getBytes_840e7 32 = .ok (.iconst 0, 1) := by decide +kernel
theorem dJ0_getBytes_840e7_33 : decode cJ0_getBytes_840e7 33 = .ok (.aload_n 1, 1) := by decide +kernel
theorem dJ0_getBytes_840e7_34 : decode cJ0_getBytes_840e7 34 = .ok (.iload_n 2, 1) := by decide +kernel
theorem dJ0_getBytes_840e7_35 : decode cJ0_getBytes_840e7 35 = .ok (.aload_n 0, 1) := by decide +kernel
theorem dJ0_getBytes_840e7_36 : decode cJ0_getBytes_840e7 36 = .ok (.getfield 9, 3) := by decide +kernel
theorem dJ0_getBytes_840e7_39 : decode cJ0_getBytes_840e7 39 = .ok (.arraylength, 1) := by decide +kernel
theorem dJ0_getBytes_840e7_40 : decode cJ0_getBytes_840e7 40 = .ok (.invokestatic 106, 3) := by decide +kernel
theorem dJ0_getBytes_840e7_43 : decode cJ0_getBytes_840e7 43 = .ok (.return_, 1) := by decide +kernel
theorem dJ0_init_db425_0 : decode cJ0_init_db425 0 = .ok (.aload_n 0, 1) := by decide +kernel
theorem dJ0_init_db425_1 : decode cJ0_init_db425 1 = .ok (.invokespecial 1, 3) := by decide +kernel
theorem dJ0_init_db425_4 : decode cJ0_init_db425 4 = .ok (.aload_n 1, 1) := by decide +kernel
theorem dJ0_init_db425_5 : decode cJ0_init_db425 5 = .ok (.invokevirtual 552, 3) := by decide +kernel
theorem dJ0_init_db425_8 : decode cJ0_init_db425 8 = .ok (.astore_n 3, 1) := by decide +kernel
theorem dJ0_init_db425_9 : decode cJ0_init_db425 9 = .ok (.aload_n 1, 1) := by decide +kernel
theorem dJ0_init_db425_10 : decode cJ0_init_db425 10 = .ok (.invokevirtual 549, 3) := by decide +kernel
theorem dJ0_init_db425_13 : decode cJ0_init_db425 13 = .ok (.istore 4, 2) := by decide +kernel
theorem dJ0_init_db425_15 : decode cJ0_init_db425 15 = .ok (.aload_n 1, 1) := by decide +kernel
theorem dJ0_init_db425_16 : decode cJ0_init_db425 16 = .ok (.invokevirtual 1047, 3) := by decide +kernel
theorem dJ0_init_db425_19 : decode cJ0_init_db425 19 = .ok (.ifCond .eq 22, 3) := by decide +kernel
theorem dJ0_init_db425_22 : decode cJ0_init_db425 22 = .ok (.aload_n 0, 1) := by decide +kernel
theorem dJ0_init_db425_23 : decode cJ0_init_db425 23 = .ok (.iconst 0, 1) := by decide +kernel
theorem dJ0_init_db425_24 : decode cJ0_init_db425 24 = .ok (.putfield 15, 3) := by decide +kernel
theorem dJ0_init_db425_27 : decode cJ0_init_db425 27 = .ok (.aload_n 0, 1) := by decide +kernel
theorem dJ0_init_db425_28 : decode cJ0_init_db425 28 = .ok (.aload_n 3, 1) := by decide +kernel
theorem dJ0_init_db425_29 : decode cJ0_init_db425 29 = .ok (.iconst 0, 1) := by decide +kernel
theorem dJ0_init_db425_30 : decode cJ0_init_db425 30 = .ok (.iload 4, 2) := by decide +kernel
theorem dJ0_init_db425_32 : decode cJ0_init_db425 32 = .ok (.invokestatic 54, 3) := by decide +kernel
theorem dJ0_init_db425_35 : decode cJ0_init_db425 35 = .ok (.putfield 9, 3) := by decide +kernel
theorem dJ0_init_db425_38 : decode cJ0_init_db425 38 = .ok (.goto 59, 3) := by decide +kernel
theorem dJ0_init_db425_41 : decode cJ0_init_db425 41 = .ok (.getstatic 38, 3) := by decide +kernel
theorem dJ0_init_db425_44 : decode cJ0_init_db425 44 = .ok (.ifCond .eq 35, 3) := by decide +kernel
theorem dJ0_init_db425_47 : decode cJ0_init_db425 47 = .ok (.aload_n 1, 1) := by decide +kernel
theorem dJ0_init_db425_48 : decode cJ0_init_db425 48 = .ok (.getfield 1048, 3) := by decide +kernel
theorem dJ0_init_db425_51 : decode cJ0_init_db425 51 = .ok (.ifCond .eq 28, 3) := by decide +kernel
theorem dJ0_init_db425_54 : decode cJ0_init_db425 54 = .ok (.aload_n 0, 1) := by decide +kernel
theorem dJ0_init_db425_55 : decode cJ0_init_db425 55 = .ok (.aload_n 3, 1) := by decide +kernel
theorem dJ0_init_db425_56 : decode cJ0_init_db425 56 = .ok (.iconst 0, 1) := by decide +kernel
theorem dJ0_init_db425_57 : decode cJ0_init_db425 57 = .ok (.iload 4, 2) := by decide +kernel
theorem dJ0_init_db425_59 : decode cJ0_init_db425 59 = .ok (.invokestatic 1051, 3) := by decide +kernel
theorem dJ0_init_db425_62 : decode cJ0_init_db425 62 = .ok (.putfield 9, 3) := by decide +kernel
theorem dJ0_init_db425_65 : decode cJ0_init_db425 65 = .ok (.aload_n 0, 1) := by decide +kernel
theorem dJ0_init_db425_66 : decode cJ0_init_db425 66 = .ok (.aload_n 0, 1) := by decide +kernel
theorem dJ0_init_db425_67 : decode cJ0_init_db425 67 = .ok (.getfield 9, 3) := by decide +kernel
theorem dJ0_init_db425_70 : decode cJ0_init_db425 70 = .ok (.iload 4, 2) := by decide +kernel
theorem dJ0_init_db425_72 : decode cJ0_init_db425 72 = .ok (.invokestatic 47, 3) := by decide +kernel
theorem dJ0_init_db425_75 : decode cJ0_init_db425 75 = .ok (.putfield 15, 3) := by decide +kernel
theorem dJ0_init_db425_78 : decode cJ0_init_db425 78 = .ok (.return_, 1) := by decide +kernel
theorem dJ0_init_db425_79 : decode cJ0_init_db425 79 = .ok (.aload_n 0, 1) := by decide +kernel
theorem dJ0_init_db425_80 : decode cJ0_init_db425 80 = .ok (.iconst 1, 1) := by decide +kernel
theorem dJ0_init_db425_81 : decode cJ0_init_db425 81 = .ok (.putfield 15, 3) := by decide +kernel
theorem dJ0_init_db425_84 : decode cJ0_init_db425 84 = .ok (.aload_n 0, 1) := by decide +kernel
theorem dJ0_init_db425_85 : decode cJ0_init_db425 85 = .ok (.aload_n 3, 1) := by decide +kernel
theorem dJ0_init_db425_86 : decode cJ0_init_db425 86 = .ok (.iconst 0, 1) := by decide +kernel
theorem dJ0_init_db425_87 : decode cJ0_init_db425 87 = .ok (.iload 4, 2) := by decide +kernel
theorem dJ0_init_db425_89 : decode cJ0_init_db425 89 = .ok (.iconst 1, 1) := by decide +kernel
theorem dJ0_init_db425_90 : decode cJ0_init_db425 90 = .ok (.ishl, 1) := by decide +kernel
theorem dJ0_init_db425_91 : decode cJ0_init_db425 91 = .ok (.invokestatic 54, 3) := by decide +kernel
theorem dJ0_init_db425_94 : decode cJ0_init_db425 94 = .ok (.putfield 9, 3) := by decide +kernel
theorem dJ0_init_db425_97 : decode cJ0_init_db425 97 = .ok (.return_, 1) := by decide +kernel
theorem dJ0_coder_7d493_0 : decode cJ0_coder_7d493 0 = .ok (.getstatic 38, 3) := by decide +kernel
theorem dJ0_coder_7d493_3 : decode cJ0_coder_7d493 3 = .ok (.ifCond .eq 10, 3) := by decide +kernel
theorem dJ0_coder_7d493_6 : decode cJ0_coder_7d493 6 = .ok (.aload_n 0, 1) := by decide +kernel
theorem dJ0_coder_7d493_7 : decode cJ0_coder_7d493 7 = .ok (.getfield 15, 3) := by decide +kernel
theorem dJ0_coder_7d493_10 : decode cJ0_coder_7d493 10 = .ok (.goto 4, 3) := by decide +kernel
theorem dJ0_coder_7d493_13 : decode cJ0_coder_7d493 13 = .ok (.iconst 1, 1) := by decide +kernel
theorem dJ0_coder_7d493_14 : decode cJ0_coder_7d493 14 = .ok (.ireturn, 1) := by decide +kernel
theorem dJ0_isLatin1_aae02_0 : decode cJ0_isLatin1_aae02 0 = .ok (.getstatic 38, 3) := by decide +kernel
theorem dJ0_isLatin1_aae02_3 : decode cJ0_isLatin1_aae02 3 = .ok (.ifCond .eq 14, 3) := by decide +kernel
theorem dJ0_isLatin1_aae02_6 : decode cJ0_isLatin1_aae02 6 = .ok (.aload_n 0, 1) := by decide +kernel
theorem dJ0_isLatin1_aae02_7 : decode cJ0_isLatin1_aae02 7 = .ok (.getfield 15, 3) := by decide +kernel
theorem dJ0_isLatin1_aae02_10 : decode cJ0_isLatin1_aae02 10 = .ok (.ifCond .ne 7, 3) := by decide +kernel
theorem dJ0_isLatin1_aae02_13 : decode cJ0_isLatin1_aae02 13 = .ok (.iconst 1, 1) := by decide +kernel
theorem dJ0_isLatin1_aae02_14 : decode cJ0_isLatin1_aae02 14 = .ok (.goto 4, 3) := by decide +kernel
theorem dJ0_isLatin1_aae02_17 : decode cJ0_isLatin1_aae02 17 = .ok (.iconst 0, 1) := by decide +kernel
theorem dJ0_isLatin1_aae02_18 : decode cJ0_isLatin1_aae02 18 = .ok (.ireturn, 1) := by decide +kernel
theorem dJ0_checkIndex_df160_0 : decode cJ0_checkIndex_df160 0 = .ok (.iload_n 0, 1) := by decide +kernel
theorem dJ0_checkIndex_df160_1 : decode cJ0_checkIndex_df160 1 = .ok (.iload_n 1, 1) := by decide +kernel
theorem dJ0_checkIndex_df160_2 : decode cJ0_checkIndex_df160 2 = .ok (.getstatic 1053, 3) := by decide +kernel
theorem dJ0_checkIndex_df160_5 : decode cJ0_checkIndex_df160 5 = .ok (.invokestatic 1059, 3) := by decide +kernel
theorem dJ0_checkIndex_df160_8 : decode cJ0_checkIndex_df160 8 = .ok (.pop, 1) := by decide +kernel
theorem dJ0_checkIndex_df160_9 : decode cJ0_checkIndex_df160 9 = .ok (.return_, 1) := by decide +kernel
theorem dJ0_checkBoundsOffCount_cabcc_0 : decode cJ0_checkBoundsOffCount_cabcc 0 = .ok (.iload_n 0, 1) := by decide +kernel
theorem dJ0_checkBoundsOffCount_cabcc_1 : decode cJ0_checkBoundsOffCount_cabcc 1 = .ok (.iload_n 1, 1) := by decide +kernel
theorem dJ0_checkBoundsOffCount_cabcc_2 : decode cJ0_checkBoundsOffCount_cabcc 2 = .ok (.iload_n 2, 1) := by decide +kernel
theorem dJ0_checkBoundsOffCount_cabcc_3 : decode cJ0_checkBoundsOffCount_cabcc 3 = .ok (.getstatic 1053, 3) := by decide +kernel
theorem dJ0_checkBoundsOffCount_cabcc_6 : decode cJ0_checkBoundsOffCount_cabcc 6 = .ok (.invokestatic 1065, 3) := by decide +kernel
theorem dJ0_checkBoundsOffCount_cabcc_9 : decode cJ0_checkBoundsOffCount_cabcc 9 = .ok (.ireturn, 1) := by decide +kernel
theorem dJ0_checkBoundsBeginEnd_23922_0 : decode cJ0_checkBoundsBeginEnd_23922 0 = .ok (.iload_n 0, 1) := by decide +kernel
theorem dJ0_checkBoundsBeginEnd_23922_1 : decode cJ0_checkBoundsBeginEnd_23922 1 = .ok (.iload_n 1, 1) := by decide +kernel
theorem dJ0_checkBoundsBeginEnd_23922_2 : decode cJ0_checkBoundsBeginEnd_23922 2 = .ok (.iload_n 2, 1) := by decide +kernel
theorem dJ0_checkBoundsBeginEnd_23922_3 : decode cJ0_checkBoundsBeginEnd_23922 3 = .ok (.getstatic 1053, 3) := by decide +kernel
theorem dJ0_checkBoundsBeginEnd_23922_6 : decode cJ0_checkBoundsBeginEnd_23922 6 = .ok (.invokestatic 1062, 3) := by decide +kernel
theorem dJ0_checkBoundsBeginEnd_23922_9 : decode cJ0_checkBoundsBeginEnd_23922 9 = .ok (.pop, 1) := by decide +kernel
theorem dJ0_checkBoundsBeginEnd_23922_10 : decode cJ0_checkBoundsBeginEnd_23922 10 = .ok (.return_, 1) := by decide +kernel
theorem dJ4_init_da8c8_0 : decode cJ4_init_da8c8 0 = .ok (.aload_n 0, 1) := by decide +kernel
theorem dJ4_init_da8c8_1 : decode cJ4_init_da8c8 1 = .ok (.bipush 16, 2) := by decide +kernel
theorem dJ4_init_da8c8_3 : decode cJ4_init_da8c8 3 = .ok (.invokespecial 1, 3) := by decide +kernel
theorem dJ4_init_da8c8_6 : decode cJ4_init_da8c8 6 = .ok (.return_, 1) := by decide +kernel
theorem dJ4_init_a7421_0 : decode cJ4_init_a7421 0 = .ok (.aload_n 0, 1) := by decide +kernel
theorem dJ4_init_a7421_1 : decode cJ4_init_a7421 1 = .ok (.aload_n 1, 1) := by decide +kernel
theorem dJ4_init_a7421_2 : decode cJ4_init_a7421 2 = .ok (.invokespecial 7, 3) := by decide +kernel
theorem dJ4_init_a7421_5 : decode cJ4_init_a7421 5 = .ok (.return_, 1) := by decide +kernel
theorem dJ4_append_15ec4_0 : decode cJ4_append_15ec4 0 = .ok (.aload_n 0, 1) := by decide +kernel
theorem dJ4_append_15ec4_1 : decode cJ4_append_15ec4 1 = .ok (.aload_n 1, 1) := by decide +kernel
theorem dJ4_append_15ec4_2 : decode cJ4_append_15ec4 2 = .ok (.invokespecial 29, 3) := by decide +kernel
theorem dJ4_append_15ec4_5 : decode cJ4_append_15ec4 5 = .ok (.pop, 1) := by decide +kernel
theorem dJ4_append_15ec4_6 : decode cJ4_append_15ec4 6 = .ok (.aload_n 0, 1) := by decide +kernel
theorem dJ4_append_15ec4_7 : decode cJ4_append_15ec4 7 = .ok (.areturn, 1) := by decide +kernel
theorem dJ4_append_cf468_0 : decode cJ4_append_cf468 0 = .ok (.aload_n 0, 1) := by decide +kernel
theorem dJ4_append_cf468_1 : decode cJ4_append_cf468 1 = .ok (.iload_n 1, 1) := by decide +kernel
theorem dJ4_append_cf468_2 : decode cJ4_append_cf468 2 = .ok (.invokespecial 50, 3) := by decide +kernel
theorem dJ4_append_cf468_5 : decode cJ4_append_cf468 5 = .ok (.pop, 1) := by decide +kernel
theorem dJ4_append_cf468_6 : decode cJ4_append_cf468 6 = .ok (.aload_n 0, 1) := by decide +kernel
theorem dJ4_append_cf468_7 : decode cJ4_append_cf468 7 = .ok (.areturn, 1) := by decide +kernel
theorem dJ4_append_bf812_0 : decode cJ4_append_bf812 0 = .ok (.aload_n 0, 1) := by decide +kernel
theorem dJ4_append_bf812_1 : decode cJ4_append_bf812 1 = .ok (.iload_n 1, 1) := by decide +kernel
theorem dJ4_append_bf812_2 : decode cJ4_append_bf812 2 = .ok (.invokespecial 53, 3) := by decide +kernel
theorem dJ4_append_bf812_5 : decode cJ4_append_bf812 5 = .ok (.pop, 1) := by decide +kernel
theorem dJ4_append_bf812_6 : decode cJ4_append_bf812 6 = .ok (.aload_n 0, 1) := by decide +kernel
theorem dJ4_append_bf812_7 : decode cJ4_append_bf812 7 = .ok (.areturn, 1) := by decide +kernel
theorem dJ4_toString_0e30d_0 : decode cJ4_toString_0e30d 0 = .ok (.new 18, 3) := by decide +kernel
theorem dJ4_toString_0e30d_3 : decode cJ4_toString_0e30d 3 = .ok (.dup, 1) := by decide +kernel
theorem dJ4_toString_0e30d_4 : decode cJ4_toString_0e30d 4 = .ok (.aload_n 0, 1) := by decide +kernel
theorem dJ4_toString_0e30d_5 : decode cJ4_toString_0e30d 5 = .ok (.invokespecial 137, 3) := by decide +kernel
theorem dJ4_toString_0e30d_8 : decode cJ4_toString_0e30d 8 = .ok (.areturn, 1) := by decide +kernel
theorem dJ4_append_cf1ce_0 : decode cJ4_append_cf1ce 0 = .ok (.aload_n 0, 1) := by decide +kernel
theorem dJ4_append_cf1ce_1 : decode cJ4_append_cf1ce 1 = .ok (.aload_n 1, 1) := by decide +kernel
theorem dJ4_append_cf1ce_2 : decode cJ4_append_cf1ce 2 = .ok (.invokevirtual 23, 3) := by decide +kernel
theorem dJ4_append_cf1ce_5 : decode cJ4_append_cf1ce 5 = .ok (.areturn, 1) := by decide +kernel
theorem dJ4_length_8abf5_0 : decode cJ4_length_8abf5 0 = .ok (.aload_n 0, 1) := by decide +kernel
theorem dJ4_length_8abf5_1 : decode cJ4_length_8abf5 1 = .ok (.invokespecial 343, 3) := by decide +kernel
theorem dJ4_length_8abf5_4 : decode cJ4_length_8abf5 4 = .ok (.ireturn, 1) := by decide +kernel
theorem dJ1_charAt_3b067_0 : decode cJ1_charAt_3b067 0 = .ok (.iload_n 1, 1) := by decide +kernel
theorem dJ1_charAt_3b067_1 : decode cJ1_charAt_3b067 1 = .ok (.aload_n 0, 1) := by decide +kernel
theorem dJ1_charAt_3b067_2 : decode cJ1_charAt_3b067 2 = .ok (.arraylength, 1) := by decide +kernel
theorem dJ1_charAt_3b067_3 : decode cJ1_charAt_3b067 3 = .ok (.invokestatic 9, 3) := by decide +kernel
theorem dJ1_charAt_3b067_6 : decode cJ1_charAt_3b067 6 = .ok (.aload_n 0, 1) := by decide +kernel
theorem dJ1_charAt_3b067_7 : decode cJ1_charAt_3b067 7 = .ok (.iload_n 1, 1) := by decide +kernel
theorem dJ1_charAt_3b067_8 : decode cJ1_charAt_3b067 8 = .ok (.baload, 1) := by decide +kernel
theorem dJ1_charAt_3b067_9 : decode cJ1_charAt_3b067 9 = .ok (.sipush 255, 3) := by decide +kernel
theorem dJ1_charAt_3b067_12 : decode cJ1_charAt_3b067 12 = .ok (.iand, 1) := by decide +kernel
theorem dJ1_charAt_3b067_13 : decode cJ1_charAt_3b067 13 = .ok (.i2c, 1) := by decide +kernel
theorem dJ1_charAt_3b067_14 : decode cJ1_charAt_3b067 14 = .ok (.ireturn, 1) := by decide +kernel
theorem dJ1_canEncode_fc78d_0 : decode cJ1_canEncode_fc78d 0 = .ok (.iload_n 0, 1) := by decide +kernel
theorem dJ1_canEncode_fc78d_1 : decode cJ1_canEncode_fc78d 1 = .ok (.sipush 255, 3) := by decide +kernel
theorem dJ1_canEncode_fc78d_4 : decode cJ1_canEncode_fc78d 4 = .ok (.if_icmp .gt 7, 3) := by decide +kernel
theorem dJ1_canEncode_fc78d_7 : decode cJ1_canEncode_fc78d 7 = .ok (.iconst 1, 1) := by decide +kernel
theorem dJ1_canEncode_fc78d_8 : decode cJ1_canEncode_fc78d 8 = .ok (.goto 4, 3) := by decide +kernel
theorem dJ1_canEncode_fc78d_11 : decode cJ1_canEncode_fc78d 11 = .ok (.iconst 0, 1) := by decide +kernel
theorem dJ1_canEncode_fc78d_12 : decode cJ1_canEncode_fc78d 12 = .ok (.ireturn, 1) := by decide +kernel
theorem dJ1_inflate_0e8fd_0 : decode cJ1_inflate_0e8fd 0 = .ok (.aload_n 0, 1) := by decide +kernel
theorem dJ1_inflate_0e8fd_1 : decode cJ1_inflate_0e8fd 1 = .ok (.iload_n 1, 1) := by decide +kernel
theorem dJ1_inflate_0e8fd_2 : decode cJ1_inflate_0e8fd 2 = .ok (.aload_n 2, 1) := by decide +kernel
theorem dJ1_inflate_0e8fd_3 : decode cJ1_inflate_0e8fd 3 = .ok (.iload_n 3, 1) := by decide +kernel
theorem dJ1_inflate_0e8fd_4 : decode cJ1_inflate_0e8fd 4 = .ok (.iload 4, 2) := by decide +kernel
theorem dJ1_inflate_0e8fd_6 : decode cJ1_inflate_0e8fd 6 = .ok (.invokestatic 240, 3) := by decide +kernel
theorem dJ1_inflate_0e8fd_9 : decode cJ1_inflate_0e8fd 9 = .ok (.return_, 1) := by decide +kernel
theorem dJ2_newBytesFor_77867_0 : decode cJ2_newBytesFor_77867 0 = .ok (.iload_n 0, 1) := by decide +kernel
theorem dJ2_newBytesFor_77867_1 : decode cJ2_newBytesFor_77867 1 = .ok (.invokestatic 11, 3) := by decide +kernel
theorem dJ2_newBytesFor_77867_4 : decode cJ2_newBytesFor_77867 4 = .ok (.newarray .byte, 2) := by decide +kernel
theorem dJ2_newBytesFor_77867_6 : decode cJ2_newBytesFor_77867 6 = .ok (.areturn, 1) := by decide +kernel
theorem dJ2_newBytesLength_0f7a4_0 : decode cJ2_newBytesLength_0f7a4 0 = .ok (.iload_n 0, 1) := by decide +kernel
theorem dJ2_newBytesLength_0f7a4_1 : decode cJ2_newBytesLength_0f7a4 1 = .ok (.ifCond .ge 11, 3) := by decide +kernel
theorem dJ2_newBytesLength_0f7a4_4 : decode cJ2_newBytesLength_0f7a4 4 = .ok (.new 17, 3) := by decide +kernel
theorem dJ2_newBytesLength_0f7a4_7 : decode cJ2_newBytesLength_0f7a4 7 = .ok (.dup, 1) := by decide +kernel
theorem dJ2_newBytesLength_0f7a4_8 : decode cJ2_newBytesLength_0f7a4 8 = .ok (.invokespecial 19, 3) := by decide +kernel
theorem dJ2_newBytesLength_0f7a4_11 : decode cJ2_newBytesLength_0f7a4 11 = .ok (.athrow, 1) := by decide +kernel
theorem dJ2_newBytesLength_0f7a4_12 : decode cJ2_newBytesLength_0f7a4 12 = .ok (.iload_n 0, 1) := by decide +kernel
theorem dJ2_newBytesLength_0f7a4_13 : decode cJ2_newBytesLength_0f7a4 13 = .ok (.ldc 20, 2) := by decide +kernel
theorem dJ2_newBytesLength_0f7a4_15 : decode cJ2_newBytesLength_0f7a4 15 = .ok (.if_icmp .lt 40, 3) := by decide +kernel
theorem dJ2_newBytesLength_0f7a4_18 : decode cJ2_newBytesLength_0f7a4 18 = .ok (.new 21, 3) := by decide +kernel
theorem dJ2_newBytesLength_0f7a4_21 : decode cJ2_newBytesLength_0f7a4 21 = .ok (.dup, 1) := by decide +kernel
theorem dJ2_newBytesLength_0f7a4_22 : decode cJ2_newBytesLength_0f7a4 22 = .ok (.new 23, 3) := by decide +kernel
theorem dJ2_newBytesLength_0f7a4_25 : decode cJ2_newBytesLength_0f7a4 25 = .ok (.dup, 1) := by decide +kernel
theorem dJ2_newBytesLength_0f7a4_26 : decode cJ2_newBytesLength_0f7a4 26 = .ok (.invokespecial 25, 3) := by decide +kernel
theorem dJ2_newBytesLength_0f7a4_29 : decode cJ2_newBytesLength_0f7a4 29 = .ok (.ldc 26, 2) := by decide +kernel
theorem dJ2_newBytesLength_0f7a4_31 : decode cJ2_newBytesLength_0f7a4 31 = .ok (.invokevirtual 28, 3) := by decide +kernel
theorem dJ2_newBytesLength_0f7a4_34 : decode cJ2_newBytesLength_0f7a4 34 = .ok (.iload_n 0, 1) := by decide +kernel
theorem dJ2_newBytesLength_0f7a4_35 : decode cJ2_newBytesLength_0f7a4 35 = .ok (.invokevirtual 32, 3) := by decide +kernel
theorem dJ2_newBytesLength_0f7a4_38 : decode cJ2_newBytesLength_0f7a4 38 = .ok (.ldc 35, 2) := by decide +kernel
theorem dJ2_newBytesLength_0f7a4_40 : decode cJ2_newBytesLength_0f7a4 40 = .ok (.invokevirtual 28, 3) := by decide +kernel
theorem dJ2_newBytesLength_0f7a4_43 : decode cJ2_newBytesLength_0f7a4 43 = .ok (.ldc 20, 2) := by decide +kernel
theorem dJ2_newBytesLength_0f7a4_45 : decode cJ2_newBytesLength_0f7a4 45 = .ok (.invokevirtual 32, 3) := by decide +kernel
theorem dJ2_newBytesLength_0f7a4_48 : decode cJ2_newBytesLength_0f7a4 48 = .ok (.invokevirtual 37, 3) := by decide +kernel
theorem dJ2_newBytesLength_0f7a4_51 : decode cJ2_newBytesLength_0f7a4 51 = .ok (.invokespecial 41, 3) := by decide +kernel
theorem dJ2_newBytesLength_0f7a4_54 : decode cJ2_newBytesLength_0f7a4 54 = .ok (.athrow, 1) := by decide +kernel
theorem dJ2_newBytesLength_0f7a4_55 : decode cJ2_newBytesLength_0f7a4 55 = .ok (.iload_n 0, 1) := by decide +kernel
theorem dJ2_newBytesLength_0f7a4_56 : decode cJ2_newBytesLength_0f7a4 56 = .ok (.iconst 1, 1) := by decide +kernel
theorem dJ2_newBytesLength_0f7a4_57 : decode cJ2_newBytesLength_0f7a4 57 = .ok (.ishl, 1) := by decide +kernel
theorem dJ2_newBytesLength_0f7a4_58 : decode cJ2_newBytesLength_0f7a4 58 = .ok (.ireturn, 1) := by decide +kernel
theorem dJ2_putChar_b72d1_0 : decode cJ2_putChar_b72d1 0 = .ok (.getstatic 44, 3) := by decide +kernel
theorem dJ2_putChar_b72d1_3 : decode cJ2_putChar_b72d1 3 = .ok (.ifCond .ne 25, 3) := by decide +kernel
theorem dJ2_putChar_b72d1_6 : decode cJ2_putChar_b72d1 6 = .ok (.iload_n 1, 1) := by decide +kernel
theorem dJ2_putChar_b72d1_7 : decode cJ2_putChar_b72d1 7 = .ok (.ifCond .lt 11, 3) := by decide +kernel
theorem dJ2_putChar_b72d1_10 : decode cJ2_putChar_b72d1 10 = .ok (.iload_n 1, 1) := by decide +kernel
theorem dJ2_putChar_b72d1_11 : decode cJ2_putChar_b72d1 11 = .ok (.aload_n 0, 1) := by decide +kernel
theorem dJ2_putChar_b72d1_12 : decode cJ2_putChar_b72d1 12 = .ok (.invokestatic 48, 3) := by decide +kernel
theorem dJ2_putChar_b72d1_15 : decode cJ2_putChar_b72d1 15 = .ok (.if_icmp .lt 13, 3) := by decide +kernel
theorem dJ2_putChar_b72d1_18 : decode cJ2_putChar_b72d1 18 = .ok (.new 52, 3) := by decide +kernel
theorem dJ2_putChar_b72d1_21 : decode cJ2_putChar_b72d1 21 = .ok (.dup, 1) := by decide +kernel
theorem dJ2_putChar_b72d1_22 : decode cJ2_putChar_b72d1 22 = .ok (.ldc 54, 2) := by decide +kernel
theorem dJ2_putChar_b72d1_24 : decode cJ2_putChar_b72d1 24 = .ok (.invokespecial 56, 3) := by decide +kernel
theorem dJ2_putChar_b72d1_27 : decode cJ2_putChar_b72d1 27 = .ok (.athrow, 1) := by decide +kernel
theorem dJ2_putChar_b72d1_28 : decode cJ2_putChar_b72d1 28 = .ok (.iload_n 1, 1) := by decide +kernel
theorem dJ2_putChar_b72d1_29 : decode cJ2_putChar_b72d1 29 = .ok (.iconst 1, 1) := by decide +kernel
theorem dJ2_putChar_b72d1_30 : decode cJ2_putChar_b72d1 30 = .ok (.ishl, 1) := by decide +kernel
theorem dJ2_putChar_b72d1_31 : decode cJ2_putChar_b72d1 31 = .ok (.istore_n 1, 1) := by decide +kernel
theorem dJ2_putChar_b72d1_32 : decode cJ2_putChar_b72d1 32 = .ok (.aload_n 0, 1) := by decide +kernel
theorem dJ2_putChar_b72d1_33 : decode cJ2_putChar_b72d1 33 = .ok (.iload_n 1, 1) := by decide +kernel
theorem dJ2_putChar_b72d1_34 : decode cJ2_putChar_b72d1 34 = .ok (.iinc 1 1, 3) := by decide +kernel
theorem dJ2_putChar_b72d1_37 : decode cJ2_putChar_b72d1 37 = .ok (.iload_n 2, 1) := by decide +kernel
theorem dJ2_putChar_b72d1_38 : decode cJ2_putChar_b72d1 38 = .ok (.getstatic 59, 3) := by decide +kernel
theorem dJ2_putChar_b72d1_41 : decode cJ2_putChar_b72d1 41 = .ok (.ishr, 1) := by decide +kernel
theorem dJ2_putChar_b72d1_42 : decode cJ2_putChar_b72d1 42 = .ok (.i2b, 1) := by decide +kernel
theorem dJ2_putChar_b72d1_43 : decode cJ2_putChar_b72d1 43 = .ok (.bastore, 1) := by decide +kernel
theorem dJ2_putChar_b72d1_44 : decode cJ2_putChar_b72d1 44 = .ok (.aload_n 0, 1) := by decide +kernel
theorem dJ2_putChar_b72d1_45 : decode cJ2_putChar_b72d1 45 = .ok (.iload_n 1, 1) := by decide +kernel
theorem dJ2_putChar_b72d1_46 : decode cJ2_putChar_b72d1 46 = .ok (.iload_n 2, 1) := by decide +kernel
theorem dJ2_putChar_b72d1_47 : decode cJ2_putChar_b72d1 47 = .ok (.getstatic 63, 3) := by decide +kernel
theorem dJ2_putChar_b72d1_50 : decode cJ2_putChar_b72d1 50 = .ok (.ishr, 1) := by decide +kernel
theorem dJ2_putChar_b72d1_51 : decode cJ2_putChar_b72d1 51 = .ok (.i2b, 1) := by decide +kernel
theorem dJ2_putChar_b72d1_52 : decode cJ2_putChar_b72d1 52 = .ok (.bastore, 1) := by decide +kernel
theorem dJ2_putChar_b72d1_53 : decode cJ2_putChar_b72d1 53 = .ok (.return_, 1) := by decide +kernel
theorem dJ2_getChar_3b067_0 : decode cJ2_getChar_3b067 0 = .ok (.getstatic 44, 3) := by decide +kernel
theorem dJ2_getChar_3b067_3 : decode cJ2_getChar_3b067 3 = .ok (.ifCond .ne 25, 3) := by decide +kernel
theorem dJ2_getChar_3b067_6 : decode cJ2_getChar_3b067 6 = .ok (.iload_n 1, 1) := by decide +kernel
theorem dJ2_getChar_3b067_7 : decode cJ2_getChar_3b067 7 = .ok (.ifCond .lt 11, 3) := by decide +kernel
theorem dJ2_getChar_3b067_10 : decode cJ2_getChar_3b067 10 = .ok (.iload_n 1, 1) := by decide +kernel
theorem dJ2_getChar_3b067_11 : decode cJ2_getChar_3b067 11 = .ok (.aload_n 0, 1) := by decide +kernel
theorem dJ2_getChar_3b067_12 : decode cJ2_getChar_3b067 12 = .ok (.invokestatic 48, 3) := by decide +kernel
theorem dJ2_getChar_3b067_15 : decode cJ2_getChar_3b067 15 = .ok (.if_icmp .lt 13, 3) := by decide +kernel
theorem dJ2_getChar_3b067_18 : decode cJ2_getChar_3b067 18 = .ok (.new 52, 3) := by decide +kernel
theorem dJ2_getChar_3b067_21 : decode cJ2_getChar_3b067 21 = .ok (.dup, 1) := by decide +kernel
theorem dJ2_getChar_3b067_22 : decode cJ2_getChar_3b067 22 = .ok (.ldc 54, 2) := by decide +kernel
theorem dJ2_getChar_3b067_24 : decode cJ2_getChar_3b067 24 = .ok (.invokespecial 56, 3) := by decide +kernel
theorem dJ2_getChar_3b067_27 : decode cJ2_getChar_3b067 27 = .ok (.athrow, 1) := by decide +kernel
theorem dJ2_getChar_3b067_28 : decode cJ2_getChar_3b067 28 = .ok (.iload_n 1, 1) := by decide +kernel
theorem dJ2_getChar_3b067_29 : decode cJ2_getChar_3b067 29 = .ok (.iconst 1, 1) := by decide +kernel
theorem dJ2_getChar_3b067_30 : decode cJ2_getChar_3b067 30 = .ok (.ishl, 1) := by decide +kernel
theorem dJ2_getChar_3b067_31 : decode cJ2_getChar_3b067 31 = .ok (.istore_n 1, 1) := by decide +kernel
theorem dJ2_getChar_3b067_32 : decode cJ2_getChar_3b067 32 = .ok (.aload_n 0, 1) := by decide +kernel
theorem dJ2_getChar_3b067_33 : decode cJ2_getChar_3b067 33 = .ok (.iload_n 1, 1) := by decide +kernel
theorem dJ2_getChar_3b067_34 : decode cJ2_getChar_3b067 34 = .ok (.iinc 1 1, 3) := by decide +kernel
theorem dJ2_getChar_3b067_37 : decode cJ2_getChar_3b067 37 = .ok (.baload, 1) := by decide +kernel
theorem dJ2_getChar_3b067_38 : decode cJ2_getChar_3b067 38 = .ok (.sipush 255, 3) := by decide +kernel
theorem dJ2_getChar_3b067_41 : decode cJ2_getChar_3b067 41 = .ok (.iand, 1) := by decide +kernel
theorem dJ2_getChar_3b067_42 : decode cJ2_getChar_3b067 42 = .ok (.getstatic 59, 3) := by decide +kernel
theorem dJ2_getChar_3b067_45 : decode cJ2_getChar_3b067 45 = .ok (.ishl, 1) := by decide +kernel
theorem dJ2_getChar_3b067_46 : decode cJ2_getChar_3b067 46 = .ok (.aload_n 0, 1) := by decide +kernel
theorem dJ2_getChar_3b067_47 : decode cJ2_getChar_3b067 47 = .ok (.iload_n 1, 1) := by decide +kernel
theorem dJ2_getChar_3b067_48 : decode cJ2_getChar_3b067 48 = .ok (.baload, 1) := by decide +kernel
theorem dJ2_getChar_3b067_49 : decode cJ2_getChar_3b067 49 = .ok (.sipush 255, 3) := by decide +kernel
theorem dJ2_getChar_3b067_52 : decode cJ2_getChar_3b067 52 = .ok (.iand, 1) := by decide +kernel
theorem dJ2_getChar_3b067_53 : decode cJ2_getChar_3b067 53 = .ok (.getstatic 63, 3) := by decide +kernel
theorem dJ2_getChar_3b067_56 : decode cJ2_getChar_3b067 56 = .ok (.ishl, 1) := by decide +kernel
theorem dJ2_getChar_3b067_57 : decode cJ2_getChar_3b067 57 = .ok (.ior, 1) := by decide +kernel
theorem dJ2_getChar_3b067_58 : decode cJ2_getChar_3b067 58 = .ok (.i2c, 1) := by decide +kernel
theorem dJ2_getChar_3b067_59 : decode cJ2_getChar_3b067 59 = .ok (.ireturn, 1) := by decide +kernel
theorem dJ2_length_9d52b_0 : decode cJ2_length_9d52b 0 = .ok (.aload_n 0, 1) := by decide +kernel
theorem dJ2_length_9d52b_1 : decode cJ2_length_9d52b 1 = .ok (.arraylength, 1) := by decide +kernel
theorem dJ2_length_9d52b_2 : decode cJ2_length_9d52b 2 = .ok (.iconst 1, 1) := by decide +kernel
theorem dJ2_length_9d52b_3 : decode cJ2_length_9d52b 3 = .ok (.ishr, 1) := by decide +kernel
theorem dJ2_length_9d52b_4 : decode cJ2_length_9d52b 4 = .ok (.ireturn, 1) := by decide +kernel
theorem dJ2_coderFromArrayLen_85cad_0 : decode cJ2_coderFromArrayLen_85cad 0 = .ok (.iload_n 1, 1) := by decide +kernel
theorem dJ2_coderFromArrayLen_85cad_1 : decode cJ2_coderFromArrayLen_85cad 1 = .ok (.aload_n 0, 1) := by decide +kernel
theorem dJ2_coderFromArrayLen_85cad_2 : decode cJ2_coderFromArrayLen_85cad 2 = .ok (.arraylength, 1) := by decide +kernel
theorem dJ2_coderFromArrayLen_85cad_3 : decode cJ2_coderFromArrayLen_85cad 3 = .ok (.isub, 1) := by decide +kernel
theorem dJ2_coderFromArrayLen_85cad_4 : decode cJ2_coderFromArrayLen_85cad 4 = .ok (.bipush 31, 2) := by decide +kernel
theorem dJ2_coderFromArrayLen_85cad_6 : decode cJ2_coderFromArrayLen_85cad 6 = .ok (.iushr, 1) := by decide +kernel
theorem dJ2_coderFromArrayLen_85cad_7 : decode cJ2_coderFromArrayLen_85cad 7 = .ok (.i2b, 1) := by decide +kernel
theorem dJ2_coderFromArrayLen_85cad_8 : decode cJ2_coderFromArrayLen_85cad 8 = .ok (.ireturn, 1) := by decide +kernel
theorem dJ2_compress_39247_0 : decode cJ2_compress_39247 0 = .ok (.iload_n 2, 1) := by decide +kernel
theorem dJ2_compress_39247_1 : decode cJ2_compress_39247 1 = .ok (.newarray .byte, 2) := by decide +kernel
theorem dJ2_compress_39247_3 : decode cJ2_compress_39247 3 = .ok (.astore_n 3, 1) := by decide +kernel
theorem dJ2_compress_39247_4 : decode cJ2_compress_39247 4 = .ok (.aload_n 0, 1) := by decide +kernel
theorem dJ2_compress_39247_5 : decode cJ2_compress_39247 5 = .ok (.iload_n 1, 1) := by decide +kernel
theorem dJ2_compress_39247_6 : decode cJ2_compress_39247 6 = .ok (.aload_n 3, 1) := by decide +kernel
theorem dJ2_compress_39247_7 : decode cJ2_compress_39247 7 = .ok (.iconst 0, 1) := by decide +kernel
theorem dJ2_compress_39247_8 : decode cJ2_compress_39247 8 = .ok (.iload_n 2, 1) := by decide +kernel
theorem dJ2_compress_39247_9 : decode cJ2_compress_39247 9 = .ok (.invokestatic 123, 3) := by decide +kernel
theorem dJ2_compress_39247_12 : decode cJ2_compress_39247 12 = .ok (.istore 4, 2) := by decide +kernel
theorem dJ2_compress_39247_14 : decode cJ2_compress_39247 14 = .ok (.iload 4, 2) := by decide +kernel
theorem dJ2_compress_39247_16 : decode cJ2_compress_39247 16 = .ok (.iload_n 2, 1) := by decide +kernel
theorem dJ2_compress_39247_17 : decode cJ2_compress_39247 17 = .ok (.if_icmp .eq 47, 3) := by decide +kernel
theorem dJ2_compress_39247_20 : decode cJ2_compress_39247 20 = .ok (.aload_n 0, 1) := by decide +kernel
theorem dJ2_compress_39247_21 : decode cJ2_compress_39247 21 = .ok (.iload_n 1, 1) := by decide +kernel
theorem dJ2_compress_39247_22 : decode cJ2_compress_39247 22 = .ok (.iconst 1, 1) := by decide +kernel
theorem dJ2_compress_39247_23 : decode cJ2_compress_39247 23 = .ok (.ishl, 1) := by decide +kernel
theorem dJ2_compress_39247_24 : decode cJ2_compress_39247 24 = .ok (.iload_n 1, 1) := by decide +kernel
theorem dJ2_compress_39247_25 : decode cJ2_compress_39247 25 = .ok (.iload_n 2, 1) := by decide +kernel
theorem dJ2_compress_39247_26 : decode cJ2_compress_39247 26 = .ok (.iadd, 1) := by decide +kernel
theorem dJ2_compress_39247_27 : decode cJ2_compress_39247 27 = .ok (.invokestatic 11, 3) := by decide +kernel
theorem dJ2_compress_39247_30 : decode cJ2_compress_39247 30 = .ok (.invokestatic 126, 3) := by decide +kernel
theorem dJ2_compress_39247_33 : decode cJ2_compress_39247 33 = .ok (.astore 5, 2) := by decide +kernel
theorem dJ2_compress_39247_35 : decode cJ2_compress_39247 35 = .ok (.aload 5, 2) := by decide +kernel
theorem dJ2_compress_39247_37 : decode cJ2_compress_39247 37 = .ok (.iload 4, 2) := by decide +kernel
theorem dJ2_compress_39247_39 : decode cJ2_compress_39247 39 = .ok (.invokestatic 71, 3) := by decide +kernel
theorem dJ2_compress_39247_42 : decode cJ2_compress_39247 42 = .ok (.sipush 255, 3) := by decide +kernel
theorem dJ2_compress_39247_45 : decode cJ2_compress_39247 45 = .ok (.if_icmp .gt 16, 3) := by decide +kernel
theorem dJ2_compress_39247_48 : decode cJ2_compress_39247 48 = .ok (.aload 5, 2) := by decide +kernel
theorem dJ2_compress_39247_50 : decode cJ2_compress_39247 50 = .ok (.iconst 0, 1) := by decide +kernel
theorem dJ2_compress_39247_51 : decode cJ2_compress_39247 51 = .ok (.aload_n 3, 1) := by decide +kernel
theorem dJ2_compress_39247_52 : decode cJ2_compress_39247 52 = .ok (.iconst 0, 1) := by decide +kernel
theorem dJ2_compress_39247_53 : decode cJ2_compress_39247 53 = .ok (.iload_n 2, 1) := by decide +kernel
theorem dJ2_compress_39247_54 : decode cJ2_compress_39247 54 = .ok (.invokestatic 123, 3) := by decide +kernel
theorem dJ2_compress_39247_57 : decode cJ2_compress_39247 57 = .ok (.iload_n 2, 1) := by decide +kernel
theorem dJ2_compress_39247_58 : decode cJ2_compress_39247 58 = .ok (.if_icmp .eq 6, 3) := by decide +kernel
theorem dJ2_compress_39247_61 : decode cJ2_compress_39247 61 = .ok (.aload 5, 2) := by decide +kernel
theorem dJ2_compress_39247_63 : decode cJ2_compress_39247 63 = .ok (.areturn, 1) := by decide +kernel
theorem dJ2_compress_39247_64 : decode cJ2_compress_39247 64 = .ok (.aload_n 3, 1) := by decide +kernel
theorem dJ2_compress_39247_65 : decode cJ2_compress_39247 65 = .ok (.areturn, 1) := by decide +kernel
theorem dJ2_compress_5af95_0 : decode cJ2_compress_5af95 0 = .ok (.iload_n 1, 1) := by decide +kernel
theorem dJ2_compress_5af95_1 : decode cJ2_compress_5af95 1 = .ok (.iload 4, 2) := by decide +kernel
theorem dJ2_compress_5af95_3 : decode cJ2_compress_5af95 3 = .ok (.aload_n 0, 1) := by decide +kernel
theorem dJ2_compress_5af95_4 : decode cJ2_compress_5af95 4 = .ok (.invokestatic 173, 3) := by decide +kernel
theorem dJ2_compress_5af95_7 : decode cJ2_compress_5af95 7 = .ok (.iconst 0, 1) := by decide +kernel
theorem dJ2_compress_5af95_8 : decode cJ2_compress_5af95 8 = .ok (.istore 5, 2) := by decide +kernel
theorem dJ2_compress_5af95_10 : decode cJ2_compress_5af95 10 = .ok (.iload 5, 2) := by decide +kernel
theorem dJ2_compress_5af95_12 : decode cJ2_compress_5af95 12 = .ok (.iload 4, 2) := by decide +kernel
theorem dJ2_compress_5af95_14 : decode cJ2_compress_5af95 14 = .ok (.if_icmp .ge 39, 3) := by decide +kernel
theorem dJ2_compress_5af95_17 : decode cJ2_compress_5af95 17 = .ok (.aload_n 0, 1) := by decide +kernel
theorem dJ2_compress_5af95_18 : decode cJ2_compress_5af95 18 = .ok (.iload_n 1, 1) := by decide +kernel
theorem dJ2_compress_5af95_19 : decode cJ2_compress_5af95 19 = .ok (.invokestatic 71, 3) := by decide +kernel
theorem dJ2_compress_5af95_22 : decode cJ2_compress_5af95 22 = .ok (.istore 6, 2) := by decide +kernel
theorem dJ2_compress_5af95_24 : decode cJ2_compress_5af95 24 = .ok (.iload 6, 2) := by decide +kernel
theorem dJ2_compress_5af95_26 : decode cJ2_compress_5af95 26 = .ok (.sipush 255, 3) := by decide +kernel
theorem dJ2_compress_5af95_29 : decode cJ2_compress_5af95 29 = .ok (.if_icmp .le 6, 3) := by decide +kernel
theorem dJ2_compress_5af95_32 : decode cJ2_compress_5af95 32 = .ok (.iload 5, 2) := by decide +kernel
theorem dJ2_compress_5af95_34 : decode cJ2_compress_5af95 34 = .ok (.ireturn, 1) := by decide +kernel
theorem dJ2_compress_5af95_35 : decode cJ2_compress_5af95 35 = .ok (.aload_n 2, 1) := by decide +kernel
theorem dJ2_compress_5af95_36 : decode cJ2_compress_5af95 36 = .ok (.iload_n 3, 1) := by decide +kernel
theorem dJ2_compress_5af95_37 : decode cJ2_compress_5af95 37 = .ok (.iload 6, 2) := by decide +kernel
theorem dJ2_compress_5af95_39 : decode cJ2_compress_5af95 39 = .ok (.i2b, 1) := by decide +kernel
theorem dJ2_compress_5af95_40 : decode cJ2_compress_5af95 40 = .ok (.bastore, 1) := by decide +kernel
theorem dJ2_compress_5af95_41 : decode cJ2_compress_5af95 41 = .ok (.iinc 1 1, 3) := by decide +kernel
theorem dJ2_compress_5af95_44 : decode cJ2_compress_5af95 44 = .ok (.iinc 3 1, 3) := by decide +kernel
theorem dJ2_compress_5af95_47 : decode cJ2_compress_5af95 47 = .ok (.iinc 5 1, 3) := by decide +kernel
theorem dJ2_compress_5af95_50 : decode cJ2_compress_5af95 50 = .ok (.goto (-40), 3) := by decide +kernel
theorem dJ2_compress_5af95_53 : decode cJ2_compress_5af95 53 = .ok (.iload 4, 2) := by decide +kernel
theorem dJ2_compress_5af95_55 : decode cJ2_compress_5af95 55 = .ok (.ireturn, 1) := by decide +kernel
theorem dJ2_putCharSB_b72d1_0 : decode cJ2_putCharSB_b72d1 0 = .ok (.iload_n 1, 1) := by decide +kernel
theorem dJ2_putCharSB_b72d1_1 : decode cJ2_putCharSB_b72d1 1 = .ok (.aload_n 0, 1) := by decide +kernel
theorem dJ2_putCharSB_b72d1_2 : decode cJ2_putCharSB_b72d1 2 = .ok (.invokestatic 67, 3) := by decide +kernel
theorem dJ2_putCharSB_b72d1_5 : decode cJ2_putCharSB_b72d1 5 = .ok (.aload_n 0, 1) := by decide +kernel
theorem dJ2_putCharSB_b72d1_6 : decode cJ2_putCharSB_b72d1 6 = .ok (.iload_n 1, 1) := by decide +kernel
theorem dJ2_putCharSB_b72d1_7 : decode cJ2_putCharSB_b72d1 7 = .ok (.iload_n 2, 1) := by decide +kernel
theorem dJ2_putCharSB_b72d1_8 : decode cJ2_putCharSB_b72d1 8 = .ok (.invokestatic 111, 3) := by decide +kernel
theorem dJ2_putCharSB_b72d1_11 : decode cJ2_putCharSB_b72d1 11 = .ok (.return_, 1) := by decide +kernel
theorem dJ2_getChars_46870_0 : decode cJ2_getChars_46870 0 = .ok (.iload_n 1, 1) := by decide +kernel
theorem dJ2_getChars_46870_1 : decode cJ2_getChars_46870 1 = .ok (.iload_n 2, 1) := by decide +kernel
theorem dJ2_getChars_46870_2 : decode cJ2_getChars_46870 2 = .ok (.aload_n 3, 1) := by decide +kernel
theorem dJ2_getChars_46870_3 : decode cJ2_getChars_46870 3 = .ok (.invokestatic 96, 3) := by decide +kernel
theorem dJ2_getChars_46870_6 : decode cJ2_getChars_46870 6 = .ok (.iload_n 0, 1) := by decide +kernel
theorem dJ2_getChars_46870_7 : decode cJ2_getChars_46870 7 = .ok (.iload_n 2, 1) := by decide +kernel
theorem dJ2_getChars_46870_8 : decode cJ2_getChars_46870 8 = .ok (.aload_n 3, 1) := by decide +kernel
theorem dJ2_getChars_46870_9 : decode cJ2_getChars_46870 9 = .ok (.invokestatic 393, 3) := by decide +kernel
theorem dJ2_getChars_46870_12 : decode cJ2_getChars_46870 12 = .ok (.istore 4, 2) := by decide +kernel
theorem dJ2_getChars_46870_14 : decode cJ2_getChars_46870 14 = .ok (.getstatic 44, 3) := by decide +kernel
theorem dJ2_getChars_46870_17 : decode cJ2_getChars_46870 17 = .ok (.ifCond .ne 17, 3) := by decide +kernel
theorem dJ2_getChars_46870_20 : decode cJ2_getChars_46870 20 = .ok (.iload_n 1, 1) := by decide +kernel
theorem dJ2_getChars_46870_21 : decode cJ2_getChars_46870 21 = .ok (.iload 4, 2) := by decide +kernel
theorem dJ2_getChars_46870_23 : decode cJ2_getChars_46870 23 = .ok (.if_icmp .eq 11, 3) := by decide +kernel
theorem dJ2_getChars_46870_26 : decode cJ2_getChars_46870 26 = .ok (.new 52, 3) := by decide +kernel
theorem dJ2_getChars_46870_29 : decode cJ2_getChars_46870 29 = .ok (.dup, 1) := by decide +kernel
theorem dJ2_getChars_46870_30 : decode cJ2_getChars_46870 30 = .ok (.invokespecial 66, 3) := by decide +kernel
theorem dJ2_getChars_46870_33 : decode cJ2_getChars_46870 33 = .ok (.athrow, 1) := by decide +kernel
theorem dJ2_getChars_46870_34 : decode cJ2_getChars_46870 34 = .ok (.iload 4, 2) := by decide +kernel
theorem dJ2_getChars_46870_36 : decode cJ2_getChars_46870 36 = .ok (.ireturn, 1) := by decide +kernel
theorem dJ2_putCharsAt_cd4e5_0 : decode cJ2_putCharsAt_cd4e5 0 = .ok (.iload_n 1, 1) := by decide +kernel
theorem dJ2_putCharsAt_cd4e5_1 : decode cJ2_putCharsAt_cd4e5 1 = .ok (.iconst 4, 1) := by decide +kernel
theorem dJ2_putCharsAt_cd4e5_2 : decode cJ2_putCharsAt_cd4e5 2 = .ok (.iadd, 1) := by decide +kernel
theorem dJ2_putCharsAt_cd4e5_3 : decode cJ2_putCharsAt_cd4e5 3 = .ok (.istore 6, 2) := by decide +kernel
theorem dJ2_putCharsAt_cd4e5_5 : decode cJ2_putCharsAt_cd4e5 5 = .ok (.iload_n 1, 1) := by decide +kernel
theorem dJ2_putCharsAt_cd4e5_6 : decode cJ2_putCharsAt_cd4e5 6 = .ok (.iload 6, 2) := by decide +kernel
theorem dJ2_putCharsAt_cd4e5_8 : decode cJ2_putCharsAt_cd4e5 8 = .ok (.aload_n 0, 1) := by decide +kernel
theorem dJ2_putCharsAt_cd4e5_9 : decode cJ2_putCharsAt_cd4e5 9 = .ok (.invokestatic 96, 3) := by decide +kernel
theorem dJ2_putCharsAt_cd4e5_12 : decode cJ2_putCharsAt_cd4e5 12 = .ok (.aload_n 0, 1) := by decide +kernel
theorem dJ2_putCharsAt_cd4e5_13 : decode cJ2_putCharsAt_cd4e5 13 = .ok (.iload_n 1, 1) := by decide +kernel
theorem dJ2_putCharsAt_cd4e5_14 : decode cJ2_putCharsAt_cd4e5 14 = .ok (.iinc 1 1, 3) := by decide +kernel
theorem dJ2_putCharsAt_cd4e5_17 : decode cJ2_putCharsAt_cd4e5 17 = .ok (.iload_n 2, 1) := by decide +kernel
theorem dJ2_putCharsAt_cd4e5_18 : decode cJ2_putCharsAt_cd4e5 18 = .ok (.invokestatic 111, 3) := by decide +kernel
theorem dJ2_putCharsAt_cd4e5_21 : decode cJ2_putCharsAt_cd4e5 21 = .ok (.aload_n 0, 1) := by decide +kernel
theorem dJ2_putCharsAt_cd4e5_22 : decode cJ2_putCharsAt_cd4e5 22 = .ok (.iload_n 1, 1) := by decide +kernel
theorem dJ2_putCharsAt_cd4e5_23 : decode cJ2_putCharsAt_cd4e5 23 = .ok (.iinc 1 1, 3) := by decide +kernel
theorem dJ2_putCharsAt_cd4e5_26 : decode cJ2_putCharsAt_cd4e5 26 = .ok (.iload_n 3, 1) := by decide +kernel
theorem dJ2_putCharsAt_cd4e5_27 : decode cJ2_putCharsAt_cd4e5 27 = .ok (.invokestatic 111, 3) := by decide +kernel
theorem dJ2_putCharsAt_cd4e5_30 : decode cJ2_putCharsAt_cd4e5 30 = .ok (.aload_n 0, 1) := by decide +kernel
theorem dJ2_putCharsAt_cd4e5_31 : decode cJ2_putCharsAt_cd4e5 31 = .ok (.iload_n 1, 1) := by decide +kernel
theorem dJ2_putCharsAt_cd4e5_32 : decode cJ2_putCharsAt_cd4e5 32 = .ok (.iinc 1 1, 3) := by decide +kernel
theorem dJ2_putCharsAt_cd4e5_35 : decode cJ2_putCharsAt_cd4e5 35 = .ok (.iload 4, 2) := by decide +kernel
theorem dJ2_putCharsAt_cd4e5_37 : decode cJ2_putCharsAt_cd4e5 37 = .ok (.invokestatic 111, 3) := by decide +kernel
theorem dJ2_putCharsAt_cd4e5_40 : decode cJ2_putCharsAt_cd4e5 40 = .ok (.aload_n 0, 1) := by decide +kernel
theorem dJ2_putCharsAt_cd4e5_41 : decode cJ2_putCharsAt_cd4e5 41 = .ok (.iload_n 1, 1) := by decide +kernel
theorem dJ2_putCharsAt_cd4e5_42 : decode cJ2_putCharsAt_cd4e5 42 = .ok (.iinc 1 1, 3) := by decide +kernel
theorem dJ2_putCharsAt_cd4e5_45 : decode cJ2_putCharsAt_cd4e5 45 = .ok (.iload 5, 2) := by decide +kernel
theorem dJ2_putCharsAt_cd4e5_47 : decode cJ2_putCharsAt_cd4e5 47 = .ok (.invokestatic 111, 3) := by decide +kernel
theorem dJ2_putCharsAt_cd4e5_50 : decode cJ2_putCharsAt_cd4e5 50 = .ok (.getstatic 44, 3) := by decide +kernel
theorem dJ2_putCharsAt_cd4e5_53 : decode cJ2_putCharsAt_cd4e5 53 = .ok (.ifCond .ne 17, 3) := by decide +kernel
theorem dJ2_putCharsAt_cd4e5_56 : decode cJ2_putCharsAt_cd4e5 56 = .ok (.iload_n 1, 1) := by decide +kernel
theorem dJ2_putCharsAt_cd4e5_57 : decode cJ2_putCharsAt_cd4e5 57 = .ok (.iload 6, 2) := by decide +kernel
theorem dJ2_putCharsAt_cd4e5_59 : decode cJ2_putCharsAt_cd4e5 59 = .ok (.if_icmp .eq 11, 3) := by decide +kernel
theorem dJ2_putCharsAt_cd4e5_62 : decode cJ2_putCharsAt_cd4e5 62 = .ok (.new 52, 3) := by decide +kernel
theorem dJ2_putCharsAt_cd4e5_65 : decode cJ2_putCharsAt_cd4e5 65 = .ok (.dup, 1) := by decide +kernel
theorem dJ2_putCharsAt_cd4e5_66 : decode cJ2_putCharsAt_cd4e5 66 = .ok (.invokespecial 66, 3) := by decide +kernel
theorem dJ2_putCharsAt_cd4e5_69 : decode cJ2_putCharsAt_cd4e5 69 = .ok (.athrow, 1) := by decide +kernel
theorem dJ2_putCharsAt_cd4e5_70 : decode cJ2_putCharsAt_cd4e5 70 = .ok (.iload 6, 2) := by decide +kernel
theorem dJ2_putCharsAt_cd4e5_72 : decode cJ2_putCharsAt_cd4e5 72 = .ok (.ireturn, 1) := by decide +kernel
theorem dJ2_charAt_3b067_0 : decode cJ2_charAt_3b067 0 = .ok (.iload_n 1, 1) := by decide +kernel
theorem dJ2_charAt_3b067_1 : decode cJ2_charAt_3b067 1 = .ok (.aload_n 0, 1) := by decide +kernel
theorem dJ2_charAt_3b067_2 : decode cJ2_charAt_3b067 2 = .ok (.invokestatic 67, 3) := by decide +kernel
theorem dJ2_charAt_3b067_5 : decode cJ2_charAt_3b067 5 = .ok (.aload_n 0, 1) := by decide +kernel
theorem dJ2_charAt_3b067_6 : decode cJ2_charAt_3b067 6 = .ok (.iload_n 1, 1) := by decide +kernel
theorem dJ2_charAt_3b067_7 : decode cJ2_charAt_3b067 7 = .ok (.invokestatic 71, 3) := by decide +kernel
theorem dJ2_charAt_3b067_10 : decode cJ2_charAt_3b067 10 = .ok (.ireturn, 1) := by decide +kernel
theorem dJ2_inflate_0e8fd_0 : decode cJ2_inflate_0e8fd 0 = .ok (.iload_n 3, 1) := by decide +kernel
theorem dJ2_inflate_0e8fd_1 : decode cJ2_inflate_0e8fd 1 = .ok (.iload 4, 2) := by decide +kernel
theorem dJ2_inflate_0e8fd_3 : decode cJ2_inflate_0e8fd 3 = .ok (.aload_n 2, 1) := by decide +kernel
theorem dJ2_inflate_0e8fd_4 : decode cJ2_inflate_0e8fd 4 = .ok (.invokestatic 173, 3) := by decide +kernel
theorem dJ2_inflate_0e8fd_7 : decode cJ2_inflate_0e8fd 7 = .ok (.iconst 0, 1) := by decide +kernel
theorem dJ2_inflate_0e8fd_8 : decode cJ2_inflate_0e8fd 8 = .ok (.istore 5, 2) := by decide +kernel
theorem dJ2_inflate_0e8fd_10 : decode cJ2_inflate_0e8fd 10 = .ok (.iload 5, 2) := by decide +kernel
theorem dJ2_inflate_0e8fd_12 : decode cJ2_inflate_0e8fd 12 = .ok (.iload 4, 2) := by decide +kernel
theorem dJ2_inflate_0e8fd_14 : decode cJ2_inflate_0e8fd 14 = .ok (.if_icmp .ge 27, 3) := by decide +kernel
theorem dJ2_inflate_0e8fd_17 : decode cJ2_inflate_0e8fd 17 = .ok (.aload_n 2, 1) := by decide +kernel
theorem dJ2_inflate_0e8fd_18 : decode cJ2_inflate_0e8fd 18 = .ok (.iload_n 3, 1) := by decide +kernel
theorem dJ2_inflate_0e8fd_19 : decode cJ2_inflate_0e8fd 19 = .ok (.iinc 3 1, 3) := by decide +kernel
theorem dJ2_inflate_0e8fd_22 : decode cJ2_inflate_0e8fd 22 = .ok (.aload_n 0, 1) := by decide +kernel
theorem dJ2_inflate_0e8fd_23 : decode cJ2_inflate_0e8fd 23 = .ok (.iload_n 1, 1) := by decide +kernel
theorem dJ2_inflate_0e8fd_24 : decode cJ2_inflate_0e8fd 24 = .ok (.iinc 1 1, 3) := by decide +kernel
theorem dJ2_inflate_0e8fd_27 : decode cJ2_inflate_0e8fd 27 = .ok (.baload, 1) := by decide +kernel
theorem dJ2_inflate_0e8fd_28 : decode cJ2_inflate_0e8fd 28 = .ok (.sipush 255, 3) := by decide +kernel
theorem dJ2_inflate_0e8fd_31 : decode cJ2_inflate_0e8fd 31 = .ok (.iand, 1) := by decide +kernel
theorem dJ2_inflate_0e8fd_32 : decode cJ2_inflate_0e8fd 32 = .ok (.invokestatic 111, 3) := by decide +kernel
theorem dJ2_inflate_0e8fd_35 : decode cJ2_inflate_0e8fd 35 = .ok (.iinc 5 1, 3) := by decide +kernel
theorem dJ2_inflate_0e8fd_38 : decode cJ2_inflate_0e8fd 38 = .ok (.goto (-28), 3) := by decide +kernel
theorem dJ2_inflate_0e8fd_41 : decode cJ2_inflate_0e8fd 41 = .ok (.return_, 1) := by decide +kernel
theorem dJ2_getChars_ba4f3_0 : decode cJ2_getChars_ba4f3 0 = .ok (.iload_n 1, 1) := by decide +kernel
theorem dJ2_getChars_ba4f3_1 : decode cJ2_getChars_ba4f3 1 = .ok (.istore 5, 2) := by decide +kernel
theorem dJ2_getChars_ba4f3_3 : decode cJ2_getChars_ba4f3 3 = .ok (.iload_n 0, 1) := by decide +kernel
theorem dJ2_getChars_ba4f3_4 : decode cJ2_getChars_ba4f3 4 = .ok (.ifCond .ge 7, 3) := by decide +kernel
theorem dJ2_getChars_ba4f3_7 : decode cJ2_getChars_ba4f3 7 = .ok (.iconst 1, 1) := by decide +kernel
theorem dJ2_getChars_ba4f3_8 : decode cJ2_getChars_ba4f3 8 = .ok (.goto 4, 3) := by decide +kernel
theorem dJ2_getChars_ba4f3_11 : decode cJ2_getChars_ba4f3 11 = .ok (.iconst 0, 1) := by decide +kernel
theorem dJ2_getChars_ba4f3_12 : decode cJ2_getChars_ba4f3 12 = .ok (.istore 6, 2) := by decide +kernel
theorem dJ2_getChars_ba4f3_14 : decode cJ2_getChars_ba4f3 14 = .ok (.iload 6, 2) := by decide +kernel
theorem dJ2_getChars_ba4f3_16 : decode cJ2_getChars_ba4f3 16 = .ok (.ifCond .ne 6, 3) := by decide +kernel
theorem dJ2_getChars_ba4f3_19 : decode cJ2_getChars_ba4f3 19 = .ok (.iload_n 0, 1) := by decide +kernel
theorem dJ2_getChars_ba4f3_20 : decode cJ2_getChars_ba4f3 20 = .ok (.ineg, 1) := by decide +kernel
theorem dJ2_getChars_ba4f3_21 : decode cJ2_getChars_ba4f3 21 = .ok (.istore_n 0, 1) := by decide +kernel
theorem dJ2_getChars_ba4f3_22 : decode cJ2_getChars_ba4f3 22 = .ok (.iload_n 0, 1) := by decide +kernel
theorem dJ2_getChars_ba4f3_23 : decode cJ2_getChars_ba4f3 23 = .ok (.bipush (-100), 2) := by decide +kernel
theorem dJ2_getChars_ba4f3_25 : decode cJ2_getChars_ba4f3 25 = .ok (.if_icmp .gt 51, 3) := by decide +kernel
theorem dJ2_getChars_ba4f3_28 : decode cJ2_getChars_ba4f3 28 = .ok (.iload_n 0, 1) := by decide +kernel
theorem dJ2_getChars_ba4f3_29 : decode cJ2_getChars_ba4f3 29 = .ok (.bipush 100, 2) := by decide +kernel
theorem dJ2_getChars_ba4f3_31 : decode cJ2_getChars_ba4f3 31 = .ok (.idiv, 1) := by decide +kernel
theorem dJ2_getChars_ba4f3_32 : decode cJ2_getChars_ba4f3 32 = .ok (.istore_n 3, 1) := by decide +kernel
theorem dJ2_getChars_ba4f3_33 : decode cJ2_getChars_ba4f3 33 = .ok (.iload_n 3, 1) := by decide +kernel
theorem dJ2_getChars_ba4f3_34 : decode cJ2_getChars_ba4f3 34 = .ok (.bipush 100, 2) := by decide +kernel
theorem dJ2_getChars_ba4f3_36 : decode cJ2_getChars_ba4f3 36 = .ok (.imul, 1) := by decide +kernel
theorem dJ2_getChars_ba4f3_37 : decode cJ2_getChars_ba4f3 37 = .ok (.iload_n 0, 1) := by decide +kernel
theorem dJ2_getChars_ba4f3_38 : decode cJ2_getChars_ba4f3 38 = .ok (.isub, 1) := by decide +kernel
theorem dJ2_getChars_ba4f3_39 : decode cJ2_getChars_ba4f3 39 = .ok (.istore 4, 2) := by decide +kernel
theorem dJ2_getChars_ba4f3_41 : decode cJ2_getChars_ba4f3 41 = .ok (.iload_n 3, 1) := by decide +kernel
theorem dJ2_getChars_ba4f3_42 : decode cJ2_getChars_ba4f3 42 = .ok (.istore_n 0, 1) := by decide +kernel
theorem dJ2_getChars_ba4f3_43 : decode cJ2_getChars_ba4f3 43 = .ok (.aload_n 2, 1) := by decide +kernel
theorem dJ2_getChars_ba4f3_44 : decode cJ2_getChars_ba4f3 44 = .ok (.iinc 5 (-1), 3) := by decide +kernel
theorem dJ2_getChars_ba4f3_47 : decode cJ2_getChars_ba4f3 47 = .ok (.iload 5, 2) := by decide +kernel
theorem dJ2_getChars_ba4f3_49 : decode cJ2_getChars_ba4f3 49 = .ok (.getstatic 403, 3) := by decide +kernel
theorem dJ2_getChars_ba4f3_52 : decode cJ2_getChars_ba4f3 52 = .ok (.iload 4, 2) := by decide +kernel
theorem dJ2_getChars_ba4f3_54 : decode cJ2_getChars_ba4f3 54 = .ok (.baload, 1) := by decide +kernel
theorem dJ2_getChars_ba4f3_55 : decode cJ2_getChars_ba4f3 55 = .ok (.invokestatic 111, 3) := by decide +kernel
theorem dJ2_getChars_ba4f3_58 : decode cJ2_getChars_ba4f3 58 = .ok (.aload_n 2, 1) := by decide +kernel
theorem dJ2_getChars_ba4f3_59 : decode cJ2_getChars_ba4f3 59 = .ok (.iinc 5 (-1), 3) := by decide +kernel
theorem dJ2_getChars_ba4f3_62 : decode cJ2_getChars_ba4f3 62 = .ok (.iload 5, 2) := by decide +kernel
theorem dJ2_getChars_ba4f3_64 : decode cJ2_getChars_ba4f3 64 = .ok (.getstatic 407, 3) := by decide +kernel
theorem dJ2_getChars_ba4f3_67 : decode cJ2_getChars_ba4f3 67 = .ok (.iload 4, 2) := by decide +kernel
theorem dJ2_getChars_ba4f3_69 : decode cJ2_getChars_ba4f3 69 = .ok (.baload, 1) := by decide +kernel
theorem dJ2_getChars_ba4f3_70 : decode cJ2_getChars_ba4f3 70 = .ok (.invokestatic 111, 3) := by decide +kernel
theorem dJ2_getChars_ba4f3_73 : decode cJ2_getChars_ba4f3 73 = .ok (.goto (-51), 3) := by decide +kernel
theorem dJ2_getChars_ba4f3_76 : decode cJ2_getChars_ba4f3 76 = .ok (.aload_n 2, 1) := by decide +kernel
theorem dJ2_getChars_ba4f3_77 : decode cJ2_getChars_ba4f3 77 = .ok (.iinc 5 (-1), 3) := by decide +kernel
theorem dJ2_getChars_ba4f3_80 : decode cJ2_getChars_ba4f3 80 = .ok (.iload 5, 2) := by decide +kernel
theorem dJ2_getChars_ba4f3_82 : decode cJ2_getChars_ba4f3 82 = .ok (.getstatic 403, 3) := by decide +kernel
theorem dJ2_getChars_ba4f3_85 : decode cJ2_getChars_ba4f3 85 = .ok (.iload_n 0, 1) := by decide +kernel
theorem dJ2_getChars_ba4f3_86 : decode cJ2_getChars_ba4f3 86 = .ok (.ineg, 1) := by decide +kernel
theorem dJ2_getChars_ba4f3_87 : decode cJ2_getChars_ba4f3 87 = .ok (.baload, 1) := by decide +kernel
theorem dJ2_getChars_ba4f3_88 : decode cJ2_getChars_ba4f3 88 = .ok (.invokestatic 111, 3) := by decide +kernel
theorem dJ2_getChars_ba4f3_91 : decode cJ2_getChars_ba4f3 91 = .ok (.iload_n 0, 1) := by decide +kernel
theorem dJ2_getChars_ba4f3_92 : decode cJ2_getChars_ba4f3 92 = .ok (.bipush (-9), 2) := by decide +kernel
theorem dJ2_getChars_ba4f3_94 : decode cJ2_getChars_ba4f3 94 = .ok (.if_icmp .ge 18, 3) := by decide +kernel
theorem dJ2_getChars_ba4f3_97 : decode cJ2_getChars_ba4f3 97 = .ok (.aload_n 2, 1) := by decide +kernel
theorem dJ2_getChars_ba4f3_98 : decode cJ2_getChars_ba4f3 98 = .ok (.iinc 5 (-1), 3) := by decide +kernel
theorem dJ2_getChars_ba4f3_101 : decode cJ2_getChars_ba4f3 101 = .ok (.iload 5, 2) := by decide +kernel
theorem dJ2_getChars_ba4f3_103 : decode cJ2_getChars_ba4f3 103 = .ok (.getstatic 407, 3) := by decide +kernel
theorem dJ2_getChars_ba4f3_106 : decode cJ2_getChars_ba4f3 106 = .ok (.iload_n 0, 1) := by decide +kernel
theorem dJ2_getChars_ba4f3_107 : decode cJ2_getChars_ba4f3 107 = .ok (.ineg, 1) := by decide +kernel
theorem dJ2_getChars_ba4f3_108 : decode cJ2_getChars_ba4f3 108 = .ok (.baload, 1) := by decide +kernel
theorem dJ2_getChars_ba4f3_109 : decode cJ2_getChars_ba4f3 109 = .ok (.invokestatic 111, 3) := by decide +kernel
theorem dJ2_getChars_ba4f3_112 : decode cJ2_getChars_ba4f3 112 = .ok (.iload 6, 2) := by decide +kernel
theorem dJ2_getChars_ba4f3_114 : decode cJ2_getChars_ba4f3 114 = .ok (.ifCond .eq 14, 3) := by decide +kernel
theorem dJ2_getChars_ba4f3_117 : decode cJ2_getChars_ba4f3 117 = .ok (.aload_n 2, 1) := by decide +kernel
theorem dJ2_getChars_ba4f3_118 : decode cJ2_getChars_ba4f3 118 = .ok (.iinc 5 (-1), 3) := by decide +kernel
theorem dJ2_getChars_ba4f3_121 : decode cJ2_getChars_ba4f3 121 = .ok (.iload 5, 2) := by decide +kernel
theorem dJ2_getChars_ba4f3_123 : decode cJ2_getChars_ba4f3 123 = .ok (.bipush 45, 2) := by decide +kernel
theorem dJ2_getChars_ba4f3_125 : decode cJ2_getChars_ba4f3 125 = .ok (.invokestatic 111, 3) := by decide +kernel
theorem dJ2_getChars_ba4f3_128 : decode cJ2_getChars_ba4f3 128 = .ok (.iload 5, 2) := by decide +kernel
theorem dJ2_getChars_ba4f3_130 : decode cJ2_getChars_ba4f3 130 = .ok (.ireturn, 1) := by decide +kernel
theorem dJ2_checkIndex_2214a_0 : decode cJ2_checkIndex_2214a 0 = .ok (.iload_n 0, 1) := by decide +kernel
theorem dJ2_checkIndex_2214a_1 : decode cJ2_checkIndex_2214a 1 = .ok (.aload_n 1, 1) := by decide +kernel
theorem dJ2_checkIndex_2214a_2 : decode cJ2_checkIndex_2214a 2 = .ok (.invokestatic 48, 3) := by decide +kernel
theorem dJ2_checkIndex_2214a_5 : decode cJ2_checkIndex_2214a 5 = .ok (.invokestatic 414, 3) := by decide +kernel
theorem dJ2_checkIndex_2214a_8 : decode cJ2_checkIndex_2214a 8 = .ok (.return_, 1) := by decide +kernel
theorem dJ2_checkBoundsBeginEnd_d044e_0 : decode cJ2_checkBoundsBeginEnd_d044e 0 = .ok (.iload_n 0, 1) := by decide +kernel
theorem dJ2_checkBoundsBeginEnd_d044e_1 : decode cJ2_checkBoundsBeginEnd_d044e 1 = .ok (.iload_n 1, 1) := by decide +kernel
theorem dJ2_checkBoundsBeginEnd_d044e_2 : decode cJ2_checkBoundsBeginEnd_d044e 2 = .ok (.aload_n 2, 1) := by decide +kernel
theorem dJ2_checkBoundsBeginEnd_d044e_3 : decode cJ2_checkBoundsBeginEnd_d044e 3 = .ok (.invokestatic 48, 3) := by decide +kernel
theorem dJ2_checkBoundsBeginEnd_d044e_6 : decode cJ2_checkBoundsBeginEnd_d044e 6 = .ok (.invokestatic 241, 3) := by decide +kernel
theorem dJ2_checkBoundsBeginEnd_d044e_9 : decode cJ2_checkBoundsBeginEnd_d044e 9 = .ok (.return_, 1) := by decide +kernel
theorem dJ2_checkBoundsOffCount_d044e_0 : decode cJ2_checkBoundsOffCount_d044e 0 = .ok (.iload_n 0, 1) := by decide +kernel
theorem dJ2_checkBoundsOffCount_d044e_1 : decode cJ2_checkBoundsOffCount_d044e 1 = .ok (.iload_n 1, 1) := by decide +kernel
theorem dJ2_checkBoundsOffCount_d044e_2 : decode cJ2_checkBoundsOffCount_d044e 2 = .ok (.aload_n 2, 1) := by decide +kernel
theorem dJ2_checkBoundsOffCount_d044e_3 : decode cJ2_checkBoundsOffCount_d044e 3 = .ok (.invokestatic 48, 3) := by decide +kernel
theorem dJ2_checkBoundsOffCount_d044e_6 : decode cJ2_checkBoundsOffCount_d044e 6 = .ok (.invokestatic 419, 3) := by decide +kernel
theorem dJ2_checkBoundsOffCount_d044e_9 : decode cJ2_checkBoundsOffCount_d044e 9 = .ok (.pop, 1) := by decide +kernel
theorem dJ2_checkBoundsOffCount_d044e_10 : decode cJ2_checkBoundsOffCount_d044e 10 = .ok (.return_, 1) := by decide +kernel
theorem dJxa1e45_init_da8c8_0 : decode cJxa1e45_init_da8c8 0 = .ok (.aload_n 0, 1) := by decide +kernel
theorem dJxa1e45_init_da8c8_1 : decode cJxa1e45_init_da8c8 1 = .ok (.invokespecial 1, 3) := by decide +kernel
theorem dJxa1e45_init_da8c8_4 : decode cJxa1e45_init_da8c8 4 = .ok (.return_, 1) := by decide +kernel
theorem dJxc12de_init_da8c8_0 : decode cJxc12de_init_da8c8 0 = .ok (.aload_n 0, 1) := by decide +kernel
theorem dJxc12de_init_da8c8_1 : decode cJxc12de_init_da8c8 1 = .ok (.invokespecial 1, 3) := by decide +kernel
theorem dJxc12de_init_da8c8_4 : decode cJxc12de_init_da8c8 4 = .ok (.aload_n 0, 1) := by decide +kernel
theorem dJxc12de_init_da8c8_5 : decode cJxc12de_init_da8c8 5 = .ok (.iconst 0, 1) := by decide +kernel
theorem dJxc12de_init_da8c8_6 : decode cJxc12de_init_da8c8 6 = .ok (.putfield 7, 3) := by decide +kernel
theorem dJxc12de_init_da8c8_9 : decode cJxc12de_init_da8c8 9 = .ok (.return_, 1) := by decide +kernel
theorem dJx4a65c_init_da8c8_0 : decode cJx4a65c_init_da8c8 0 = .ok (.aload_n 0, 1) := by decide +kernel
theorem dJx4a65c_init_da8c8_1 : decode cJx4a65c_init_da8c8 1 = .ok (.invokespecial 1, 3) := by decide +kernel
theorem dJx4a65c_init_da8c8_4 : decode cJx4a65c_init_da8c8 4 = .ok (.aload_n 0, 1) := by decide +kernel
theorem dJx4a65c_init_da8c8_5 : decode cJx4a65c_init_da8c8 5 = .ok (.getstatic 39, 3) := by decide +kernel
theorem dJx4a65c_init_da8c8_8 : decode cJx4a65c_init_da8c8 8 = .ok (.putfield 9, 3) := by decide +kernel
theorem dJx4a65c_init_da8c8_11 : decode cJx4a65c_init_da8c8 11 = .ok (.return_, 1) := by decide +kernel
theorem dJx4a65c_grow_92f84_0 : decode cJx4a65c_grow_92f84 0 = .ok (.aload_n 0, 1) := by decide +kernel
theorem dJx4a65c_grow_92f84_1 : decode cJx4a65c_grow_92f84 1 = .ok (.getfield 9, 3) := by decide +kernel
theorem dJx4a65c_grow_92f84_4 : decode cJx4a65c_grow_92f84 4 = .ok (.arraylength, 1) := by decide +kernel
theorem dJx4a65c_grow_92f84_5 : decode cJx4a65c_grow_92f84 5 = .ok (.istore_n 2, 1) := by decide +kernel
theorem dJx4a65c_grow_92f84_6 : decode cJx4a65c_grow_92f84 6 = .ok (.iload_n 2, 1) := by decide +kernel
theorem dJx4a65c_grow_92f84_7 : decode cJx4a65c_grow_92f84 7 = .ok (.ifCond .gt 13, 3) := by decide +kernel
theorem dJx4a65c_grow_92f84_10 : decode cJx4a65c_grow_92f84 10 = .ok (.aload_n 0, 1) := by decide +kernel
theorem dJx4a65c_grow_92f84_11 : decode cJx4a65c_grow_92f84 11 = .ok (.getfield 9, 3) := by decide +kernel
theorem dJx4a65c_grow_92f84_14 : decode cJx4a65c_grow_92f84 14 = .ok (.getstatic 39, 3) := by decide +kernel
theorem dJx4a65c_grow_92f84_17 : decode cJx4a65c_grow_92f84 17 = .ok (.if_acmp .eq 28, 3) := by decide +kernel
theorem dJx4a65c_grow_92f84_20 : decode cJx4a65c_grow_92f84 20 = .ok (.iload_n 2, 1) := by decide +kernel
theorem dJx4a65c_grow_92f84_21 : decode cJx4a65c_grow_92f84 21 = .ok (.iload_n 1, 1) := by decide +kernel
theorem dJx4a65c_grow_92f84_22 : decode cJx4a65c_grow_92f84 22 = .ok (.iload_n 2, 1) := by decide +kernel
theorem dJx4a65c_grow_92f84_23 : decode cJx4a65c_grow_92f84 23 = .ok (.isub, 1) := by decide +kernel
theorem dJx4a65c_grow_92f84_24 : decode cJx4a65c_grow_92f84 24 = .ok (.iload_n 2, 1) := by decide +kernel
theorem dJx4a65c_grow_92f84_25 : decode cJx4a65c_grow_92f84 25 = .ok (.iconst 1, 1) := by decide +kernel
theorem dJx4a65c_grow_92f84_26 : decode cJx4a65c_grow_92f84 26 = .ok (.ishr, 1) := by decide +kernel
theorem dJx4a65c_grow_92f84_27 : decode cJx4a65c_grow_92f84 27 = .ok (.invokestatic 73, 3) := by decide +kernel
theorem dJx4a65c_grow_92f84_30 : decode cJx4a65c_grow_92f84 30 = .ok (.istore_n 3, 1) := by decide +kernel
theorem dJx4a65c_grow_92f84_31 : decode cJx4a65c_grow_92f84 31 = .ok (.aload_n 0, 1) := by decide +kernel
theorem dJx4a65c_grow_92f84_32 : decode cJx4a65c_grow_92f84 32 = .ok (.aload_n 0, 1) := by decide +kernel
theorem dJx4a65c_grow_92f84_33 : decode cJx4a65c_grow_92f84 33 = .ok (.getfield 9, 3) := by decide +kernel
theorem dJx4a65c_grow_92f84_36 : decode cJx4a65c_grow_92f84 36 = .ok (.iload_n 3, 1) := by decide +kernel
theorem dJx4a65c_grow_92f84_37 : decode cJx4a65c_grow_92f84 37 = .ok (.invokestatic 66, 3) := by decide +kernel
theorem dJx4a65c_grow_92f84_40 : decode cJx4a65c_grow_92f84 40 = .ok (.dup_x1, 1) := by decide +kernel
theorem dJx4a65c_grow_92f84_41 : decode cJx4a65c_grow_92f84 41 = .ok (.putfield 9, 3) := by decide +kernel
theorem dJx4a65c_grow_92f84_44 : decode cJx4a65c_grow_92f84 44 = .ok (.areturn, 1) := by decide +kernel
theorem dJx4a65c_grow_92f84_45 : decode cJx4a65c_grow_92f84 45 = .ok (.aload_n 0, 1) := by decide +kernel
theorem dJx4a65c_grow_92f84_46 : decode cJx4a65c_grow_92f84 46 = .ok (.bipush 10, 2) := by decide +kernel
theorem dJx4a65c_grow_92f84_48 : decode cJx4a65c_grow_92f84 48 = .ok (.iload_n 1, 1) := by decide +kernel
theorem dJx4a65c_grow_92f84_49 : decode cJx4a65c_grow_92f84 49 = .ok (.invokestatic 79, 3) := by decide +kernel
theorem dJx4a65c_grow_92f84_52 : decode cJx4a65c_grow_92f84 52 = .ok (.anewarray 7, 3) := by decide +kernel
theorem dJx4a65c_grow_92f84_55 : decode cJx4a65c_grow_92f84 55 = .ok (.dup_x1, 1) := by decide +kernel
theorem dJx4a65c_grow_92f84_56 : decode cJx4a65c_grow_92f84 56 = .ok (.putfield 9, 3) := by decide +kernel
theorem dJx4a65c_grow_92f84_59 : decode cJx4a65c_grow_92f84 59 = .ok (.areturn, 1) := by decide +kernel
theorem dJx4a65c_grow_d5877_0 : decode cJx4a65c_grow_d5877 0 = .ok (.aload_n 0, 1) := by decide +kernel
theorem dJx4a65c_grow_d5877_1 : decode cJx4a65c_grow_d5877 1 = .ok (.aload_n 0, 1) := by decide +kernel
theorem dJx4a65c_grow_d5877_2 : decode cJx4a65c_grow_d5877 2 = .ok (.getfield 48, 3) := by decide +kernel
theorem dJx4a65c_grow_d5877_5 : decode cJx4a65c_grow_d5877 5 = .ok (.iconst 1, 1) := by decide +kernel
theorem dJx4a65c_grow_d5877_6 : decode cJx4a65c_grow_d5877 6 = .ok (.iadd, 1) := by decide +kernel
theorem dJx4a65c_grow_d5877_7 : decode cJx4a65c_grow_d5877 7 = .ok (.invokevirtual 69, 3) := by decide +kernel
theorem dJx4a65c_grow_d5877_10 : decode cJx4a65c_grow_d5877 10 = .ok (.areturn, 1) := by decide +kernel
theorem dJx4a65c_size_8abf5_0 : decode cJx4a65c_size_8abf5 0 = .ok (.aload_n 0, 1) := by decide +kernel
theorem dJx4a65c_size_8abf5_1 : decode cJx4a65c_size_8abf5 1 = .ok (.getfield 48, 3) := by decide +kernel
theorem dJx4a65c_size_8abf5_4 : decode cJx4a65c_size_8abf5 4 = .ok (.ireturn, 1) := by decide +kernel
theorem dJx4a65c_elementData_915e3_0 : decode cJx4a65c_elementData_915e3 0 = .ok (.aload_n 0, 1) := by decide +kernel
theorem dJx4a65c_elementData_915e3_1 : decode cJx4a65c_elementData_915e3 1 = .ok (.getfield 9, 3) := by decide +kernel
theorem dJx4a65c_elementData_915e3_4 : decode cJx4a65c_elementData_915e3 4 = .ok (.iload_n 1, 1) := by decide +kernel
theorem dJx4a65c_elementData_915e3_5 : decode cJx4a65c_elementData_915e3 5 = .ok (.aaload, 1) := by decide +kernel
theorem dJx4a65c_elementData_915e3_6 : decode cJx4a65c_elementData_915e3 6 = .ok (.areturn, 1) := by decide +kernel
theorem dJx4a65c_get_915e3_0 : decode cJx4a65c_get_915e3 0 = .ok (.iload_n 1, 1) := by decide +kernel
theorem dJx4a65c_get_915e3_1 : decode cJx4a65c_get_915e3 1 = .ok (.aload_n 0, 1) := by decide +kernel
theorem dJx4a65c_get_915e3_2 : decode cJx4a65c_get_915e3 2 = .ok (.getfield 48, 3) := by decide +kernel
theorem dJx4a65c_get_915e3_5 : decode cJx4a65c_get_915e3 5 = .ok (.invokestatic 118, 3) := by decide +kernel
theorem dJx4a65c_get_915e3_8 : decode cJx4a65c_get_915e3 8 = .ok (.pop, 1) := by decide +kernel
theorem dJx4a65c_get_915e3_9 : decode cJx4a65c_get_915e3 9 = .ok (.aload_n 0, 1) := by decide +kernel
theorem dJx4a65c_get_915e3_10 : decode cJx4a65c_get_915e3 10 = .ok (.iload_n 1, 1) := by decide +kernel
theorem dJx4a65c_get_915e3_11 : decode cJx4a65c_get_915e3 11 = .ok (.invokevirtual 123, 3) := by decide +kernel
theorem dJx4a65c_get_915e3_14 : decode cJx4a65c_get_915e3 14 = .ok (.areturn, 1) := by decide +kernel
theorem dJx4a65c_set_bcc79_0 : decode cJx4a65c_set_bcc79 0 = .ok (.iload_n 1, 1) := by decide +kernel
theorem dJx4a65c_set_bcc79_1 : decode cJx4a65c_set_bcc79 1 = .ok (.aload_n 0, 1) := by decide +kernel
theorem dJx4a65c_set_bcc79_2 : decode cJx4a65c_set_bcc79 2 = .ok (.getfield 48, 3) := by decide +kernel
theorem dJx4a65c_set_bcc79_5 : decode cJx4a65c_set_bcc79 5 = .ok (.invokestatic 118, 3) := by decide +kernel
theorem dJx4a65c_set_bcc79_8 : decode cJx4a65c_set_bcc79 8 = .ok (.pop, 1) := by decide +kernel
theorem dJx4a65c_set_bcc79_9 : decode cJx4a65c_set_bcc79 9 = .ok (.aload_n 0, 1) := by decide +kernel
theorem dJx4a65c_set_bcc79_10 : decode cJx4a65c_set_bcc79 10 = .ok (.iload_n 1, 1) := by decide +kernel
theorem dJx4a65c_set_bcc79_11 : decode cJx4a65c_set_bcc79 11 = .ok (.invokevirtual 123, 3) := by decide +kernel
theorem dJx4a65c_set_bcc79_14 : decode cJx4a65c_set_bcc79 14 = .ok (.astore_n 3, 1) := by decide +kernel
theorem dJx4a65c_set_bcc79_15 : decode cJx4a65c_set_bcc79 15 = .ok (.aload_n 0, 1) := by decide +kernel
theorem dJx4a65c_set_bcc79_16 : decode cJx4a65c_set_bcc79 16 = .ok (.getfield 9, 3) := by decide +kernel
theorem dJx4a65c_set_bcc79_19 : decode cJx4a65c_set_bcc79 19 = .ok (.iload_n 1, 1) := by decide +kernel
theorem dJx4a65c_set_bcc79_20 : decode cJx4a65c_set_bcc79 20 = .ok (.aload_n 2, 1) := by decide +kernel
theorem dJx4a65c_set_bcc79_21 : decode cJx4a65c_set_bcc79 21 = .ok (.aastore, 1) := by decide +kernel
theorem dJx4a65c_set_bcc79_22 : decode cJx4a65c_set_bcc79 22 = .ok (.aload_n 3, 1) := by decide +kernel
theorem dJx4a65c_set_bcc79_23 : decode cJx4a65c_set_bcc79 23 = .ok (.areturn, 1) := by decide +kernel
theorem dJx4a65c_add_72be8_0 : decode cJx4a65c_add_72be8 0 = .ok (.iload_n 3, 1) := by decide +kernel
theorem dJx4a65c_add_72be8_1 : decode cJx4a65c_add_72be8 1 = .ok (.aload_n 2, 1) := by decide +kernel
theorem dJx4a65c_add_72be8_2 : decode cJx4a65c_add_72be8 2 = .ok (.arraylength, 1) := by decide +kernel
theorem dJx4a65c_add_72be8_3 : decode cJx4a65c_add_72be8 3 = .ok (.if_icmp .ne 8, 3) := by decide +kernel
theorem dJx4a65c_add_72be8_6 : decode cJx4a65c_add_72be8 6 = .ok (.aload_n 0, 1) := by decide +kernel
theorem dJx4a65c_add_72be8_7 : decode cJx4a65c_add_72be8 7 = .ok (.invokevirtual 129, 3) := by decide +kernel
theorem dJx4a65c_add_72be8_10 : decode cJx4a65c_add_72be8 10 = .ok (.astore_n 2, 1) := by decide +kernel
theorem dJx4a65c_add_72be8_11 : decode cJx4a65c_add_72be8 11 = .ok (.aload_n 2, 1) := by decide +kernel
theorem dJx4a65c_add_72be8_12 : decode cJx4a65c_add_72be8 12 = .ok (.iload_n 3, 1) := by decide +kernel
theorem dJx4a65c_add_72be8_13 : decode cJx4a65c_add_72be8 13 = .ok (.aload_n 1, 1) := by decide +kernel
theorem dJx4a65c_add_72be8_14 : decode cJx4a65c_add_72be8 14 = .ok (.aastore, 1) := by decide +kernel
theorem dJx4a65c_add_72be8_15 : decode cJx4a65c_add_72be8 15 = .ok (.aload_n 0, 1) := by decide +kernel
theorem dJx4a65c_add_72be8_16 : decode cJx4a65c_add_72be8 16 = .ok (.iload_n 3, 1) := by decide +kernel
theorem dJx4a65c_add_72be8_17 : decode cJx4a65c_add_72be8 17 = .ok (.iconst 1, 1) := by decide +kernel
theorem dJx4a65c_add_72be8_18 : decode cJx4a65c_add_72be8 18 = .ok (.iadd, 1) := by decide +kernel
theorem dJx4a65c_add_72be8_19 : decode cJx4a65c_add_72be8 19 = .ok (.putfield 48, 3) := by decide +kernel
theorem dJx4a65c_add_72be8_22 : decode cJx4a65c_add_72be8 22 = .ok (.return_, 1) := by decide +kernel
theorem dJx4a65c_add_9ea2d_0 : decode cJx4a65c_add_9ea2d 0 = .ok (.aload_n 0, 1) := by decide +kernel
theorem dJx4a65c_add_9ea2d_1 : decode cJx4a65c_add_9ea2d 1 = .ok (.dup, 1) := by decide +kernel
theorem dJx4a65c_add_9ea2d_2 : decode cJx4a65c_add_9ea2d 2 = .ok (.getfield 63, 3) := by decide +kernel
theorem dJx4a65c_add_9ea2d_5 : decode cJx4a65c_add_9ea2d 5 = .ok (.iconst 1, 1) := by decide +kernel
theorem dJx4a65c_add_9ea2d_6 : decode cJx4a65c_add_9ea2d 6 = .ok (.iadd, 1) := by decide +kernel
theorem dJx4a65c_add_9ea2d_7 : decode cJx4a65c_add_9ea2d 7 = .ok (.putfield 63, 3) := by decide +kernel
theorem dJx4a65c_add_9ea2d_10 : decode cJx4a65c_add_9ea2d 10 = .ok (.aload_n 0, 1) := by decide +kernel
theorem dJx4a65c_add_9ea2d_11 : decode cJx4a65c_add_9ea2d 11 = .ok (.aload_n 1, 1) := by decide +kernel
theorem dJx4a65c_add_9ea2d_12 : decode cJx4a65c_add_9ea2d 12 = .ok (.aload_n 0, 1) := by decide +kernel
theorem dJx4a65c_add_9ea2d_13 : decode cJx4a65c_add_9ea2d 13 = .ok (.getfield 9, 3) := by decide +kernel
theorem dJx4a65c_add_9ea2d_16 : decode cJx4a65c_add_9ea2d 16 = .ok (.aload_n 0, 1) := by decide +kernel
theorem dJx4a65c_add_9ea2d_17 : decode cJx4a65c_add_9ea2d 17 = .ok (.getfield 48, 3) := by decide +kernel
theorem dJx4a65c_add_9ea2d_20 : decode cJx4a65c_add_9ea2d 20 = .ok (.invokevirtual 131, 3) := by decide +kernel
theorem dJx4a65c_add_9ea2d_23 : decode cJx4a65c_add_9ea2d 23 = .ok (.iconst 1, 1) := by decide +kernel
theorem dJx4a65c_add_9ea2d_24 : decode cJx4a65c_add_9ea2d 24 = .ok (.ireturn, 1) := by decide +kernel
theorem dJx4a65c_add_7a177_0 : decode cJx4a65c_add_7a177 0 = .ok (.aload_n 0, 1) := by decide +kernel
theorem dJx4a65c_add_7a177_1 : decode cJx4a65c_add_7a177 1 = .ok (.iload_n 1, 1) := by decide +kernel
theorem dJx4a65c_add_7a177_2 : decode cJx4a65c_add_7a177 2 = .ok (.invokevirtual 135, 3) := by decide +kernel
theorem dJx4a65c_add_7a177_5 : decode cJx4a65c_add_7a177 5 = .ok (.aload_n 0, 1) := by decide +kernel
theorem dJx4a65c_add_7a177_6 : decode cJx4a65c_add_7a177 6 = .ok (.dup, 1) := by decide +kernel
theorem dJx4a65c_add_7a177_7 : decode cJx4a65c_add_7a177 7 = .ok (.getfield 63, 3) := by decide +kernel
theorem dJx4a65c_add_7a177_10 : decode cJx4a65c_add_7a177 10 = .ok (.iconst 1, 1) := by decide +kernel
theorem dJx4a65c_add_7a177_11 : decode cJx4a65c_add_7a177 11 = .ok (.iadd, 1) := by decide +kernel
theorem dJx4a65c_add_7a177_12 : decode cJx4a65c_add_7a177 12 = .ok (.putfield 63, 3) := by decide +kernel
theorem dJx4a65c_add_7a177_15 : decode cJx4a65c_add_7a177 15 = .ok (.aload_n 0, 1) := by decide +kernel
theorem dJx4a65c_add_7a177_16 : decode cJx4a65c_add_7a177 16 = .ok (.getfield 48, 3) := by decide +kernel
theorem dJx4a65c_add_7a177_19 : decode cJx4a65c_add_7a177 19 = .ok (.dup, 1) := by decide +kernel
theorem dJx4a65c_add_7a177_20 : decode cJx4a65c_add_7a177 20 = .ok (.istore_n 3, 1) := by decide +kernel
theorem dJx4a65c_add_7a177_21 : decode cJx4a65c_add_7a177 21 = .ok (.aload_n 0, 1) := by decide +kernel
theorem dJx4a65c_add_7a177_22 : decode cJx4a65c_add_7a177 22 = .ok (.getfield 9, 3) := by decide +kernel
theorem dJx4a65c_add_7a177_25 : decode cJx4a65c_add_7a177 25 = .ok (.dup, 1) := by decide +kernel
theorem dJx4a65c_add_7a177_26 : decode cJx4a65c_add_7a177 26 = .ok (.astore 4, 2) := by decide +kernel
theorem dJx4a65c_add_7a177_28 : decode cJx4a65c_add_7a177 28 = .ok (.arraylength, 1) := by decide +kernel
theorem dJx4a65c_add_7a177_29 : decode cJx4a65c_add_7a177 29 = .ok (.if_icmp .ne 9, 3) := by decide +kernel
theorem dJx4a65c_add_7a177_32 : decode cJx4a65c_add_7a177 32 = .ok (.aload_n 0, 1) := by decide +kernel
theorem dJx4a65c_add_7a177_33 : decode cJx4a65c_add_7a177 33 = .ok (.invokevirtual 129, 3) := by decide +kernel
theorem dJx4a65c_add_7a177_36 : decode cJx4a65c_add_7a177 36 = .ok (.astore 4, 2) := by decide +kernel
theorem dJx4a65c_add_7a177_38 : decode cJx4a65c_add_7a177 38 = .ok (.aload 4, 2) := by decide +kernel
theorem dJx4a65c_add_7a177_40 : decode cJx4a65c_add_7a177 40 = .ok (.iload_n 1, 1) := by decide +kernel
theorem dJx4a65c_add_7a177_41 : decode cJx4a65c_add_7a177 41 = .ok (.aload 4, 2) := by decide +kernel
theorem dJx4a65c_add_7a177_43 : decode cJx4a65c_add_7a177 43 = .ok (.iload_n 1, 1) := by decide +kernel
theorem dJx4a65c_add_7a177_44 : decode cJx4a65c_add_7a177 44 = .ok (.iconst 1, 1) := by decide +kernel
theorem dJx4a65c_add_7a177_45 : decode cJx4a65c_add_7a177 45 = .ok (.iadd, 1) := by decide +kernel
theorem dJx4a65c_add_7a177_46 : decode cJx4a65c_add_7a177 46 = .ok (.iload_n 3, 1) := by decide +kernel
theorem dJx4a65c_add_7a177_47 : decode cJx4a65c_add_7a177 47 = .ok (.iload_n 1, 1) := by decide +kernel
theorem dJx4a65c_add_7a177_48 : decode cJx4a65c_add_7a177 48 = .ok (.isub, 1) := by decide +kernel
theorem dJx4a65c_add_7a177_49 : decode cJx4a65c_add_7a177 49 = .ok (.invokestatic 112, 3) := by decide +kernel
theorem dJx4a65c_add_7a177_52 : decode cJx4a65c_add_7a177 52 = .ok (.aload 4, 2) := by decide +kernel
theorem dJx4a65c_add_7a177_54 : decode cJx4a65c_add_7a177 54 = .ok (.iload_n 1, 1) := by decide +kernel
theorem dJx4a65c_add_7a177_55 : decode cJx4a65c_add_7a177 55 = .ok (.aload_n 2, 1) := by decide +kernel
theorem dJx4a65c_add_7a177_56 : decode cJx4a65c_add_7a177 56 = .ok (.aastore, 1) := by decide +kernel
theorem dJx4a65c_add_7a177_57 : decode cJx4a65c_add_7a177 57 = .ok (.aload_n 0, 1) := by decide +kernel
theorem dJx4a65c_add_7a177_58 : decode cJx4a65c_add_7a177 58 = .ok (.iload_n 3, 1) := by decide +kernel
theorem dJx4a65c_add_7a177_59 : decode cJx4a65c_add_7a177 59 = .ok (.iconst 1, 1) := by decide +kernel
theorem dJx4a65c_add_7a177_60 : decode cJx4a65c_add_7a177 60 = .ok (.iadd, 1) := by decide +kernel
theorem dJx4a65c_add_7a177_61 : decode cJx4a65c_add_7a177 61 = .ok (.putfield 48, 3) := by decide +kernel
theorem dJx4a65c_add_7a177_64 : decode cJx4a65c_add_7a177 64 = .ok (.return_, 1) := by decide +kernel
theorem dJx4a65c_rangeCheckForAdd_d00df_0 : decode cJx4a65c_rangeCheckForAdd_d00df 0 = .ok (.iload_n 1, 1) := by decide +kernel
theorem dJx4a65c_rangeCheckForAdd_d00df_1 : decode cJx4a65c_rangeCheckForAdd_d00df 1 = .ok (.aload_n 0, 1) := by decide +kernel
theorem dJx4a65c_rangeCheckForAdd_d00df_2 : decode cJx4a65c_rangeCheckForAdd_d00df 2 = .ok (.getfield 48, 3) := by decide +kernel
theorem dJx4a65c_rangeCheckForAdd_d00df_5 : decode cJx4a65c_rangeCheckForAdd_d00df 5 = .ok (.if_icmp .gt 7, 3) := by decide +kernel
theorem dJx4a65c_rangeCheckForAdd_d00df_8 : decode cJx4a65c_rangeCheckForAdd_d00df 8 = .ok (.iload_n 1, 1) := by decide +kernel
theorem dJx4a65c_rangeCheckForAdd_d00df_9 : decode cJx4a65c_rangeCheckForAdd_d00df 9 = .ok (.ifCond .ge 16, 3) := by decide +kernel
theorem dJx4a65c_rangeCheckForAdd_d00df_12 : decode cJx4a65c_rangeCheckForAdd_d00df 12 = .ok (.new 187, 3) := by decide +kernel
theorem dJx4a65c_rangeCheckForAdd_d00df_15 : decode cJx4a65c_rangeCheckForAdd_d00df 15 = .ok (.dup, 1) := by decide +kernel
theorem dJx4a65c_rangeCheckForAdd_d00df_16 : decode cJx4a65c_rangeCheckForAdd_d00df 16 = .ok (.aload_n 0, 1) := by decide +kernel
theorem dJx4a65c_rangeCheckForAdd_d00df_17 : decode cJx4a65c_rangeCheckForAdd_d00df 17 = .ok (.iload_n 1, 1) := by decide +kernel
theorem dJx4a65c_rangeCheckForAdd_d00df_18 : decode cJx4a65c_rangeCheckForAdd_d00df 18 = .ok (.invokevirtual 198, 3) := by decide +kernel
theorem dJx4a65c_rangeCheckForAdd_d00df_21 : decode cJx4a65c_rangeCheckForAdd_d00df 21 = .ok (.invokespecial 193, 3) := by decide +kernel
theorem dJx4a65c_rangeCheckForAdd_d00df_24 : decode cJx4a65c_rangeCheckForAdd_d00df 24 = .ok (.athrow, 1) := by decide +kernel
theorem dJx4a65c_rangeCheckForAdd_d00df_25 : decode cJx4a65c_rangeCheckForAdd_d00df 25 = .ok (.return_, 1) := by decide +kernel
theorem dJ7_fill_53178_0 : decode cJ7_fill_53178 0 = .ok (.iconst 0, 1) := by decide +kernel
theorem dJ7_fill_53178_1 : decode cJ7_fill_53178 1 = .ok (.istore_n 2, 1) := by decide +kernel
theorem dJ7_fill_53178_2 : decode cJ7_fill_53178 2 = .ok (.aload_n 0, 1) := by decide +kernel
theorem dJ7_fill_53178_3 : decode cJ7_fill_53178 3 = .ok (.arraylength, 1) := by decide +kernel
theorem dJ7_fill_53178_4 : decode cJ7_fill_53178 4 = .ok (.istore_n 3, 1) := by decide +kernel
theorem dJ7_fill_53178_5 : decode cJ7_fill_53178 5 = .ok (.iload_n 2, 1) := by decide +kernel
theorem dJ7_fill_53178_6 : decode cJ7_fill_53178 6 = .ok (.iload_n 3, 1) := by decide +kernel
theorem dJ7_fill_53178_7 : decode cJ7_fill_53178 7 = .ok (.if_icmp .ge 13, 3) := by decide +kernel
theorem dJ7_fill_53178_10 : decode cJ7_fill_53178 10 = .ok (.aload_n 0, 1) := by decide +kernel
theorem dJ7_fill_53178_11 : decode cJ7_fill_53178 11 = .ok (.iload_n 2, 1) := by decide +kernel
theorem dJ7_fill_53178_12 : decode cJ7_fill_53178 12 = .ok (.iload_n 1, 1) := by decide +kernel
theorem dJ7_fill_53178_13 : decode cJ7_fill_53178 13 = .ok (.iastore, 1) := by decide +kernel
theorem dJ7_fill_53178_14 : decode cJ7_fill_53178 14 = .ok (.iinc 2 1, 3) := by decide +kernel
theorem dJ7_fill_53178_17 : decode cJ7_fill_53178 17 = .ok (.goto (-12), 3) := by decide +kernel
theorem dJ7_fill_53178_20 : decode cJ7_fill_53178 20 = .ok (.return_, 1) := by decide +kernel
theorem dJ7_copyOf_1904c_0 : decode cJ7_copyOf_1904c 0 = .ok (.aload_n 0, 1) := by decide +kernel
theorem dJ7_copyOf_1904c_1 : decode cJ7_copyOf_1904c 1 = .ok (.iload_n 1, 1) := by decide +kernel
theorem dJ7_copyOf_1904c_2 : decode cJ7_copyOf_1904c 2 = .ok (.aload_n 0, 1) := by decide +kernel
theorem dJ7_copyOf_1904c_3 : decode cJ7_copyOf_1904c 3 = .ok (.invokevirtual 86, 3) := by decide +kernel
theorem dJ7_copyOf_1904c_6 : decode cJ7_copyOf_1904c 6 = .ok (.invokestatic 300, 3) := by decide +kernel
theorem dJ7_copyOf_1904c_9 : decode cJ7_copyOf_1904c 9 = .ok (.areturn, 1) := by decide +kernel
theorem dJ7_copyOf_6403c_0 : decode cJ7_copyOf_6403c 0 = .ok (.aload_n 2, 1) := by decide +kernel
theorem dJ7_copyOf_6403c_1 : decode cJ7_copyOf_6403c 1 = .ok (.ldc 110, 2) := by decide +kernel
theorem dJ7_copyOf_6403c_3 : decode cJ7_copyOf_6403c 3 = .ok (.if_acmp .ne 10, 3) := by decide +kernel
theorem dJ7_copyOf_6403c_6 : decode cJ7_copyOf_6403c 6 = .ok (.iload_n 1, 1) := by decide +kernel
theorem dJ7_copyOf_6403c_7 : decode cJ7_copyOf_6403c 7 = .ok (.anewarray 2, 3) := by decide +kernel
theorem dJ7_copyOf_6403c_10 : decode cJ7_copyOf_6403c 10 = .ok (.goto 14, 3) := by decide +kernel
theorem dJ7_copyOf_6403c_13 : decode cJ7_copyOf_6403c 13 = .ok (.aload_n 2, 1) := by decide +kernel
theorem dJ7_copyOf_6403c_14 : decode cJ7_copyOf_6403c 14 = .ok (.invokevirtual 90, 3) := by decide +kernel
theorem dJ7_copyOf_6403c_17 : decode cJ7_copyOf_6403c 17 = .ok (.iload_n 1, 1) := by decide +kernel
theorem dJ7_copyOf_6403c_18 : decode cJ7_copyOf_6403c 18 = .ok (.invokestatic 95, 3) := by decide +kernel
theorem dJ7_copyOf_6403c_21 : decode cJ7_copyOf_6403c 21 = .ok (.checkcast 110, 3) := by decide +kernel
theorem dJ7_copyOf_6403c_24 : decode cJ7_copyOf_6403c 24 = .ok (.astore_n 3, 1) := by decide +kernel
theorem dJ7_copyOf_6403c_25 : decode cJ7_copyOf_6403c 25 = .ok (.aload_n 0, 1) := by decide +kernel
theorem dJ7_copyOf_6403c_26 : decode cJ7_copyOf_6403c 26 = .ok (.iconst 0, 1) := by decide +kernel
theorem dJ7_copyOf_6403c_27 : decode cJ7_copyOf_6403c 27 = .ok (.aload_n 3, 1) := by decide +kernel
theorem dJ7_copyOf_6403c_28 : decode cJ7_copyOf_6403c 28 = .ok (.iconst 0, 1) := by decide +kernel
theorem dJ7_copyOf_6403c_29 : decode cJ7_copyOf_6403c 29 = .ok (.aload_n 0, 1) := by decide +kernel
theorem dJ7_copyOf_6403c_30 : decode cJ7_copyOf_6403c 30 = .ok (.arraylength, 1) := by decide +kernel
theorem dJ7_copyOf_6403c_31 : decode cJ7_copyOf_6403c 31 = .ok (.iload_n 1, 1) := by decide +kernel
theorem dJ7_copyOf_6403c_32 : decode cJ7_copyOf_6403c 32 = .ok (.invokestatic 304, 3) := by decide +kernel
theorem dJ7_copyOf_6403c_35 : decode cJ7_copyOf_6403c 35 = .ok (.invokestatic 150, 3) := by decide +kernel
theorem dJ7_copyOf_6403c_38 : decode cJ7_copyOf_6403c 38 = .ok (.aload_n 3, 1) := by decide +kernel
theorem dJ7_copyOf_6403c_39 : decode cJ7_copyOf_6403c 39 = .ok (.areturn, 1) := by decide +kernel
theorem dJ7_copyOf_9075b_0 : decode cJ7_copyOf_9075b 0 = .ok (.iload_n 1, 1) := by decide +kernel
theorem dJ7_copyOf_9075b_1 : decode cJ7_copyOf_9075b 1 = .ok (.aload_n 0, 1) := by decide +kernel
theorem dJ7_copyOf_9075b_2 : decode cJ7_copyOf_9075b 2 = .ok (.arraylength, 1) := by decide +kernel
theorem dJ7_copyOf_9075b_3 : decode cJ7_copyOf_9075b 3 = .ok (.if_icmp .ne 11, 3) := by decide +kernel
theorem dJ7_copyOf_9075b_6 : decode cJ7_copyOf_9075b 6 = .ok (.aload_n 0, 1) := by decide +kernel
theorem dJ7_copyOf_9075b_7 : decode cJ7_copyOf_9075b 7 = .ok (.invokevirtual 310, 3) := by decide +kernel
theorem dJ7_copyOf_9075b_10 : decode cJ7_copyOf_9075b 10 = .ok (.checkcast 311, 3) := by decide +kernel
theorem dJ7_copyOf_9075b_13 : decode cJ7_copyOf_9075b 13 = .ok (.areturn, 1) := by decide +kernel
theorem dJ7_copyOf_9075b_14 : decode cJ7_copyOf_9075b 14 = .ok (.iload_n 1, 1) := by decide +kernel
theorem dJ7_copyOf_9075b_15 : decode cJ7_copyOf_9075b 15 = .ok (.newarray .byte, 2) := by decide +kernel
theorem dJ7_copyOf_9075b_17 : decode cJ7_copyOf_9075b 17 = .ok (.astore_n 2, 1) := by decide +kernel
theorem dJ7_copyOf_9075b_18 : decode cJ7_copyOf_9075b 18 = .ok (.aload_n 0, 1) := by decide +kernel
theorem dJ7_copyOf_9075b_19 : decode cJ7_copyOf_9075b 19 = .ok (.iconst 0, 1) := by decide +kernel
theorem dJ7_copyOf_9075b_20 : decode cJ7_copyOf_9075b 20 = .ok (.aload_n 2, 1) := by decide +kernel
theorem dJ7_copyOf_9075b_21 : decode cJ7_copyOf_9075b 21 = .ok (.iconst 0, 1) := by decide +kernel
theorem dJ7_copyOf_9075b_22 : decode cJ7_copyOf_9075b 22 = .ok (.aload_n 0, 1) := by decide +kernel
theorem dJ7_copyOf_9075b_23 : decode cJ7_copyOf_9075b 23 = .ok (.arraylength, 1) := by decide +kernel
theorem dJ7_copyOf_9075b_24 : decode cJ7_copyOf_9075b 24 = .ok (.iload_n 1, 1) := by decide +kernel
theorem dJ7_copyOf_9075b_25 : decode cJ7_copyOf_9075b 25 = .ok (.invokestatic 304, 3) := by decide +kernel
theorem dJ7_copyOf_9075b_28 : decode cJ7_copyOf_9075b 28 = .ok (.invokestatic 150, 3) := by decide +kernel
theorem dJ7_copyOf_9075b_31 : decode cJ7_copyOf_9075b 31 = .ok (.aload_n 2, 1) := by decide +kernel
theorem dJ7_copyOf_9075b_32 : decode cJ7_copyOf_9075b 32 = .ok (.areturn, 1) := by decide +kernel
theorem dJ7_copyOf_59c91_0 : decode cJ7_copyOf_59c91 0 = .ok (.iload_n 1, 1) := by decide +kernel
theorem dJ7_copyOf_59c91_1 : decode cJ7_copyOf_59c91 1 = .ok (.aload_n 0, 1) := by decide +kernel
theorem dJ7_copyOf_59c91_2 : decode cJ7_copyOf_59c91 2 = .ok (.arraylength, 1) := by decide +kernel
theorem dJ7_copyOf_59c91_3 : decode cJ7_copyOf_59c91 3 = .ok (.if_icmp .ne 11, 3) := by decide +kernel
theorem dJ7_copyOf_59c91_6 : decode cJ7_copyOf_59c91 6 = .ok (.aload_n 0, 1) := by decide +kernel
theorem dJ7_copyOf_59c91_7 : decode cJ7_copyOf_59c91 7 = .ok (.invokevirtual 316, 3) := by decide +kernel
theorem dJ7_copyOf_59c91_10 : decode cJ7_copyOf_59c91 10 = .ok (.checkcast 317, 3) := by decide +kernel
theorem dJ7_copyOf_59c91_13 : decode cJ7_copyOf_59c91 13 = .ok (.areturn, 1) := by decide +kernel
theorem dJ7_copyOf_59c91_14 : decode cJ7_copyOf_59c91 14 = .ok (.iload_n 1, 1) := by decide +kernel
theorem dJ7_copyOf_59c91_15 : decode cJ7_copyOf_59c91 15 = .ok (.newarray .int, 2) := by decide +kernel
theorem dJ7_copyOf_59c91_17 : decode cJ7_copyOf_59c91 17 = .ok (.astore_n 2, 1) := by decide +kernel
theorem dJ7_copyOf_59c91_18 : decode cJ7_copyOf_59c91 18 = .ok (.aload_n 0, 1) := by decide +kernel
theorem dJ7_copyOf_59c91_19 : decode cJ7_copyOf_59c91 19 = .ok (.iconst 0, 1) := by decide +kernel
theorem dJ7_copyOf_59c91_20 : decode cJ7_copyOf_59c91 20 = .ok (.aload_n 2, 1) := by decide +kernel
theorem dJ7_copyOf_59c91_21 : decode cJ7_copyOf_59c91 21 = .ok (.iconst 0, 1) := by decide +kernel
theorem dJ7_copyOf_59c91_22 : decode cJ7_copyOf_59c91 22 = .ok (.aload_n 0, 1) := by decide +kernel
theorem dJ7_copyOf_59c91_23 : decode cJ7_copyOf_59c91 23 = .ok (.arraylength, 1) := by decide +kernel
theorem dJ7_copyOf_59c91_24 : decode cJ7_copyOf_59c91 24 = .ok (.iload_n 1, 1) := by decide +kernel
theorem dJ7_copyOf_59c91_25 : decode cJ7_copyOf_59c91 25 = .ok (.invokestatic 304, 3) := by decide +kernel
theorem dJ7_copyOf_59c91_28 : decode cJ7_copyOf_59c91 28 = .ok (.invokestatic 150, 3) := by decide +kernel
theorem dJ7_copyOf_59c91_31 : decode cJ7_copyOf_59c91 31 = .ok (.aload_n 2, 1) := by decide +kernel
theorem dJ7_copyOf_59c91_32 : decode cJ7_copyOf_59c91 32 = .ok (.areturn, 1) := by decide +kernel
theorem dJ7_checkLength_df160_0 : decode cJ7_checkLength_df160 0 = .ok (.iload_n 1, 1) := by decide +kernel
theorem dJ7_checkLength_df160_1 : decode cJ7_checkLength_df160 1 = .ok (.iload_n 0, 1) := by decide +kernel
theorem dJ7_checkLength_df160_2 : decode cJ7_checkLength_df160 2 = .ok (.if_icmp .ge 35, 3) := by decide +kernel
theorem dJ7_checkLength_df160_5 : decode cJ7_checkLength_df160 5 = .ok (.new 43, 3) := by decide +kernel
theorem dJ7_checkLength_df160_8 : decode cJ7_checkLength_df160 8 = .ok (.dup, 1) := by decide +kernel
theorem dJ7_checkLength_df160_9 : decode cJ7_checkLength_df160 9 = .ok (.new 45, 3) := by decide +kernel
theorem dJ7_checkLength_df160_12 : decode cJ7_checkLength_df160 12 = .ok (.dup, 1) := by decide +kernel
theorem dJ7_checkLength_df160_13 : decode cJ7_checkLength_df160 13 = .ok (.invokespecial 47, 3) := by decide +kernel
theorem dJ7_checkLength_df160_16 : decode cJ7_checkLength_df160 16 = .ok (.iload_n 0, 1) := by decide +kernel
theorem dJ7_checkLength_df160_17 : decode cJ7_checkLength_df160 17 = .ok (.invokevirtual 54, 3) := by decide +kernel
theorem dJ7_checkLength_df160_20 : decode cJ7_checkLength_df160 20 = .ok (.ldc_w 337, 3) := by decide +kernel
theorem dJ7_checkLength_df160_23 : decode cJ7_checkLength_df160 23 = .ok (.invokevirtual 50, 3) := by decide +kernel
theorem dJ7_checkLength_df160_26 : decode cJ7_checkLength_df160 26 = .ok (.iload_n 1, 1) := by decide +kernel
theorem dJ7_checkLength_df160_27 : decode cJ7_checkLength_df160 27 = .ok (.invokevirtual 54, 3) := by decide +kernel
theorem dJ7_checkLength_df160_30 : decode cJ7_checkLength_df160 30 = .ok (.invokevirtual 61, 3) := by decide +kernel
theorem dJ7_checkLength_df160_33 : decode cJ7_checkLength_df160 33 = .ok (.invokespecial 65, 3) := by decide +kernel
theorem dJ7_checkLength_df160_36 : decode cJ7_checkLength_df160 36 = .ok (.athrow, 1) := by decide +kernel
theorem dJ7_checkLength_df160_37 : decode cJ7_checkLength_df160 37 = .ok (.return_, 1) := by decide +kernel
theorem dJ7_copyOfRange_39247_0 : decode cJ7_copyOfRange_39247 0 = .ok (.iload_n 1, 1) := by decide +kernel
theorem dJ7_copyOfRange_39247_1 : decode cJ7_copyOfRange_39247 1 = .ok (.ifCond .ne 9, 3) := by decide +kernel
theorem dJ7_copyOfRange_39247_4 : decode cJ7_copyOfRange_39247 4 = .ok (.iload_n 2, 1) := by decide +kernel
theorem dJ7_copyOfRange_39247_5 : decode cJ7_copyOfRange_39247 5 = .ok (.aload_n 0, 1) := by decide +kernel
theorem dJ7_copyOfRange_39247_6 : decode cJ7_copyOfRange_39247 6 = .ok (.arraylength, 1) := by decide +kernel
theorem dJ7_copyOfRange_39247_7 : decode cJ7_copyOfRange_39247 7 = .ok (.if_icmp .eq 10, 3) := by decide +kernel
theorem dJ7_copyOfRange_39247_10 : decode cJ7_copyOfRange_39247 10 = .ok (.aload_n 0, 1) := by decide +kernel
theorem dJ7_copyOfRange_39247_11 : decode cJ7_copyOfRange_39247 11 = .ok (.iload_n 1, 1) := by decide +kernel
theorem dJ7_copyOfRange_39247_12 : decode cJ7_copyOfRange_39247 12 = .ok (.iload_n 2, 1) := by decide +kernel
theorem dJ7_copyOfRange_39247_13 : decode cJ7_copyOfRange_39247 13 = .ok (.invokestatic 339, 3) := by decide +kernel
theorem dJ7_copyOfRange_39247_16 : decode cJ7_copyOfRange_39247 16 = .ok (.areturn, 1) := by decide +kernel
theorem dJ7_copyOfRange_39247_17 : decode cJ7_copyOfRange_39247 17 = .ok (.aload_n 0, 1) := by decide +kernel
theorem dJ7_copyOfRange_39247_18 : decode cJ7_copyOfRange_39247 18 = .ok (.invokevirtual 310, 3) := by decide +kernel
theorem dJ7_copyOfRange_39247_21 : decode cJ7_copyOfRange_39247 21 = .ok (.checkcast 311, 3) := by decide +kernel
theorem dJ7_copyOfRange_39247_24 : decode cJ7_copyOfRange_39247 24 = .ok (.areturn, 1) := by decide +kernel
theorem dJ7_copyOfRangeByte_39247_0 : decode cJ7_copyOfRangeByte_39247 0 = .ok (.iload_n 1, 1) := by decide +kernel
theorem dJ7_copyOfRangeByte_39247_1 : decode cJ7_copyOfRangeByte_39247 1 = .ok (.iload_n 2, 1) := by decide +kernel
theorem dJ7_copyOfRangeByte_39247_2 : decode cJ7_copyOfRangeByte_39247 2 = .ok (.invokestatic 343, 3) := by decide +kernel
theorem dJ7_copyOfRangeByte_39247_5 : decode cJ7_copyOfRangeByte_39247 5 = .ok (.iload_n 2, 1) := by decide +kernel
theorem dJ7_copyOfRangeByte_39247_6 : decode cJ7_copyOfRangeByte_39247 6 = .ok (.iload_n 1, 1) := by decide +kernel
theorem dJ7_copyOfRangeByte_39247_7 : decode cJ7_copyOfRangeByte_39247 7 = .ok (.isub, 1) := by decide +kernel
theorem dJ7_copyOfRangeByte_39247_8 : decode cJ7_copyOfRangeByte_39247 8 = .ok (.istore_n 3, 1) := by decide +kernel
theorem dJ7_copyOfRangeByte_39247_9 : decode cJ7_copyOfRangeByte_39247 9 = .ok (.iload_n 3, 1) := by decide +kernel
theorem dJ7_copyOfRangeByte_39247_10 : decode cJ7_copyOfRangeByte_39247 10 = .ok (.newarray .byte, 2) := by decide +kernel
theorem dJ7_copyOfRangeByte_39247_12 : decode cJ7_copyOfRangeByte_39247 12 = .ok (.astore 4, 2) := by decide +kernel
theorem dJ7_copyOfRangeByte_39247_14 : decode cJ7_copyOfRangeByte_39247 14 = .ok (.aload_n 0, 1) := by decide +kernel
theorem dJ7_copyOfRangeByte_39247_15 : decode cJ7_copyOfRangeByte_39247 15 = .ok (.iload_n 1, 1) := by decide +kernel
theorem dJ7_copyOfRangeByte_39247_16 : decode cJ7_copyOfRangeByte_39247 16 = .ok (.aload 4, 2) := by decide +kernel
theorem dJ7_copyOfRangeByte_39247_18 : decode cJ7_copyOfRangeByte_39247 18 = .ok (.iconst 0, 1) := by decide +kernel
theorem dJ7_copyOfRangeByte_39247_19 : decode cJ7_copyOfRangeByte_39247 19 = .ok (.aload_n 0, 1) := by decide +kernel
theorem dJ7_copyOfRangeByte_39247_20 : decode cJ7_copyOfRangeByte_39247 20 = .ok (.arraylength, 1) := by decide +kernel
theorem dJ7_copyOfRangeByte_39247_21 : decode cJ7_copyOfRangeByte_39247 21 = .ok (.iload_n 1, 1) := by decide +kernel
theorem dJ7_copyOfRangeByte_39247_22 : decode cJ7_copyOfRangeByte_39247 22 = .ok (.isub, 1) := by decide +kernel
theorem dJ7_copyOfRangeByte_39247_23 : decode cJ7_copyOfRangeByte_39247 23 = .ok (.iload_n 3, 1) := by decide +kernel
theorem dJ7_copyOfRangeByte_39247_24 : decode cJ7_copyOfRangeByte_39247 24 = .ok (.invokestatic 304, 3) := by decide +kernel
theorem dJ7_copyOfRangeByte_39247_27 : decode cJ7_copyOfRangeByte_39247 27 = .ok (.invokestatic 150, 3) := by decide +kernel
theorem dJ7_copyOfRangeByte_39247_30 : decode cJ7_copyOfRangeByte_39247 30 = .ok (.aload 4, 2) := by decide +kernel
theorem dJ7_copyOfRangeByte_39247_32 : decode cJ7_copyOfRangeByte_39247 32 = .ok (.areturn, 1) := by decide +kernel
theorem dJ15_checkIndex_7cf53_0 : decode cJ15_checkIndex_7cf53 0 = .ok (.iload_n 0, 1) := by decide +kernel
theorem dJ15_checkIndex_7cf53_1 : decode cJ15_checkIndex_7cf53 1 = .ok (.iload_n 1, 1) := by decide +kernel
theorem dJ15_checkIndex_7cf53_2 : decode cJ15_checkIndex_7cf53 2 = .ok (.aconst_null, 1) := by decide +kernel
theorem dJ15_checkIndex_7cf53_3 : decode cJ15_checkIndex_7cf53 3 = .ok (.invokestatic 105, 3) := by decide +kernel
theorem dJ15_checkIndex_7cf53_6 : decode cJ15_checkIndex_7cf53 6 = .ok (.ireturn, 1) := by decide +kernel
theorem dJ8_newLength_cabcc_0 : decode cJ8_newLength_cabcc 0 = .ok (.iload_n 0, 1) := by decide +kernel
theorem dJ8_newLength_cabcc_1 : decode cJ8_newLength_cabcc 1 = .ok (.iload_n 1, 1) := by decide +kernel
theorem dJ8_newLength_cabcc_2 : decode cJ8_newLength_cabcc 2 = .ok (.iload_n 2, 1) := by decide +kernel
theorem dJ8_newLength_cabcc_3 : decode cJ8_newLength_cabcc 3 = .ok (.invokestatic 194, 3) := by decide +kernel
theorem dJ8_newLength_cabcc_6 : decode cJ8_newLength_cabcc 6 = .ok (.iadd, 1) := by decide +kernel
theorem dJ8_newLength_cabcc_7 : decode cJ8_newLength_cabcc 7 = .ok (.istore_n 3, 1) := by decide +kernel
theorem dJ8_newLength_cabcc_8 : decode cJ8_newLength_cabcc 8 = .ok (.iconst 0, 1) := by decide +kernel
theorem dJ8_newLength_cabcc_9 : decode cJ8_newLength_cabcc 9 = .ok (.iload_n 3, 1) := by decide +kernel
theorem dJ8_newLength_cabcc_10 : decode cJ8_newLength_cabcc 10 = .ok (.if_icmp .ge 11, 3) := by decide +kernel
theorem dJ8_newLength_cabcc_13 : decode cJ8_newLength_cabcc 13 = .ok (.iload_n 3, 1) := by decide +kernel
theorem dJ8_newLength_cabcc_14 : decode cJ8_newLength_cabcc 14 = .ok (.ldc 200, 2) := by decide +kernel
theorem dJ8_newLength_cabcc_16 : decode cJ8_newLength_cabcc 16 = .ok (.if_icmp .gt 5, 3) := by decide +kernel
theorem dJ8_newLength_cabcc_19 : decode cJ8_newLength_cabcc 19 = .ok (.iload_n 3, 1) := by decide +kernel
theorem dJ8_newLength_cabcc_20 : decode cJ8_newLength_cabcc 20 = .ok (.ireturn, 1) := by decide +kernel
theorem dJ8_newLength_cabcc_21 : decode cJ8_newLength_cabcc 21 = .ok (.iload_n 0, 1) := by decide +kernel
theorem dJ8_newLength_cabcc_22 : decode cJ8_newLength_cabcc 22 = .ok (.iload_n 1, 1) := by decide +kernel
theorem dJ8_newLength_cabcc_23 : decode cJ8_newLength_cabcc 23 = .ok (.invokestatic 201, 3) := by decide +kernel
theorem dJ8_newLength_cabcc_26 : decode cJ8_newLength_cabcc 26 = .ok (.ireturn, 1) := by decide +kernel
theorem dJ8_hugeLength_7cf53_0 : decode cJ8_hugeLength_7cf53 0 = .ok (.iload_n 0, 1) := by decide +kernel
theorem dJ8_hugeLength_7cf53_1 : decode cJ8_hugeLength_7cf53 1 = .ok (.iload_n 1, 1) := by decide +kernel
theorem dJ8_hugeLength_7cf53_2 : decode cJ8_hugeLength_7cf53 2 = .ok (.iadd, 1) := by decide +kernel
theorem dJ8_hugeLength_7cf53_3 : decode cJ8_hugeLength_7cf53 3 = .ok (.istore_n 2, 1) := by decide +kernel
theorem dJ8_hugeLength_7cf53_4 : decode cJ8_hugeLength_7cf53 4 = .ok (.iload_n 2, 1) := by decide +kernel
theorem dJ8_hugeLength_7cf53_5 : decode cJ8_hugeLength_7cf53 5 = .ok (.ifCond .ge 44, 3) := by decide +kernel
theorem dJ8_hugeLength_7cf53_8 : decode cJ8_hugeLength_7cf53 8 = .ok (.new 204, 3) := by decide +kernel
theorem dJ8_hugeLength_7cf53_11 : decode cJ8_hugeLength_7cf53 11 = .ok (.dup, 1) := by decide +kernel
theorem dJ8_hugeLength_7cf53_12 : decode cJ8_hugeLength_7cf53 12 = .ok (.new 89, 3) := by decide +kernel
theorem dJ8_hugeLength_7cf53_15 : decode cJ8_hugeLength_7cf53 15 = .ok (.dup, 1) := by decide +kernel
theorem dJ8_hugeLength_7cf53_16 : decode cJ8_hugeLength_7cf53 16 = .ok (.invokespecial 91, 3) := by decide +kernel
theorem dJ8_hugeLength_7cf53_19 : decode cJ8_hugeLength_7cf53 19 = .ok (.ldc 206, 2) := by decide +kernel
theorem dJ8_hugeLength_7cf53_21 : decode cJ8_hugeLength_7cf53 21 = .ok (.invokevirtual 94, 3) := by decide +kernel
theorem dJ8_hugeLength_7cf53_24 : decode cJ8_hugeLength_7cf53 24 = .ok (.iload_n 0, 1) := by decide +kernel
theorem dJ8_hugeLength_7cf53_25 : decode cJ8_hugeLength_7cf53 25 = .ok (.invokevirtual 98, 3) := by decide +kernel
theorem dJ8_hugeLength_7cf53_28 : decode cJ8_hugeLength_7cf53 28 = .ok (.ldc 208, 2) := by decide +kernel
theorem dJ8_hugeLength_7cf53_30 : decode cJ8_hugeLength_7cf53 30 = .ok (.invokevirtual 94, 3) := by decide +kernel
theorem dJ8_hugeLength_7cf53_33 : decode cJ8_hugeLength_7cf53 33 = .ok (.iload_n 1, 1) := by decide +kernel
theorem dJ8_hugeLength_7cf53_34 : decode cJ8_hugeLength_7cf53 34 = .ok (.invokevirtual 98, 3) := by decide +kernel
theorem dJ8_hugeLength_7cf53_37 : decode cJ8_hugeLength_7cf53 37 = .ok (.ldc 210, 2) := by decide +kernel
theorem dJ8_hugeLength_7cf53_39 : decode cJ8_hugeLength_7cf53 39 = .ok (.invokevirtual 94, 3) := by decide +kernel
theorem dJ8_hugeLength_7cf53_42 : decode cJ8_hugeLength_7cf53 42 = .ok (.invokevirtual 101, 3) := by decide +kernel
theorem dJ8_hugeLength_7cf53_45 : decode cJ8_hugeLength_7cf53 45 = .ok (.invokespecial 212, 3) := by decide +kernel
theorem dJ8_hugeLength_7cf53_48 : decode cJ8_hugeLength_7cf53 48 = .ok (.athrow, 1) := by decide +kernel
theorem dJ8_hugeLength_7cf53_49 : decode cJ8_hugeLength_7cf53 49 = .ok (.iload_n 2, 1) := by decide +kernel
theorem dJ8_hugeLength_7cf53_50 : decode cJ8_hugeLength_7cf53 50 = .ok (.ldc 200, 2) := by decide +kernel
theorem dJ8_hugeLength_7cf53_52 : decode cJ8_hugeLength_7cf53 52 = .ok (.if_icmp .gt 6, 3) := by decide +kernel
theorem dJ8_hugeLength_7cf53_55 : decode cJ8_hugeLength_7cf53 55 = .ok (.ldc 200, 2) := by decide +kernel
theorem dJ8_hugeLength_7cf53_57 : decode cJ8_hugeLength_7cf53 57 = .ok (.ireturn, 1) := by decide +kernel
theorem dJ8_hugeLength_7cf53_58 : decode cJ8_hugeLength_7cf53 58 = .ok (.iload_n 2, 1) := by decide +kernel
theorem dJ8_hugeLength_7cf53_59 : decode cJ8_hugeLength_7cf53 59 = .ok (.ireturn, 1) := by decide +kernel
theorem dJ3_checkIndex_8e157_0 : decode cJ3_checkIndex_8e157 0 = .ok (.iload_n 0, 1) := by decide +kernel
theorem dJ3_checkIndex_8e157_1 : decode cJ3_checkIndex_8e157 1 = .ok (.ifCond .lt 8, 3) := by decide +kernel
theorem dJ3_checkIndex_8e157_4 : decode cJ3_checkIndex_8e157 4 = .ok (.iload_n 0, 1) := by decide +kernel
theorem dJ3_checkIndex_8e157_5 : decode cJ3_checkIndex_8e157 5 = .ok (.iload_n 1, 1) := by decide +kernel
theorem dJ3_checkIndex_8e157_6 : decode cJ3_checkIndex_8e157 6 = .ok (.if_icmp .lt 10, 3) := by decide +kernel
theorem dJ3_checkIndex_8e157_9 : decode cJ3_checkIndex_8e157 9 = .ok (.aload_n 2, 1) := by decide +kernel
theorem dJ3_checkIndex_8e157_10 : decode cJ3_checkIndex_8e157 10 = .ok (.iload_n 0, 1) := by decide +kernel
theorem dJ3_checkIndex_8e157_11 : decode cJ3_checkIndex_8e157 11 = .ok (.iload_n 1, 1) := by decide +kernel
theorem dJ3_checkIndex_8e157_12 : decode cJ3_checkIndex_8e157 12 = .ok (.invokestatic 95, 3) := by decide +kernel
theorem dJ3_checkIndex_8e157_15 : decode cJ3_checkIndex_8e157 15 = .ok (.athrow, 1) := by decide +kernel
theorem dJ3_checkIndex_8e157_16 : decode cJ3_checkIndex_8e157 16 = .ok (.iload_n 0, 1) := by decide +kernel
theorem dJ3_checkIndex_8e157_17 : decode cJ3_checkIndex_8e157 17 = .ok (.ireturn, 1) := by decide +kernel
theorem dJ3_checkFromToIndex_8c36e_0 : decode cJ3_checkFromToIndex_8c36e 0 = .ok (.iload_n 0, 1) := by decide +kernel
theorem dJ3_checkFromToIndex_8c36e_1 : decode cJ3_checkFromToIndex_8c36e 1 = .ok (.ifCond .lt 13, 3) := by decide +kernel
theorem dJ3_checkFromToIndex_8c36e_4 : decode cJ3_checkFromToIndex_8c36e 4 = .ok (.iload_n 0, 1) := by decide +kernel
theorem dJ3_checkFromToIndex_8c36e_5 : decode cJ3_checkFromToIndex_8c36e 5 = .ok (.iload_n 1, 1) := by decide +kernel
theorem dJ3_checkFromToIndex_8c36e_6 : decode cJ3_checkFromToIndex_8c36e 6 = .ok (.if_icmp .gt 8, 3) := by decide +kernel
theorem dJ3_checkFromToIndex_8c36e_9 : decode cJ3_checkFromToIndex_8c36e 9 = .ok (.iload_n 1, 1) := by decide +kernel
theorem dJ3_checkFromToIndex_8c36e_10 : decode cJ3_checkFromToIndex_8c36e 10 = .ok (.iload_n 2, 1) := by decide +kernel
theorem dJ3_checkFromToIndex_8c36e_11 : decode cJ3_checkFromToIndex_8c36e 11 = .ok (.if_icmp .le 11, 3) := by decide +kernel
theorem dJ3_checkFromToIndex_8c36e_14 : decode cJ3_checkFromToIndex_8c36e 14 = .ok (.aload_n 3, 1) := by decide +kernel
theorem dJ3_checkFromToIndex_8c36e_15 : decode cJ3_checkFromToIndex_8c36e 15 = .ok (.iload_n 0, 1) := by decide +kernel
theorem dJ3_checkFromToIndex_8c36e_16 : decode cJ3_checkFromToIndex_8c36e 16 = .ok (.iload_n 1, 1) := by decide +kernel
theorem dJ3_checkFromToIndex_8c36e_17 : decode cJ3_checkFromToIndex_8c36e 17 = .ok (.iload_n 2, 1) := by decide +kernel
theorem dJ3_checkFromToIndex_8c36e_18 : decode cJ3_checkFromToIndex_8c36e 18 = .ok (.invokestatic 99, 3) := by decide +kernel
theorem dJ3_checkFromToIndex_8c36e_21 : decode cJ3_checkFromToIndex_8c36e 21 = .ok (.athrow, 1) := by decide +kernel
theorem dJ3_checkFromToIndex_8c36e_22 : decode cJ3_checkFromToIndex_8c36e 22 = .ok (.iload_n 0, 1) := by decide +kernel
theorem dJ3_checkFromToIndex_8c36e_23 : decode cJ3_checkFromToIndex_8c36e 23 = .ok (.ireturn, 1) := by decide +kernel
theorem dJ3_checkFromIndexSize_8c36e_0 : decode cJ3_checkFromIndexSize_8c36e 0 = .ok (.iload_n 2, 1) := by decide +kernel
theorem dJ3_checkFromIndexSize_8c36e_1 : decode cJ3_checkFromIndexSize_8c36e 1 = .ok (.iload_n 0, 1) := by decide +kernel
theorem dJ3_checkFromIndexSize_8c36e_2 : decode cJ3_checkFromIndexSize_8c36e 2 = .ok (.ior, 1) := by decide +kernel
theorem dJ3_checkFromIndexSize_8c36e_3 : decode cJ3_checkFromIndexSize_8c36e 3 = .ok (.iload_n 1, 1) := by decide +kernel
theorem dJ3_checkFromIndexSize_8c36e_4 : decode cJ3_checkFromIndexSize_8c36e 4 = .ok (.ior, 1) := by decide +kernel
theorem dJ3_checkFromIndexSize_8c36e_5 : decode cJ3_checkFromIndexSize_8c36e 5 = .ok (.ifCond .lt 10, 3) := by decide +kernel
theorem dJ3_checkFromIndexSize_8c36e_8 : decode cJ3_checkFromIndexSize_8c36e 8 = .ok (.iload_n 1, 1) := by decide +kernel
theorem dJ3_checkFromIndexSize_8c36e_9 : decode cJ3_checkFromIndexSize_8c36e 9 = .ok (.iload_n 2, 1) := by decide +kernel
theorem dJ3_checkFromIndexSize_8c36e_10 : decode cJ3_checkFromIndexSize_8c36e 10 = .ok (.iload_n 0, 1) := by decide +kernel
theorem dJ3_checkFromIndexSize_8c36e_11 : decode cJ3_checkFromIndexSize_8c36e 11 = .ok (.isub, 1) := by decide +kernel
theorem dJ3_checkFromIndexSize_8c36e_12 : decode cJ3_checkFromIndexSize_8c36e 12 = .ok (.if_icmp .le 11, 3) := by decide +kernel
theorem dJ3_checkFromIndexSize_8c36e_15 : decode cJ3_checkFromIndexSize_8c36e 15 = .ok (.aload_n 3, 1) := by decide +kernel
theorem dJ3_checkFromIndexSize_8c36e_16 : decode cJ3_checkFromIndexSize_8c36e 16 = .ok (.iload_n 0, 1) := by decide +kernel
theorem dJ3_checkFromIndexSize_8c36e_17 : decode cJ3_checkFromIndexSize_8c36e 17 = .ok (.iload_n 1, 1) := by decide +kernel
theorem dJ3_checkFromIndexSize_8c36e_18 : decode cJ3_checkFromIndexSize_8c36e 18 = .ok (.iload_n 2, 1) := by decide +kernel
theorem dJ3_checkFromIndexSize_8c36e_19 : decode cJ3_checkFromIndexSize_8c36e 19 = .ok (.invokestatic 103, 3) := by decide +kernel
theorem dJ3_checkFromIndexSize_8c36e_22 : decode cJ3_checkFromIndexSize_8c36e 22 = .ok (.athrow, 1) := by decide +kernel
theorem dJ3_checkFromIndexSize_8c36e_23 : decode cJ3_checkFromIndexSize_8c36e 23 = .ok (.iload_n 0, 1) := by decide +kernel
theorem dJ3_checkFromIndexSize_8c36e_24 : decode cJ3_checkFromIndexSize_8c36e 24 = .ok (.ireturn, 1) := by decide +kernel
theorem dL_cell_0 : decode cL_cell 0 = .ok (.iload_n 1, 1) := by decide +kernel
theorem dL_cell_1 : decode cL_cell 1 = .ok (.aload_n 0, 1) := by decide +kernel
theorem dL_cell_2 : decode cL_cell 2 = .ok (.arraylength, 1) := by decide +kernel
theorem dL_cell_3 : decode cL_cell 3 = .ok (.if_icmp .ge 9, 3) := by decide +kernel
theorem dL_cell_6 : decode cL_cell 6 = .ok (.aload_n 0, 1) := by decide +kernel
theorem dL_cell_7 : decode cL_cell 7 = .ok (.iload_n 1, 1) := by decide +kernel
theorem dL_cell_8 : decode cL_cell 8 = .ok (.iaload, 1) := by decide +kernel
theorem dL_cell_9 : decode cL_cell 9 = .ok (.goto 4, 3) := by decide +kernel
theorem dL_cell_12 : decode cL_cell 12 = .ok (.iconst 0, 1) := by decide +kernel
theorem dL_cell_13 : decode cL_cell 13 = .ok (.ireturn, 1) := by decide +kernel
theorem dL_bound_0 : decode cL_bound 0 = .ok (.iload_n 0, 1) := by decide +kernel
theorem dL_bound_1 : decode cL_bound 1 = .ok (.ldc 7, 2) := by decide +kernel
theorem dL_bound_3 : decode cL_bound 3 = .ok (.iand, 1) := by decide +kernel
theorem dL_bound_4 : decode cL_bound 4 = .ok (.iload_n 1, 1) := by decide +kernel
theorem dL_bound_5 : decode cL_bound 5 = .ok (.irem, 1) := by decide +kernel
theorem dL_bound_6 : decode cL_bound 6 = .ok (.ireturn, 1) := by decide +kernel
theorem dL_feeds_0 : decode cL_feeds 0 = .ok (.iconst 0, 1) := by decide +kernel
theorem dL_feeds_1 : decode cL_feeds 1 = .ok (.istore_n 2, 1) := by decide +kernel
theorem dL_feeds_2 : decode cL_feeds 2 = .ok (.iconst 0, 1) := by decide +kernel
theorem dL_feeds_3 : decode cL_feeds 3 = .ok (.istore_n 3, 1) := by decide +kernel
theorem dL_feeds_4 : decode cL_feeds 4 = .ok (.iload_n 3, 1) := by decide +kernel
theorem dL_feeds_5 : decode cL_feeds 5 = .ok (.aload_n 1, 1) := by decide +kernel
theorem dL_feeds_6 : decode cL_feeds 6 = .ok (.invokevirtual 8, 3) := by decide +kernel
theorem dL_feeds_9 : decode cL_feeds 9 = .ok (.if_icmp .ge 97, 3) := by decide +kernel
theorem dL_feeds_12 : decode cL_feeds 12 = .ok (.iconst 5, 1) := by decide +kernel
theorem dL_feeds_13 : decode cL_feeds 13 = .ok (.newarray .int, 2) := by decide +kernel
theorem dL_feeds_15 : decode cL_feeds 15 = .ok (.astore 4, 2) := by decide +kernel
theorem dL_feeds_17 : decode cL_feeds 17 = .ok (.iconst 0, 1) := by decide +kernel
theorem dL_feeds_18 : decode cL_feeds 18 = .ok (.istore 5, 2) := by decide +kernel
theorem dL_feeds_20 : decode cL_feeds 20 = .ok (.iload 5, 2) := by decide +kernel
theorem dL_feeds_22 : decode cL_feeds 22 = .ok (.bipush 20, 2) := by decide +kernel
theorem dL_feeds_24 : decode cL_feeds 24 = .ok (.if_icmp .ge 51, 3) := by decide +kernel
theorem dL_feeds_27 : decode cL_feeds 27 = .ok (.aload 4, 2) := by decide +kernel
theorem dL_feeds_29 : decode cL_feeds 29 = .ok (.iload 5, 2) := by decide +kernel
theorem dL_feeds_31 : decode cL_feeds 31 = .ok (.iconst 4, 1) := by decide +kernel
theorem dL_feeds_32 : decode cL_feeds 32 = .ok (.idiv, 1) := by decide +kernel
theorem dL_feeds_33 : decode cL_feeds 33 = .ok (.aload 4, 2) := by decide +kernel
theorem dL_feeds_35 : decode cL_feeds 35 = .ok (.iload 5, 2) := by decide +kernel
theorem dL_feeds_37 : decode cL_feeds 37 = .ok (.iconst 4, 1) := by decide +kernel
theorem dL_feeds_38 : decode cL_feeds 38 = .ok (.idiv, 1) := by decide +kernel
theorem dL_feeds_39 : decode cL_feeds 39 = .ok (.iaload, 1) := by decide +kernel
theorem dL_feeds_40 : decode cL_feeds 40 = .ok (.bipush 8, 2) := by decide +kernel
theorem dL_feeds_42 : decode cL_feeds 42 = .ok (.ishl, 1) := by decide +kernel
theorem dL_feeds_43 : decode cL_feeds 43 = .ok (.iload_n 3, 1) := by decide +kernel
theorem dL_feeds_44 : decode cL_feeds 44 = .ok (.iload 5, 2) := by decide +kernel
theorem dL_feeds_46 : decode cL_feeds 46 = .ok (.iadd, 1) := by decide +kernel
theorem dL_feeds_47 : decode cL_feeds 47 = .ok (.aload_n 1, 1) := by decide +kernel
theorem dL_feeds_48 : decode cL_feeds 48 = .ok (.invokevirtual 8, 3) := by decide +kernel
theorem dL_feeds_51 : decode cL_feeds 51 = .ok (.if_icmp .ge 14, 3) := by decide +kernel
theorem dL_feeds_54 : decode cL_feeds 54 = .ok (.aload_n 1, 1) := by decide +kernel
theorem dL_feeds_55 : decode cL_feeds 55 = .ok (.iload_n 3, 1) := by decide +kernel
theorem dL_feeds_56 : decode cL_feeds 56 = .ok (.iload 5, 2) := by decide +kernel
theorem dL_feeds_58 : decode cL_feeds 58 = .ok (.iadd, 1) := by decide +kernel
theorem dL_feeds_59 : decode cL_feeds 59 = .ok (.invokevirtual 14, 3) := by decide +kernel
theorem dL_feeds_62 : decode cL_feeds 62 = .ok (.goto 5, 3) := by decide +kernel
theorem dL_feeds_65 : decode cL_feeds 65 = .ok (.bipush 32, 2) := by decide +kernel
theorem dL_feeds_67 : decode cL_feeds 67 = .ok (.ior, 1) := by decide +kernel
theorem dL_feeds_68 : decode cL_feeds 68 = .ok (.iastore, 1) := by decide +kernel
theorem dL_feeds_69 : decode cL_feeds 69 = .ok (.iinc 5 1, 3) := by decide +kernel
theorem dL_feeds_72 : decode cL_feeds 72 = .ok (.goto (-52), 3) := by decide +kernel
theorem dL_feeds_75 : decode cL_feeds 75 = .ok (.aload_n 0, 1) := by decide +kernel
theorem dL_feeds_76 : decode cL_feeds 76 = .ok (.aload 4, 2) := by decide +kernel
theorem dL_feeds_78 : decode cL_feeds 78 = .ok (.iconst 0, 1) := by decide +kernel
theorem dL_feeds_79 : decode cL_feeds 79 = .ok (.iaload, 1) := by decide +kernel
theorem dL_feeds_80 : decode cL_feeds 80 = .ok (.aload 4, 2) := by decide +kernel
theorem dL_feeds_82 : decode cL_feeds 82 = .ok (.iconst 1, 1) := by decide +kernel
theorem dL_feeds_83 : decode cL_feeds 83 = .ok (.iaload, 1) := by decide +kernel
theorem dL_feeds_84 : decode cL_feeds 84 = .ok (.aload 4, 2) := by decide +kernel
theorem dL_feeds_86 : decode cL_feeds 86 = .ok (.iconst 2, 1) := by decide +kernel
theorem dL_feeds_87 : decode cL_feeds 87 = .ok (.iaload, 1) := by decide +kernel
theorem dL_feeds_88 : decode cL_feeds 88 = .ok (.aload 4, 2) := by decide +kernel
theorem dL_feeds_90 : decode cL_feeds 90 = .ok (.iconst 3, 1) := by decide +kernel
theorem dL_feeds_91 : decode cL_feeds 91 = .ok (.iaload, 1) := by decide +kernel
theorem dL_feeds_92 : decode cL_feeds 92 = .ok (.aload 4, 2) := by decide +kernel
theorem dL_feeds_94 : decode cL_feeds 94 = .ok (.iconst 4, 1) := by decide +kernel
theorem dL_feeds_95 : decode cL_feeds 95 = .ok (.iaload, 1) := by decide +kernel
theorem dL_feeds_96 : decode cL_feeds 96 = .ok (.invokevirtual 18, 3) := by decide +kernel
theorem dL_feeds_99 : decode cL_feeds 99 = .ok (.istore_n 2, 1) := by decide +kernel
theorem dL_feeds_100 : decode cL_feeds 100 = .ok (.iinc 3 20, 3) := by decide +kernel
theorem dL_feeds_103 : decode cL_feeds 103 = .ok (.goto (-99), 3) := by decide +kernel
theorem dL_feeds_106 : decode cL_feeds 106 = .ok (.iload_n 2, 1) := by decide +kernel
theorem dL_feeds_107 : decode cL_feeds 107 = .ok (.ireturn, 1) := by decide +kernel
theorem dL_read_0 : decode cL_read 0 = .ok (.aload_n 0, 1) := by decide +kernel
theorem dL_read_1 : decode cL_read 1 = .ok (.aload_n 1, 1) := by decide +kernel
theorem dL_read_2 : decode cL_read 2 = .ok (.invokestatic 24, 3) := by decide +kernel
theorem dL_read_5 : decode cL_read 5 = .ok (.ifCond .ge 8, 3) := by decide +kernel
theorem dL_read_8 : decode cL_read 8 = .ok (.bipush (-99), 2) := by decide +kernel
theorem dL_read_10 : decode cL_read 10 = .ok (.goto 11, 3) := by decide +kernel
theorem dL_read_13 : decode cL_read 13 = .ok (.aload_n 0, 1) := by decide +kernel
theorem dL_read_14 : decode cL_read 14 = .ok (.aload_n 1, 1) := by decide +kernel
theorem dL_read_15 : decode cL_read 15 = .ok (.invokevirtual 8, 3) := by decide +kernel
theorem dL_read_18 : decode cL_read 18 = .ok (.invokevirtual 30, 3) := by decide +kernel
theorem dL_read_21 : decode cL_read 21 = .ok (.ireturn, 1) := by decide +kernel
theorem dL_shapeOf_0 : decode cL_shapeOf 0 = .ok (.iload_n 0, 1) := by decide +kernel
theorem dL_shapeOf_1 : decode cL_shapeOf 1 = .ok (.ifCond .ne 8, 3) := by decide +kernel
theorem dL_shapeOf_4 : decode cL_shapeOf 4 = .ok (.ldc 34, 2) := by decide +kernel
theorem dL_shapeOf_6 : decode cL_shapeOf 6 = .ok (.goto 25, 3) := by decide +kernel
theorem dL_shapeOf_9 : decode cL_shapeOf 9 = .ok (.iload_n 0, 1) := by decide +kernel
theorem dL_shapeOf_10 : decode cL_shapeOf 10 = .ok (.iconst 1, 1) := by decide +kernel
theorem dL_shapeOf_11 : decode cL_shapeOf 11 = .ok (.if_icmp .ne 8, 3) := by decide +kernel
theorem dL_shapeOf_14 : decode cL_shapeOf 14 = .ok (.ldc 36, 2) := by decide +kernel
theorem dL_shapeOf_16 : decode cL_shapeOf 16 = .ok (.goto 15, 3) := by decide +kernel
theorem dL_shapeOf_19 : decode cL_shapeOf 19 = .ok (.iload_n 0, 1) := by decide +kernel
theorem dL_shapeOf_20 : decode cL_shapeOf 20 = .ok (.iconst 2, 1) := by decide +kernel
theorem dL_shapeOf_21 : decode cL_shapeOf 21 = .ok (.if_icmp .ne 8, 3) := by decide +kernel
theorem dL_shapeOf_24 : decode cL_shapeOf 24 = .ok (.ldc 38, 2) := by decide +kernel
theorem dL_shapeOf_26 : decode cL_shapeOf 26 = .ok (.goto 5, 3) := by decide +kernel
theorem dL_shapeOf_29 : decode cL_shapeOf 29 = .ok (.ldc 40, 2) := by decide +kernel
theorem dL_shapeOf_31 : decode cL_shapeOf 31 = .ok (.areturn, 1) := by decide +kernel
theorem dL_toneOf_0 : decode cL_toneOf 0 = .ok (.iload_n 0, 1) := by decide +kernel
theorem dL_toneOf_1 : decode cL_toneOf 1 = .ok (.iload_n 1, 1) := by decide +kernel
theorem dL_toneOf_2 : decode cL_toneOf 2 = .ok (.iconst 3, 1) := by decide +kernel
theorem dL_toneOf_3 : decode cL_toneOf 3 = .ok (.iload_n 2, 1) := by decide +kernel
theorem dL_toneOf_4 : decode cL_toneOf 4 = .ok (.imul, 1) := by decide +kernel
theorem dL_toneOf_5 : decode cL_toneOf 5 = .ok (.iadd, 1) := by decide +kernel
theorem dL_toneOf_6 : decode cL_toneOf 6 = .ok (.bipush 17, 2) := by decide +kernel
theorem dL_toneOf_8 : decode cL_toneOf 8 = .ok (.irem, 1) := by decide +kernel
theorem dL_toneOf_9 : decode cL_toneOf 9 = .ok (.ishr, 1) := by decide +kernel
theorem dL_toneOf_10 : decode cL_toneOf 10 = .ok (.bipush 7, 2) := by decide +kernel
theorem dL_toneOf_12 : decode cL_toneOf 12 = .ok (.iload_n 1, 1) := by decide +kernel
theorem dL_toneOf_13 : decode cL_toneOf 13 = .ok (.imul, 1) := by decide +kernel
theorem dL_toneOf_14 : decode cL_toneOf 14 = .ok (.iadd, 1) := by decide +kernel
theorem dL_toneOf_15 : decode cL_toneOf 15 = .ok (.iconst 5, 1) := by decide +kernel
theorem dL_toneOf_16 : decode cL_toneOf 16 = .ok (.iload_n 2, 1) := by decide +kernel
theorem dL_toneOf_17 : decode cL_toneOf 17 = .ok (.imul, 1) := by decide +kernel
theorem dL_toneOf_18 : decode cL_toneOf 18 = .ok (.iadd, 1) := by decide +kernel
theorem dL_toneOf_19 : decode cL_toneOf 19 = .ok (.bipush 10, 2) := by decide +kernel
theorem dL_toneOf_21 : decode cL_toneOf 21 = .ok (.invokestatic 42, 3) := by decide +kernel
theorem dL_toneOf_24 : decode cL_toneOf 24 = .ok (.ireturn, 1) := by decide +kernel
theorem dL_isPrinted_0 : decode cL_isPrinted 0 = .ok (.iconst 0, 1) := by decide +kernel
theorem dL_isPrinted_1 : decode cL_isPrinted 1 = .ok (.istore 4, 2) := by decide +kernel
theorem dL_isPrinted_3 : decode cL_isPrinted 3 = .ok (.iconst 0, 1) := by decide +kernel
theorem dL_isPrinted_4 : decode cL_isPrinted 4 = .ok (.istore 5, 2) := by decide +kernel
theorem dL_isPrinted_6 : decode cL_isPrinted 6 = .ok (.iload 5, 2) := by decide +kernel
theorem dL_isPrinted_8 : decode cL_isPrinted 8 = .ok (.aload_n 2, 1) := by decide +kernel
theorem dL_isPrinted_9 : decode cL_isPrinted 9 = .ok (.arraylength, 1) := by decide +kernel
theorem dL_isPrinted_10 : decode cL_isPrinted 10 = .ok (.if_icmp .ge 283, 3) := by decide +kernel
theorem dL_isPrinted_13 : decode cL_isPrinted 13 = .ok (.iconst 0, 1) := by decide +kernel
theorem dL_isPrinted_14 : decode cL_isPrinted 14 = .ok (.istore 6, 2) := by decide +kernel
theorem dL_isPrinted_16 : decode cL_isPrinted 16 = .ok (.iload 6, 2) := by decide +kernel
theorem dL_isPrinted_18 : decode cL_isPrinted 18 = .ok (.aload_n 2, 1) := by decide +kernel
theorem dL_isPrinted_19 : decode cL_isPrinted 19 = .ok (.iload 5, 2) := by decide +kernel
theorem dL_isPrinted_21 : decode cL_isPrinted 21 = .ok (.aaload, 1) := by decide +kernel
theorem dL_isPrinted_22 : decode cL_isPrinted 22 = .ok (.arraylength, 1) := by decide +kernel
theorem dL_isPrinted_23 : decode cL_isPrinted 23 = .ok (.if_icmp .ge 264, 3) := by decide +kernel
theorem dL_isPrinted_26 : decode cL_isPrinted 26 = .ok (.iconst 0, 1) := by decide +kernel
theorem dL_isPrinted_27 : decode cL_isPrinted 27 = .ok (.istore 7, 2) := by decide +kernel
theorem dL_isPrinted_29 : decode cL_isPrinted 29 = .ok (.iconst 0, 1) := by decide +kernel
theorem dL_isPrinted_30 : decode cL_isPrinted 30 = .ok (.istore 8, 2) := by decide +kernel
theorem dL_isPrinted_32 : decode cL_isPrinted 32 = .ok (.iload 8, 2) := by decide +kernel
theorem dL_isPrinted_34 : decode cL_isPrinted 34 = .ok (.aload_n 1, 1) := by decide +kernel
theorem dL_isPrinted_35 : decode cL_isPrinted 35 = .ok (.invokevirtual 46, 3) := by decide +kernel
theorem dL_isPrinted_38 : decode cL_isPrinted 38 = .ok (.if_icmp .ge 200, 3) := by decide +kernel
theorem dL_isPrinted_41 : decode cL_isPrinted 41 = .ok (.aload_n 1, 1) := by decide +kernel
theorem dL_isPrinted_42 : decode cL_isPrinted 42 = .ok (.iload 8, 2) := by decide +kernel
theorem dL_isPrinted_44 : decode cL_isPrinted 44 = .ok (.invokevirtual 51, 3) := by decide +kernel
theorem dL_isPrinted_47 : decode cL_isPrinted 47 = .ok (.checkcast 55, 3) := by decide +kernel
theorem dL_isPrinted_50 : decode cL_isPrinted 50 = .ok (.astore 9, 2) := by decide +kernel
theorem dL_isPrinted_52 : decode cL_isPrinted 52 = .ok (.aload 9, 2) := by decide +kernel
theorem dL_isPrinted_54 : decode cL_isPrinted 54 = .ok (.iload 6, 2) := by decide +kernel
theorem dL_isPrinted_56 : decode cL_isPrinted 56 = .ok (.iload 5, 2) := by decide +kernel
theorem dL_isPrinted_58 : decode cL_isPrinted 58 = .ok (.invokevirtual 57, 3) := by decide +kernel
theorem dL_isPrinted_61 : decode cL_isPrinted 61 = .ok (.istore 10, 2) := by decide +kernel
theorem dL_isPrinted_63 : decode cL_isPrinted 63 = .ok (.iload 10, 2) := by decide +kernel
theorem dL_isPrinted_65 : decode cL_isPrinted 65 = .ok (.bipush 100, 2) := by decide +kernel
theorem dL_isPrinted_67 : decode cL_isPrinted 67 = .ok (.imul, 1) := by decide +kernel
theorem dL_isPrinted_68 : decode cL_isPrinted 68 = .ok (.aload_n 2, 1) := by decide +kernel
theorem dL_isPrinted_69 : decode cL_isPrinted 69 = .ok (.iload 5, 2) := by decide +kernel
theorem dL_isPrinted_71 : decode cL_isPrinted 71 = .ok (.aaload, 1) := by decide +kernel
theorem dL_isPrinted_72 : decode cL_isPrinted 72 = .ok (.iload 6, 2) := by decide +kernel
theorem dL_isPrinted_74 : decode cL_isPrinted 74 = .ok (.iaload, 1) := by decide +kernel
theorem dL_isPrinted_75 : decode cL_isPrinted 75 = .ok (.aload 9, 2) := by decide +kernel
theorem dL_isPrinted_77 : decode cL_isPrinted 77 = .ok (.getfield 60, 3) := by decide +kernel
theorem dL_isPrinted_80 : decode cL_isPrinted 80 = .ok (.imul, 1) := by decide +kernel
theorem dL_isPrinted_81 : decode cL_isPrinted 81 = .ok (.aload 9, 2) := by decide +kernel
theorem dL_isPrinted_83 : decode cL_isPrinted 83 = .ok (.getfield 60, 3) := by decide +kernel
theorem dL_isPrinted_86 : decode cL_isPrinted 86 = .ok (.imul, 1) := by decide +kernel
theorem dL_isPrinted_87 : decode cL_isPrinted 87 = .ok (.if_icmp .ge 7, 3) := by decide +kernel
theorem dL_isPrinted_90 : decode cL_isPrinted 90 = .ok (.iconst 1, 1) := by decide +kernel
theorem dL_isPrinted_91 : decode cL_isPrinted 91 = .ok (.goto 4, 3) := by decide +kernel
theorem dL_isPrinted_94 : decode cL_isPrinted 94 = .ok (.iconst 0, 1) := by decide +kernel
theorem dL_isPrinted_95 : decode cL_isPrinted 95 = .ok (.istore 11, 2) := by decide +kernel
theorem dL_isPrinted_97 : decode cL_isPrinted 97 = .ok (.iload 11, 2) := by decide +kernel
theorem dL_isPrinted_99 : decode cL_isPrinted 99 = .ok (.ifCond .eq 16, 3) := by decide +kernel
theorem dL_isPrinted_102 : decode cL_isPrinted 102 = .ok (.iload 7, 2) := by decide +kernel
theorem dL_isPrinted_104 : decode cL_isPrinted 104 = .ok (.invokestatic 64, 3) := by decide +kernel
theorem dL_isPrinted_107 : decode cL_isPrinted 107 = .ok (.iload_n 3, 1) := by decide +kernel
theorem dL_isPrinted_108 : decode cL_isPrinted 108 = .ok (.if_icmp .ge 7, 3) := by decide +kernel
theorem dL_isPrinted_111 : decode cL_isPrinted 111 = .ok (.iconst 1, 1) := by decide +kernel
theorem dL_isPrinted_112 : decode cL_isPrinted 112 = .ok (.goto 4, 3) := by decide +kernel
theorem dL_isPrinted_115 : decode cL_isPrinted 115 = .ok (.iconst 0, 1) := by decide +kernel
theorem dL_isPrinted_116 : decode cL_isPrinted 116 = .ok (.istore 12, 2) := by decide +kernel
theorem dL_isPrinted_118 : decode cL_isPrinted 118 = .ok (.iload 7, 2) := by decide +kernel
theorem dL_isPrinted_120 : decode cL_isPrinted 120 = .ok (.iload 12, 2) := by decide +kernel
theorem dL_isPrinted_122 : decode cL_isPrinted 122 = .ok (.ifCond .eq 10, 3) := by decide +kernel
theorem dL_isPrinted_125 : decode cL_isPrinted 125 = .ok (.iconst 1, 1) := by decide +kernel
theorem dL_isPrinted_126 : decode cL_isPrinted 126 = .ok (.iload 8, 2) := by decide +kernel
theorem dL_isPrinted_128 : decode cL_isPrinted 128 = .ok (.ishl, 1) := by decide +kernel
theorem dL_isPrinted_129 : decode cL_isPrinted 129 = .ok (.goto 4, 3) := by decide +kernel
theorem dL_isPrinted_132 : decode cL_isPrinted 132 = .ok (.iconst 0, 1) := by decide +kernel
theorem dL_isPrinted_133 : decode cL_isPrinted 133 = .ok (.ior, 1) := by decide +kernel
theorem dL_isPrinted_134 : decode cL_isPrinted 134 = .ok (.istore 7, 2) := by decide +kernel
theorem dL_isPrinted_136 : decode cL_isPrinted 136 = .ok (.aload_n 0, 1) := by decide +kernel
theorem dL_isPrinted_137 : decode cL_isPrinted 137 = .ok (.iload 8, 2) := by decide +kernel
theorem dL_isPrinted_139 : decode cL_isPrinted 139 = .ok (.iload 6, 2) := by decide +kernel
theorem dL_isPrinted_141 : decode cL_isPrinted 141 = .ok (.iload 5, 2) := by decide +kernel
theorem dL_isPrinted_143 : decode cL_isPrinted 143 = .ok (.iconst 0, 1) := by decide +kernel
theorem dL_isPrinted_144 : decode cL_isPrinted 144 = .ok (.invokevirtual 69, 3) := by decide +kernel
theorem dL_isPrinted_147 : decode cL_isPrinted 147 = .ok (.iload 10, 2) := by decide +kernel
theorem dL_isPrinted_149 : decode cL_isPrinted 149 = .ok (.if_icmp .ne 81, 3) := by decide +kernel
theorem dL_isPrinted_152 : decode cL_isPrinted 152 = .ok (.aload_n 0, 1) := by decide +kernel
theorem dL_isPrinted_153 : decode cL_isPrinted 153 = .ok (.iload 8, 2) := by decide +kernel
theorem dL_isPrinted_155 : decode cL_isPrinted 155 = .ok (.iload 6, 2) := by decide +kernel
theorem dL_isPrinted_157 : decode cL_isPrinted 157 = .ok (.iload 5, 2) := by decide +kernel
theorem dL_isPrinted_159 : decode cL_isPrinted 159 = .ok (.iconst 1, 1) := by decide +kernel
theorem dL_isPrinted_160 : decode cL_isPrinted 160 = .ok (.invokevirtual 69, 3) := by decide +kernel
theorem dL_isPrinted_163 : decode cL_isPrinted 163 = .ok (.aload_n 2, 1) := by decide +kernel
theorem dL_isPrinted_164 : decode cL_isPrinted 164 = .ok (.iload 5, 2) := by decide +kernel
theorem dL_isPrinted_166 : decode cL_isPrinted 166 = .ok (.aaload, 1) := by decide +kernel
theorem dL_isPrinted_167 : decode cL_isPrinted 167 = .ok (.iload 6, 2) := by decide +kernel
theorem dL_isPrinted_169 : decode cL_isPrinted 169 = .ok (.iaload, 1) := by decide +kernel
theorem dL_isPrinted_170 : decode cL_isPrinted 170 = .ok (.if_icmp .ne 60, 3) := by decide +kernel
theorem dL_isPrinted_173 : decode cL_isPrinted 173 = .ok (.aload_n 0, 1) := by decide +kernel
theorem dL_isPrinted_174 : decode cL_isPrinted 174 = .ok (.iload 8, 2) := by decide +kernel
theorem dL_isPrinted_176 : decode cL_isPrinted 176 = .ok (.iload 6, 2) := by decide +kernel
theorem dL_isPrinted_178 : decode cL_isPrinted 178 = .ok (.iload 5, 2) := by decide +kernel
theorem dL_isPrinted_180 : decode cL_isPrinted 180 = .ok (.iconst 2, 1) := by decide +kernel
theorem dL_isPrinted_181 : decode cL_isPrinted 181 = .ok (.invokevirtual 69, 3) := by decide +kernel
theorem dL_isPrinted_184 : decode cL_isPrinted 184 = .ok (.iconst 1, 1) := by decide +kernel
theorem dL_isPrinted_185 : decode cL_isPrinted 185 = .ok (.if_icmp .ne 7, 3) := by decide +kernel
theorem dL_isPrinted_188 : decode cL_isPrinted 188 = .ok (.iconst 1, 1) := by decide +kernel
theorem dL_isPrinted_189 : decode cL_isPrinted 189 = .ok (.goto 4, 3) := by decide +kernel
theorem dL_isPrinted_192 : decode cL_isPrinted 192 = .ok (.iconst 0, 1) := by decide +kernel
theorem dL_isPrinted_193 : decode cL_isPrinted 193 = .ok (.iload 12, 2) := by decide +kernel
theorem dL_isPrinted_195 : decode cL_isPrinted 195 = .ok (.if_icmp .ne 35, 3) := by decide +kernel
theorem dL_isPrinted_198 : decode cL_isPrinted 198 = .ok (.aload_n 0, 1) := by decide +kernel
theorem dL_isPrinted_199 : decode cL_isPrinted 199 = .ok (.iload 8, 2) := by decide +kernel
theorem dL_isPrinted_201 : decode cL_isPrinted 201 = .ok (.iload 6, 2) := by decide +kernel
theorem dL_isPrinted_203 : decode cL_isPrinted 203 = .ok (.iload 5, 2) := by decide +kernel
theorem dL_isPrinted_205 : decode cL_isPrinted 205 = .ok (.invokevirtual 73, 3) := by decide +kernel
theorem dL_isPrinted_208 : decode cL_isPrinted 208 = .ok (.iload 12, 2) := by decide +kernel
theorem dL_isPrinted_210 : decode cL_isPrinted 210 = .ok (.ifCond .eq 7, 3) := by decide +kernel
theorem dL_isPrinted_213 : decode cL_isPrinted 213 = .ok (.iconst 0, 1) := by decide +kernel
theorem dL_isPrinted_214 : decode cL_isPrinted 214 = .ok (.goto 13, 3) := by decide +kernel
theorem dL_isPrinted_217 : decode cL_isPrinted 217 = .ok (.iload 11, 2) := by decide +kernel
theorem dL_isPrinted_219 : decode cL_isPrinted 219 = .ok (.ifCond .eq 7, 3) := by decide +kernel
theorem dL_isPrinted_222 : decode cL_isPrinted 222 = .ok (.iconst 3, 1) := by decide +kernel
theorem dL_isPrinted_223 : decode cL_isPrinted 223 = .ok (.goto 4, 3) := by decide +kernel
theorem dL_isPrinted_226 : decode cL_isPrinted 226 = .ok (.iconst 2, 1) := by decide +kernel
theorem dL_isPrinted_227 : decode cL_isPrinted 227 = .ok (.if_icmp .eq 5, 3) := by decide +kernel
theorem dL_isPrinted_230 : decode cL_isPrinted 230 = .ok (.iconst 0, 1) := by decide +kernel
theorem dL_isPrinted_231 : decode cL_isPrinted 231 = .ok (.ireturn, 1) := by decide +kernel
theorem dL_isPrinted_232 : decode cL_isPrinted 232 = .ok (.iinc 8 1, 3) := by decide +kernel
theorem dL_isPrinted_235 : decode cL_isPrinted 235 = .ok (.goto (-203), 3) := by decide +kernel
theorem dL_isPrinted_238 : decode cL_isPrinted 238 = .ok (.aload_n 0, 1) := by decide +kernel
theorem dL_isPrinted_239 : decode cL_isPrinted 239 = .ok (.iload 6, 2) := by decide +kernel
theorem dL_isPrinted_241 : decode cL_isPrinted 241 = .ok (.iload 5, 2) := by decide +kernel
theorem dL_isPrinted_243 : decode cL_isPrinted 243 = .ok (.invokevirtual 77, 3) := by decide +kernel
theorem dL_isPrinted_246 : decode cL_isPrinted 246 = .ok (.iload 7, 2) := by decide +kernel
theorem dL_isPrinted_248 : decode cL_isPrinted 248 = .ok (.if_icmp .ne 21, 3) := by decide +kernel
theorem dL_isPrinted_251 : decode cL_isPrinted 251 = .ok (.aload_n 0, 1) := by decide +kernel
theorem dL_isPrinted_252 : decode cL_isPrinted 252 = .ok (.iload 6, 2) := by decide +kernel
theorem dL_isPrinted_254 : decode cL_isPrinted 254 = .ok (.iload 5, 2) := by decide +kernel
theorem dL_isPrinted_256 : decode cL_isPrinted 256 = .ok (.invokevirtual 80, 3) := by decide +kernel
theorem dL_isPrinted_259 : decode cL_isPrinted 259 = .ok (.aload_n 2, 1) := by decide +kernel
theorem dL_isPrinted_260 : decode cL_isPrinted 260 = .ok (.iload 5, 2) := by decide +kernel
theorem dL_isPrinted_262 : decode cL_isPrinted 262 = .ok (.aaload, 1) := by decide +kernel
theorem dL_isPrinted_263 : decode cL_isPrinted 263 = .ok (.iload 6, 2) := by decide +kernel
theorem dL_isPrinted_265 : decode cL_isPrinted 265 = .ok (.iaload, 1) := by decide +kernel
theorem dL_isPrinted_266 : decode cL_isPrinted 266 = .ok (.if_icmp .eq 5, 3) := by decide +kernel
theorem dL_isPrinted_269 : decode cL_isPrinted 269 = .ok (.iconst 0, 1) := by decide +kernel
theorem dL_isPrinted_270 : decode cL_isPrinted 270 = .ok (.ireturn, 1) := by decide +kernel
theorem dL_isPrinted_271 : decode cL_isPrinted 271 = .ok (.iload 4, 2) := by decide +kernel
theorem dL_isPrinted_273 : decode cL_isPrinted 273 = .ok (.iload 7, 2) := by decide +kernel
theorem dL_isPrinted_275 : decode cL_isPrinted 275 = .ok (.invokestatic 64, 3) := by decide +kernel
theorem dL_isPrinted_278 : decode cL_isPrinted 278 = .ok (.iadd, 1) := by decide +kernel
theorem dL_isPrinted_279 : decode cL_isPrinted 279 = .ok (.istore 4, 2) := by decide +kernel
theorem dL_isPrinted_281 : decode cL_isPrinted 281 = .ok (.iinc 6 1, 3) := by decide +kernel
theorem dL_isPrinted_284 : decode cL_isPrinted 284 = .ok (.goto (-268), 3) := by decide +kernel
theorem dL_isPrinted_287 : decode cL_isPrinted 287 = .ok (.iinc 5 1, 3) := by decide +kernel
theorem dL_isPrinted_290 : decode cL_isPrinted 290 = .ok (.goto (-284), 3) := by decide +kernel
theorem dL_isPrinted_293 : decode cL_isPrinted 293 = .ok (.aload_n 0, 1) := by decide +kernel
theorem dL_isPrinted_294 : decode cL_isPrinted 294 = .ok (.iconst 4, 1) := by decide +kernel
theorem dL_isPrinted_295 : decode cL_isPrinted 295 = .ok (.invokevirtual 83, 3) := by decide +kernel
theorem dL_isPrinted_298 : decode cL_isPrinted 298 = .ok (.iload 4, 2) := by decide +kernel
theorem dL_isPrinted_300 : decode cL_isPrinted 300 = .ok (.if_icmp .ne 7, 3) := by decide +kernel
theorem dL_isPrinted_303 : decode cL_isPrinted 303 = .ok (.iconst 1, 1) := by decide +kernel
theorem dL_isPrinted_304 : decode cL_isPrinted 304 = .ok (.goto 4, 3) := by decide +kernel
theorem dL_isPrinted_307 : decode cL_isPrinted 307 = .ok (.iconst 0, 1) := by decide +kernel
theorem dL_isPrinted_308 : decode cL_isPrinted 308 = .ok (.ireturn, 1) := by decide +kernel
theorem dL_law_0 : decode cL_law 0 = .ok (.iconst 1, 1) := by decide +kernel
theorem dL_law_1 : decode cL_law 1 = .ok (.aload_n 0, 1) := by decide +kernel
theorem dL_law_2 : decode cL_law 2 = .ok (.iconst 0, 1) := by decide +kernel
theorem dL_law_3 : decode cL_law 3 = .ok (.invokestatic 86, 3) := by decide +kernel
theorem dL_law_6 : decode cL_law 6 = .ok (.bipush 8, 2) := by decide +kernel
theorem dL_law_8 : decode cL_law 8 = .ok (.invokestatic 42, 3) := by decide +kernel
theorem dL_law_11 : decode cL_law 11 = .ok (.iadd, 1) := by decide +kernel
theorem dL_law_12 : decode cL_law 12 = .ok (.istore_n 1, 1) := by decide +kernel
theorem dL_law_13 : decode cL_law 13 = .ok (.iconst 1, 1) := by decide +kernel
theorem dL_law_14 : decode cL_law 14 = .ok (.aload_n 0, 1) := by decide +kernel
theorem dL_law_15 : decode cL_law 15 = .ok (.iconst 0, 1) := by decide +kernel
theorem dL_law_16 : decode cL_law 16 = .ok (.invokestatic 86, 3) := by decide +kernel
theorem dL_law_19 : decode cL_law 19 = .ok (.iconst 4, 1) := by decide +kernel
theorem dL_law_20 : decode cL_law 20 = .ok (.ishr, 1) := by decide +kernel
theorem dL_law_21 : decode cL_law 21 = .ok (.bipush 6, 2) := by decide +kernel
theorem dL_law_23 : decode cL_law 23 = .ok (.invokestatic 42, 3) := by decide +kernel
theorem dL_law_26 : decode cL_law 26 = .ok (.iadd, 1) := by decide +kernel
theorem dL_law_27 : decode cL_law 27 = .ok (.istore_n 2, 1) := by decide +kernel
theorem dL_law_28 : decode cL_law 28 = .ok (.iconst 1, 1) := by decide +kernel
theorem dL_law_29 : decode cL_law 29 = .ok (.aload_n 0, 1) := by decide +kernel
theorem dL_law_30 : decode cL_law 30 = .ok (.iconst 0, 1) := by decide +kernel
theorem dL_law_31 : decode cL_law 31 = .ok (.invokestatic 86, 3) := by decide +kernel
theorem dL_law_34 : decode cL_law 34 = .ok (.bipush 8, 2) := by decide +kernel
theorem dL_law_36 : decode cL_law 36 = .ok (.ishr, 1) := by decide +kernel
theorem dL_law_37 : decode cL_law 37 = .ok (.iconst 3, 1) := by decide +kernel
theorem dL_law_38 : decode cL_law 38 = .ok (.invokestatic 42, 3) := by decide +kernel
theorem dL_law_41 : decode cL_law 41 = .ok (.iadd, 1) := by decide +kernel
theorem dL_law_42 : decode cL_law 42 = .ok (.istore_n 3, 1) := by decide +kernel
theorem dL_law_43 : decode cL_law 43 = .ok (.iconst 1, 1) := by decide +kernel
theorem dL_law_44 : decode cL_law 44 = .ok (.aload_n 0, 1) := by decide +kernel
theorem dL_law_45 : decode cL_law 45 = .ok (.iconst 0, 1) := by decide +kernel
theorem dL_law_46 : decode cL_law 46 = .ok (.invokestatic 86, 3) := by decide +kernel
theorem dL_law_49 : decode cL_law 49 = .ok (.bipush 12, 2) := by decide +kernel
theorem dL_law_51 : decode cL_law 51 = .ok (.ishr, 1) := by decide +kernel
theorem dL_law_52 : decode cL_law 52 = .ok (.iconst 4, 1) := by decide +kernel
theorem dL_law_53 : decode cL_law 53 = .ok (.invokestatic 42, 3) := by decide +kernel
theorem dL_law_56 : decode cL_law 56 = .ok (.iadd, 1) := by decide +kernel
theorem dL_law_57 : decode cL_law 57 = .ok (.istore 4, 2) := by decide +kernel
theorem dL_law_59 : decode cL_law 59 = .ok (.new 89, 3) := by decide +kernel
theorem dL_law_62 : decode cL_law 62 = .ok (.dup, 1) := by decide +kernel
theorem dL_law_63 : decode cL_law 63 = .ok (.new 89, 3) := by decide +kernel
theorem dL_law_66 : decode cL_law 66 = .ok (.dup, 1) := by decide +kernel
theorem dL_law_67 : decode cL_law 67 = .ok (.invokespecial 91, 3) := by decide +kernel
theorem dL_law_70 : decode cL_law 70 = .ok (.ldc 92, 2) := by decide +kernel
theorem dL_law_72 : decode cL_law 72 = .ok (.invokevirtual 94, 3) := by decide +kernel
theorem dL_law_75 : decode cL_law 75 = .ok (.iload_n 1, 1) := by decide +kernel
theorem dL_law_76 : decode cL_law 76 = .ok (.invokevirtual 97, 3) := by decide +kernel
theorem dL_law_79 : decode cL_law 79 = .ok (.ldc 100, 2) := by decide +kernel
theorem dL_law_81 : decode cL_law 81 = .ok (.invokevirtual 94, 3) := by decide +kernel
theorem dL_law_84 : decode cL_law 84 = .ok (.iload_n 2, 1) := by decide +kernel
theorem dL_law_85 : decode cL_law 85 = .ok (.invokevirtual 97, 3) := by decide +kernel
theorem dL_law_88 : decode cL_law 88 = .ok (.ldc 102, 2) := by decide +kernel
theorem dL_law_90 : decode cL_law 90 = .ok (.invokevirtual 94, 3) := by decide +kernel
theorem dL_law_93 : decode cL_law 93 = .ok (.iload 4, 2) := by decide +kernel
theorem dL_law_95 : decode cL_law 95 = .ok (.invokevirtual 97, 3) := by decide +kernel
theorem dL_law_98 : decode cL_law 98 = .ok (.ldc 104, 2) := by decide +kernel
theorem dL_law_100 : decode cL_law 100 = .ok (.invokevirtual 94, 3) := by decide +kernel
theorem dL_law_103 : decode cL_law 103 = .ok (.invokevirtual 106, 3) := by decide +kernel
theorem dL_law_106 : decode cL_law 106 = .ok (.invokespecial 110, 3) := by decide +kernel
theorem dL_law_109 : decode cL_law 109 = .ok (.astore 5, 2) := by decide +kernel
theorem dL_law_111 : decode cL_law 111 = .ok (.iload_n 2, 1) := by decide +kernel
theorem dL_law_112 : decode cL_law 112 = .ok (.iload_n 1, 1) := by decide +kernel
theorem dL_law_113 : decode cL_law 113 = .ok (.multianewarray 113 2, 4) := by decide +kernel
theorem dL_law_117 : decode cL_law 117 = .ok (.astore 6, 2) := by decide +kernel
theorem dL_law_119 : decode cL_law 119 = .ok (.iconst 0, 1) := by decide +kernel
theorem dL_law_120 : decode cL_law 120 = .ok (.istore 7, 2) := by decide +kernel
theorem dL_law_122 : decode cL_law 122 = .ok (.iload 7, 2) := by decide +kernel
theorem dL_law_124 : decode cL_law 124 = .ok (.iload_n 2, 1) := by decide +kernel
theorem dL_law_125 : decode cL_law 125 = .ok (.if_icmp .ge 67, 3) := by decide +kernel
theorem dL_law_128 : decode cL_law 128 = .ok (.aload 5, 2) := by decide +kernel
theorem dL_law_130 : decode cL_law 130 = .ok (.bipush 32, 2) := by decide +kernel
theorem dL_law_132 : decode cL_law 132 = .ok (.invokevirtual 115, 3) := by decide +kernel
theorem dL_law_135 : decode cL_law 135 = .ok (.pop, 1) := by decide +kernel
theorem dL_law_136 : decode cL_law 136 = .ok (.iconst 0, 1) := by decide +kernel
theorem dL_law_137 : decode cL_law 137 = .ok (.istore 8, 2) := by decide +kernel
theorem dL_law_139 : decode cL_law 139 = .ok (.iload 8, 2) := by decide +kernel
theorem dL_law_141 : decode cL_law 141 = .ok (.iload_n 1, 1) := by decide +kernel
theorem dL_law_142 : decode cL_law 142 = .ok (.if_icmp .ge 44, 3) := by decide +kernel
theorem dL_law_145 : decode cL_law 145 = .ok (.aload_n 0, 1) := by decide +kernel
theorem dL_law_146 : decode cL_law 146 = .ok (.iconst 1, 1) := by decide +kernel
theorem dL_law_147 : decode cL_law 147 = .ok (.invokestatic 86, 3) := by decide +kernel
theorem dL_law_150 : decode cL_law 150 = .ok (.iload 8, 2) := by decide +kernel
theorem dL_law_152 : decode cL_law 152 = .ok (.iload 7, 2) := by decide +kernel
theorem dL_law_154 : decode cL_law 154 = .ok (.invokestatic 118, 3) := by decide +kernel
theorem dL_law_157 : decode cL_law 157 = .ok (.istore 9, 2) := by decide +kernel
theorem dL_law_159 : decode cL_law 159 = .ok (.aload 6, 2) := by decide +kernel
theorem dL_law_161 : decode cL_law 161 = .ok (.iload 7, 2) := by decide +kernel
theorem dL_law_163 : decode cL_law 163 = .ok (.aaload, 1) := by decide +kernel
theorem dL_law_164 : decode cL_law 164 = .ok (.iload 8, 2) := by decide +kernel
theorem dL_law_166 : decode cL_law 166 = .ok (.bipush 11, 2) := by decide +kernel
theorem dL_law_168 : decode cL_law 168 = .ok (.iload 9, 2) := by decide +kernel
theorem dL_law_170 : decode cL_law 170 = .ok (.imul, 1) := by decide +kernel
theorem dL_law_171 : decode cL_law 171 = .ok (.iastore, 1) := by decide +kernel
theorem dL_law_172 : decode cL_law 172 = .ok (.aload 5, 2) := by decide +kernel
theorem dL_law_174 : decode cL_law 174 = .ok (.iload 9, 2) := by decide +kernel
theorem dL_law_176 : decode cL_law 176 = .ok (.invokevirtual 97, 3) := by decide +kernel
theorem dL_law_179 : decode cL_law 179 = .ok (.pop, 1) := by decide +kernel
theorem dL_law_180 : decode cL_law 180 = .ok (.iinc 8 1, 3) := by decide +kernel
theorem dL_law_183 : decode cL_law 183 = .ok (.goto (-44), 3) := by decide +kernel
theorem dL_law_186 : decode cL_law 186 = .ok (.iinc 7 1, 3) := by decide +kernel
theorem dL_law_189 : decode cL_law 189 = .ok (.goto (-67), 3) := by decide +kernel
theorem dL_law_192 : decode cL_law 192 = .ok (.aload 5, 2) := by decide +kernel
theorem dL_law_194 : decode cL_law 194 = .ok (.bipush 59, 2) := by decide +kernel
theorem dL_law_196 : decode cL_law 196 = .ok (.invokevirtual 115, 3) := by decide +kernel
theorem dL_law_199 : decode cL_law 199 = .ok (.pop, 1) := by decide +kernel
theorem dL_law_200 : decode cL_law 200 = .ok (.new 47, 3) := by decide +kernel
theorem dL_law_203 : decode cL_law 203 = .ok (.dup, 1) := by decide +kernel
theorem dL_law_204 : decode cL_law 204 = .ok (.invokespecial 121, 3) := by decide +kernel
theorem dL_law_207 : decode cL_law 207 = .ok (.astore 7, 2) := by decide +kernel
theorem dL_law_209 : decode cL_law 209 = .ok (.iconst 0, 1) := by decide +kernel
theorem dL_law_210 : decode cL_law 210 = .ok (.istore 8, 2) := by decide +kernel
theorem dL_law_212 : decode cL_law 212 = .ok (.iload 8, 2) := by decide +kernel
theorem dL_law_214 : decode cL_law 214 = .ok (.iload_n 3, 1) := by decide +kernel
theorem dL_law_215 : decode cL_law 215 = .ok (.if_icmp .ge 124, 3) := by decide +kernel
theorem dL_law_218 : decode cL_law 218 = .ok (.iconst 1, 1) := by decide +kernel
theorem dL_law_219 : decode cL_law 219 = .ok (.aload_n 0, 1) := by decide +kernel
theorem dL_law_220 : decode cL_law 220 = .ok (.iconst 2, 1) := by decide +kernel
theorem dL_law_221 : decode cL_law 221 = .ok (.iload 8, 2) := by decide +kernel
theorem dL_law_223 : decode cL_law 223 = .ok (.iadd, 1) := by decide +kernel
theorem dL_law_224 : decode cL_law 224 = .ok (.invokestatic 86, 3) := by decide +kernel
theorem dL_law_227 : decode cL_law 227 = .ok (.bipush 15, 2) := by decide +kernel
theorem dL_law_229 : decode cL_law 229 = .ok (.invokestatic 42, 3) := by decide +kernel
theorem dL_law_232 : decode cL_law 232 = .ok (.iadd, 1) := by decide +kernel
theorem dL_law_233 : decode cL_law 233 = .ok (.istore 9, 2) := by decide +kernel
theorem dL_law_235 : decode cL_law 235 = .ok (.aload_n 0, 1) := by decide +kernel
theorem dL_law_236 : decode cL_law 236 = .ok (.iconst 2, 1) := by decide +kernel
theorem dL_law_237 : decode cL_law 237 = .ok (.iload 8, 2) := by decide +kernel
theorem dL_law_239 : decode cL_law 239 = .ok (.iadd, 1) := by decide +kernel
theorem dL_law_240 : decode cL_law 240 = .ok (.invokestatic 86, 3) := by decide +kernel
theorem dL_law_243 : decode cL_law 243 = .ok (.iconst 5, 1) := by decide +kernel
theorem dL_law_244 : decode cL_law 244 = .ok (.ishr, 1) := by decide +kernel
theorem dL_law_245 : decode cL_law 245 = .ok (.iconst 4, 1) := by decide +kernel
theorem dL_law_246 : decode cL_law 246 = .ok (.invokestatic 42, 3) := by decide +kernel
theorem dL_law_249 : decode cL_law 249 = .ok (.istore 10, 2) := by decide +kernel
theorem dL_law_251 : decode cL_law 251 = .ok (.aload 7, 2) := by decide +kernel
theorem dL_law_253 : decode cL_law 253 = .ok (.new 55, 3) := by decide +kernel
theorem dL_law_256 : decode cL_law 256 = .ok (.dup, 1) := by decide +kernel
theorem dL_law_257 : decode cL_law 257 = .ok (.iload 9, 2) := by decide +kernel
theorem dL_law_259 : decode cL_law 259 = .ok (.iconst 4, 1) := by decide +kernel
theorem dL_law_260 : decode cL_law 260 = .ok (.idiv, 1) := by decide +kernel
theorem dL_law_261 : decode cL_law 261 = .ok (.iload 9, 2) := by decide +kernel
theorem dL_law_263 : decode cL_law 263 = .ok (.iconst 4, 1) := by decide +kernel
theorem dL_law_264 : decode cL_law 264 = .ok (.irem, 1) := by decide +kernel
theorem dL_law_265 : decode cL_law 265 = .ok (.iload 10, 2) := by decide +kernel
theorem dL_law_267 : decode cL_law 267 = .ok (.invokespecial 122, 3) := by decide +kernel
theorem dL_law_270 : decode cL_law 270 = .ok (.invokevirtual 125, 3) := by decide +kernel
theorem dL_law_273 : decode cL_law 273 = .ok (.pop, 1) := by decide +kernel
theorem dL_law_274 : decode cL_law 274 = .ok (.aload 5, 2) := by decide +kernel
theorem dL_law_276 : decode cL_law 276 = .ok (.ldc 129, 2) := by decide +kernel
theorem dL_law_278 : decode cL_law 278 = .ok (.invokevirtual 94, 3) := by decide +kernel
theorem dL_law_281 : decode cL_law 281 = .ok (.bipush 97, 2) := by decide +kernel
theorem dL_law_283 : decode cL_law 283 = .ok (.iload 8, 2) := by decide +kernel
theorem dL_law_285 : decode cL_law 285 = .ok (.iadd, 1) := by decide +kernel
theorem dL_law_286 : decode cL_law 286 = .ok (.i2c, 1) := by decide +kernel
theorem dL_law_287 : decode cL_law 287 = .ok (.invokevirtual 115, 3) := by decide +kernel
theorem dL_law_290 : decode cL_law 290 = .ok (.bipush 32, 2) := by decide +kernel
theorem dL_law_292 : decode cL_law 292 = .ok (.invokevirtual 115, 3) := by decide +kernel
theorem dL_law_295 : decode cL_law 295 = .ok (.iload 9, 2) := by decide +kernel
theorem dL_law_297 : decode cL_law 297 = .ok (.iconst 4, 1) := by decide +kernel
theorem dL_law_298 : decode cL_law 298 = .ok (.idiv, 1) := by decide +kernel
theorem dL_law_299 : decode cL_law 299 = .ok (.invokevirtual 97, 3) := by decide +kernel
theorem dL_law_302 : decode cL_law 302 = .ok (.bipush 32, 2) := by decide +kernel
theorem dL_law_304 : decode cL_law 304 = .ok (.invokevirtual 115, 3) := by decide +kernel
theorem dL_law_307 : decode cL_law 307 = .ok (.iload 9, 2) := by decide +kernel
theorem dL_law_309 : decode cL_law 309 = .ok (.iconst 4, 1) := by decide +kernel
theorem dL_law_310 : decode cL_law 310 = .ok (.irem, 1) := by decide +kernel
theorem dL_law_311 : decode cL_law 311 = .ok (.invokevirtual 97, 3) := by decide +kernel
theorem dL_law_314 : decode cL_law 314 = .ok (.bipush 32, 2) := by decide +kernel
theorem dL_law_316 : decode cL_law 316 = .ok (.invokevirtual 115, 3) := by decide +kernel
theorem dL_law_319 : decode cL_law 319 = .ok (.iload 10, 2) := by decide +kernel
theorem dL_law_321 : decode cL_law 321 = .ok (.invokestatic 131, 3) := by decide +kernel
theorem dL_law_324 : decode cL_law 324 = .ok (.invokevirtual 94, 3) := by decide +kernel
theorem dL_law_327 : decode cL_law 327 = .ok (.bipush 59, 2) := by decide +kernel
theorem dL_law_329 : decode cL_law 329 = .ok (.invokevirtual 115, 3) := by decide +kernel
theorem dL_law_332 : decode cL_law 332 = .ok (.pop, 1) := by decide +kernel
theorem dL_law_333 : decode cL_law 333 = .ok (.iinc 8 1, 3) := by decide +kernel
theorem dL_law_336 : decode cL_law 336 = .ok (.goto (-124), 3) := by decide +kernel
theorem dL_law_339 : decode cL_law 339 = .ok (.new 19, 3) := by decide +kernel
theorem dL_law_342 : decode cL_law 342 = .ok (.dup, 1) := by decide +kernel
theorem dL_law_343 : decode cL_law 343 = .ok (.invokespecial 135, 3) := by decide +kernel
theorem dL_law_346 : decode cL_law 346 = .ok (.astore 8, 2) := by decide +kernel
theorem dL_law_348 : decode cL_law 348 = .ok (.aload 8, 2) := by decide +kernel
theorem dL_law_350 : decode cL_law 350 = .ok (.aload 5, 2) := by decide +kernel
theorem dL_law_352 : decode cL_law 352 = .ok (.invokevirtual 106, 3) := by decide +kernel
theorem dL_law_355 : decode cL_law 355 = .ok (.invokestatic 136, 3) := by decide +kernel
theorem dL_law_358 : decode cL_law 358 = .ok (.iload_n 3, 1) := by decide +kernel
theorem dL_law_359 : decode cL_law 359 = .ok (.if_icmp .ne 17, 3) := by decide +kernel
theorem dL_law_362 : decode cL_law 362 = .ok (.aload 8, 2) := by decide +kernel
theorem dL_law_364 : decode cL_law 364 = .ok (.aload 7, 2) := by decide +kernel
theorem dL_law_366 : decode cL_law 366 = .ok (.aload 6, 2) := by decide +kernel
theorem dL_law_368 : decode cL_law 368 = .ok (.iload 4, 2) := by decide +kernel
theorem dL_law_370 : decode cL_law 370 = .ok (.invokestatic 139, 3) := by decide +kernel
theorem dL_law_373 : decode cL_law 373 = .ok (.ifCond .ne 5, 3) := by decide +kernel
theorem dL_law_376 : decode cL_law 376 = .ok (.iconst 0, 1) := by decide +kernel
theorem dL_law_377 : decode cL_law 377 = .ok (.ireturn, 1) := by decide +kernel
theorem dL_law_378 : decode cL_law 378 = .ok (.aload_n 0, 1) := by decide +kernel
theorem dL_law_379 : decode cL_law 379 = .ok (.iconst 5, 1) := by decide +kernel
theorem dL_law_380 : decode cL_law 380 = .ok (.invokestatic 86, 3) := by decide +kernel
theorem dL_law_383 : decode cL_law 383 = .ok (.iload_n 3, 1) := by decide +kernel
theorem dL_law_384 : decode cL_law 384 = .ok (.invokestatic 42, 3) := by decide +kernel
theorem dL_law_387 : decode cL_law 387 = .ok (.istore 9, 2) := by decide +kernel
theorem dL_law_389 : decode cL_law 389 = .ok (.aload 7, 2) := by decide +kernel
theorem dL_law_391 : decode cL_law 391 = .ok (.iload 9, 2) := by decide +kernel
theorem dL_law_393 : decode cL_law 393 = .ok (.invokevirtual 51, 3) := by decide +kernel
theorem dL_law_396 : decode cL_law 396 = .ok (.checkcast 55, 3) := by decide +kernel
theorem dL_law_399 : decode cL_law 399 = .ok (.astore 10, 2) := by decide +kernel
theorem dL_law_401 : decode cL_law 401 = .ok (.aload 10, 2) := by decide +kernel
theorem dL_law_403 : decode cL_law 403 = .ok (.aload_n 0, 1) := by decide +kernel
theorem dL_law_404 : decode cL_law 404 = .ok (.iconst 5, 1) := by decide +kernel
theorem dL_law_405 : decode cL_law 405 = .ok (.invokestatic 86, 3) := by decide +kernel
theorem dL_law_408 : decode cL_law 408 = .ok (.iconst 3, 1) := by decide +kernel
theorem dL_law_409 : decode cL_law 409 = .ok (.ishr, 1) := by decide +kernel
theorem dL_law_410 : decode cL_law 410 = .ok (.bipush 18, 2) := by decide +kernel
theorem dL_law_412 : decode cL_law 412 = .ok (.invokestatic 42, 3) := by decide +kernel
theorem dL_law_415 : decode cL_law 415 = .ok (.putfield 143, 3) := by decide +kernel
theorem dL_law_418 : decode cL_law 418 = .ok (.aload 10, 2) := by decide +kernel
theorem dL_law_420 : decode cL_law 420 = .ok (.aload_n 0, 1) := by decide +kernel
theorem dL_law_421 : decode cL_law 421 = .ok (.iconst 5, 1) := by decide +kernel
theorem dL_law_422 : decode cL_law 422 = .ok (.invokestatic 86, 3) := by decide +kernel
theorem dL_law_425 : decode cL_law 425 = .ok (.bipush 8, 2) := by decide +kernel
theorem dL_law_427 : decode cL_law 427 = .ok (.ishr, 1) := by decide +kernel
theorem dL_law_428 : decode cL_law 428 = .ok (.bipush 18, 2) := by decide +kernel
theorem dL_law_430 : decode cL_law 430 = .ok (.invokestatic 42, 3) := by decide +kernel
theorem dL_law_433 : decode cL_law 433 = .ok (.putfield 146, 3) := by decide +kernel
theorem dL_law_436 : decode cL_law 436 = .ok (.aload 8, 2) := by decide +kernel
theorem dL_law_438 : decode cL_law 438 = .ok (.iload 9, 2) := by decide +kernel
theorem dL_law_440 : decode cL_law 440 = .ok (.aload 10, 2) := by decide +kernel
theorem dL_law_442 : decode cL_law 442 = .ok (.getfield 143, 3) := by decide +kernel
theorem dL_law_445 : decode cL_law 445 = .ok (.aload 10, 2) := by decide +kernel
theorem dL_law_447 : decode cL_law 447 = .ok (.getfield 146, 3) := by decide +kernel
theorem dL_law_450 : decode cL_law 450 = .ok (.invokevirtual 149, 3) := by decide +kernel
theorem dL_law_453 : decode cL_law 453 = .ok (.aload 8, 2) := by decide +kernel
theorem dL_law_455 : decode cL_law 455 = .ok (.iconst 4, 1) := by decide +kernel
theorem dL_law_456 : decode cL_law 456 = .ok (.invokevirtual 83, 3) := by decide +kernel
theorem dL_law_459 : decode cL_law 459 = .ok (.if_icmp .ne 17, 3) := by decide +kernel
theorem dL_law_462 : decode cL_law 462 = .ok (.aload 8, 2) := by decide +kernel
theorem dL_law_464 : decode cL_law 464 = .ok (.aload 7, 2) := by decide +kernel
theorem dL_law_466 : decode cL_law 466 = .ok (.aload 6, 2) := by decide +kernel
theorem dL_law_468 : decode cL_law 468 = .ok (.iload 4, 2) := by decide +kernel
theorem dL_law_470 : decode cL_law 470 = .ok (.invokestatic 139, 3) := by decide +kernel
theorem dL_law_473 : decode cL_law 473 = .ok (.ifCond .ne 5, 3) := by decide +kernel
theorem dL_law_476 : decode cL_law 476 = .ok (.iconst 0, 1) := by decide +kernel
theorem dL_law_477 : decode cL_law 477 = .ok (.ireturn, 1) := by decide +kernel
theorem dL_law_478 : decode cL_law 478 = .ok (.aload_n 0, 1) := by decide +kernel
theorem dL_law_479 : decode cL_law 479 = .ok (.bipush 6, 2) := by decide +kernel
theorem dL_law_481 : decode cL_law 481 = .ok (.invokestatic 86, 3) := by decide +kernel
theorem dL_law_484 : decode cL_law 484 = .ok (.iload_n 1, 1) := by decide +kernel
theorem dL_law_485 : decode cL_law 485 = .ok (.invokestatic 42, 3) := by decide +kernel
theorem dL_law_488 : decode cL_law 488 = .ok (.istore 11, 2) := by decide +kernel
theorem dL_law_490 : decode cL_law 490 = .ok (.aload_n 0, 1) := by decide +kernel
theorem dL_law_491 : decode cL_law 491 = .ok (.bipush 6, 2) := by decide +kernel
theorem dL_law_493 : decode cL_law 493 = .ok (.invokestatic 86, 3) := by decide +kernel
theorem dL_law_496 : decode cL_law 496 = .ok (.iconst 4, 1) := by decide +kernel
theorem dL_law_497 : decode cL_law 497 = .ok (.ishr, 1) := by decide +kernel
theorem dL_law_498 : decode cL_law 498 = .ok (.iload_n 2, 1) := by decide +kernel
theorem dL_law_499 : decode cL_law 499 = .ok (.invokestatic 42, 3) := by decide +kernel
theorem dL_law_502 : decode cL_law 502 = .ok (.istore 12, 2) := by decide +kernel
theorem dL_law_504 : decode cL_law 504 = .ok (.aload_n 0, 1) := by decide +kernel
theorem dL_law_505 : decode cL_law 505 = .ok (.bipush 6, 2) := by decide +kernel
theorem dL_law_507 : decode cL_law 507 = .ok (.invokestatic 86, 3) := by decide +kernel
theorem dL_law_510 : decode cL_law 510 = .ok (.bipush 8, 2) := by decide +kernel
theorem dL_law_512 : decode cL_law 512 = .ok (.ishr, 1) := by decide +kernel
theorem dL_law_513 : decode cL_law 513 = .ok (.bipush 101, 2) := by decide +kernel
theorem dL_law_515 : decode cL_law 515 = .ok (.invokestatic 42, 3) := by decide +kernel
theorem dL_law_518 : decode cL_law 518 = .ok (.istore 13, 2) := by decide +kernel
theorem dL_law_520 : decode cL_law 520 = .ok (.aload 6, 2) := by decide +kernel
theorem dL_law_522 : decode cL_law 522 = .ok (.iload 12, 2) := by decide +kernel
theorem dL_law_524 : decode cL_law 524 = .ok (.aaload, 1) := by decide +kernel
theorem dL_law_525 : decode cL_law 525 = .ok (.iload 11, 2) := by decide +kernel
theorem dL_law_527 : decode cL_law 527 = .ok (.iload 13, 2) := by decide +kernel
theorem dL_law_529 : decode cL_law 529 = .ok (.iastore, 1) := by decide +kernel
theorem dL_law_530 : decode cL_law 530 = .ok (.aload 8, 2) := by decide +kernel
theorem dL_law_532 : decode cL_law 532 = .ok (.iload 11, 2) := by decide +kernel
theorem dL_law_534 : decode cL_law 534 = .ok (.iload 12, 2) := by decide +kernel
theorem dL_law_536 : decode cL_law 536 = .ok (.iconst 1, 1) := by decide +kernel
theorem dL_law_537 : decode cL_law 537 = .ok (.iconst 1, 1) := by decide +kernel
theorem dL_law_538 : decode cL_law 538 = .ok (.iload 13, 2) := by decide +kernel
theorem dL_law_540 : decode cL_law 540 = .ok (.invokevirtual 152, 3) := by decide +kernel
theorem dL_law_543 : decode cL_law 543 = .ok (.aload 8, 2) := by decide +kernel
theorem dL_law_545 : decode cL_law 545 = .ok (.iconst 4, 1) := by decide +kernel
theorem dL_law_546 : decode cL_law 546 = .ok (.invokevirtual 83, 3) := by decide +kernel
theorem dL_law_549 : decode cL_law 549 = .ok (.if_icmp .ne 17, 3) := by decide +kernel
theorem dL_law_552 : decode cL_law 552 = .ok (.aload 8, 2) := by decide +kernel
theorem dL_law_554 : decode cL_law 554 = .ok (.aload 7, 2) := by decide +kernel
theorem dL_law_556 : decode cL_law 556 = .ok (.aload 6, 2) := by decide +kernel
theorem dL_law_558 : decode cL_law 558 = .ok (.iload 4, 2) := by decide +kernel
theorem dL_law_560 : decode cL_law 560 = .ok (.invokestatic 139, 3) := by decide +kernel
theorem dL_law_563 : decode cL_law 563 = .ok (.ifCond .ne 5, 3) := by decide +kernel
theorem dL_law_566 : decode cL_law 566 = .ok (.iconst 0, 1) := by decide +kernel
theorem dL_law_567 : decode cL_law 567 = .ok (.ireturn, 1) := by decide +kernel
theorem dL_law_568 : decode cL_law 568 = .ok (.aload_n 0, 1) := by decide +kernel
theorem dL_law_569 : decode cL_law 569 = .ok (.bipush 7, 2) := by decide +kernel
theorem dL_law_571 : decode cL_law 571 = .ok (.invokestatic 86, 3) := by decide +kernel
theorem dL_law_574 : decode cL_law 574 = .ok (.iconst 4, 1) := by decide +kernel
theorem dL_law_575 : decode cL_law 575 = .ok (.invokestatic 42, 3) := by decide +kernel
theorem dL_law_578 : decode cL_law 578 = .ok (.istore 14, 2) := by decide +kernel
theorem dL_law_580 : decode cL_law 580 = .ok (.aload 8, 2) := by decide +kernel
theorem dL_law_582 : decode cL_law 582 = .ok (.iload 9, 2) := by decide +kernel
theorem dL_law_584 : decode cL_law 584 = .ok (.iload 14, 2) := by decide +kernel
theorem dL_law_586 : decode cL_law 586 = .ok (.invokevirtual 155, 3) := by decide +kernel
theorem dL_law_589 : decode cL_law 589 = .ok (.aload 10, 2) := by decide +kernel
theorem dL_law_591 : decode cL_law 591 = .ok (.getfield 158, 3) := by decide +kernel
theorem dL_law_594 : decode cL_law 594 = .ok (.if_icmp .eq 5, 3) := by decide +kernel
theorem dL_law_597 : decode cL_law 597 = .ok (.iconst 0, 1) := by decide +kernel
theorem dL_law_598 : decode cL_law 598 = .ok (.ireturn, 1) := by decide +kernel
theorem dL_law_599 : decode cL_law 599 = .ok (.new 55, 3) := by decide +kernel
theorem dL_law_602 : decode cL_law 602 = .ok (.dup, 1) := by decide +kernel
theorem dL_law_603 : decode cL_law 603 = .ok (.aload 10, 2) := by decide +kernel
theorem dL_law_605 : decode cL_law 605 = .ok (.getfield 160, 3) := by decide +kernel
theorem dL_law_608 : decode cL_law 608 = .ok (.aload 10, 2) := by decide +kernel
theorem dL_law_610 : decode cL_law 610 = .ok (.getfield 163, 3) := by decide +kernel
theorem dL_law_613 : decode cL_law 613 = .ok (.iload 14, 2) := by decide +kernel
theorem dL_law_615 : decode cL_law 615 = .ok (.invokespecial 122, 3) := by decide +kernel
theorem dL_law_618 : decode cL_law 618 = .ok (.astore 15, 2) := by decide +kernel
theorem dL_law_620 : decode cL_law 620 = .ok (.aload 15, 2) := by decide +kernel
theorem dL_law_622 : decode cL_law 622 = .ok (.aload 10, 2) := by decide +kernel
theorem dL_law_624 : decode cL_law 624 = .ok (.getfield 143, 3) := by decide +kernel
theorem dL_law_627 : decode cL_law 627 = .ok (.putfield 143, 3) := by decide +kernel
theorem dL_law_630 : decode cL_law 630 = .ok (.aload 15, 2) := by decide +kernel
theorem dL_law_632 : decode cL_law 632 = .ok (.aload 10, 2) := by decide +kernel
theorem dL_law_634 : decode cL_law 634 = .ok (.getfield 146, 3) := by decide +kernel
theorem dL_law_637 : decode cL_law 637 = .ok (.putfield 146, 3) := by decide +kernel
theorem dL_law_640 : decode cL_law 640 = .ok (.aload 7, 2) := by decide +kernel
theorem dL_law_642 : decode cL_law 642 = .ok (.iload 9, 2) := by decide +kernel
theorem dL_law_644 : decode cL_law 644 = .ok (.aload 15, 2) := by decide +kernel
theorem dL_law_646 : decode cL_law 646 = .ok (.invokevirtual 166, 3) := by decide +kernel
theorem dL_law_649 : decode cL_law 649 = .ok (.pop, 1) := by decide +kernel
theorem dL_law_650 : decode cL_law 650 = .ok (.aload 8, 2) := by decide +kernel
theorem dL_law_652 : decode cL_law 652 = .ok (.aload 7, 2) := by decide +kernel
theorem dL_law_654 : decode cL_law 654 = .ok (.aload 6, 2) := by decide +kernel
theorem dL_law_656 : decode cL_law 656 = .ok (.iload 4, 2) := by decide +kernel
theorem dL_law_658 : decode cL_law 658 = .ok (.invokestatic 139, 3) := by decide +kernel
theorem dL_law_661 : decode cL_law 661 = .ok (.ifCond .eq 53, 3) := by decide +kernel
theorem dL_law_664 : decode cL_law 664 = .ok (.aload 8, 2) := by decide +kernel
theorem dL_law_666 : decode cL_law 666 = .ok (.iconst 4, 1) := by decide +kernel
theorem dL_law_667 : decode cL_law 667 = .ok (.invokevirtual 170, 3) := by decide +kernel
theorem dL_law_670 : decode cL_law 670 = .ok (.iload 4, 2) := by decide +kernel
theorem dL_law_672 : decode cL_law 672 = .ok (.if_icmp .ne 42, 3) := by decide +kernel
theorem dL_law_675 : decode cL_law 675 = .ok (.aload 8, 2) := by decide +kernel
theorem dL_law_677 : decode cL_law 677 = .ok (.aload 7, 2) := by decide +kernel
theorem dL_law_679 : decode cL_law 679 = .ok (.aload 6, 2) := by decide +kernel
theorem dL_law_681 : decode cL_law 681 = .ok (.iconst 4, 1) := by decide +kernel
theorem dL_law_682 : decode cL_law 682 = .ok (.invokestatic 139, 3) := by decide +kernel
theorem dL_law_685 : decode cL_law 685 = .ok (.ifCond .eq 29, 3) := by decide +kernel
theorem dL_law_688 : decode cL_law 688 = .ok (.aload 8, 2) := by decide +kernel
theorem dL_law_690 : decode cL_law 690 = .ok (.invokevirtual 173, 3) := by decide +kernel
theorem dL_law_693 : decode cL_law 693 = .ok (.ifCond .lt 21, 3) := by decide +kernel
theorem dL_law_696 : decode cL_law 696 = .ok (.aload 8, 2) := by decide +kernel
theorem dL_law_698 : decode cL_law 698 = .ok (.aload 7, 2) := by decide +kernel
theorem dL_law_700 : decode cL_law 700 = .ok (.aload 6, 2) := by decide +kernel
theorem dL_law_702 : decode cL_law 702 = .ok (.iload 4, 2) := by decide +kernel
theorem dL_law_704 : decode cL_law 704 = .ok (.invokestatic 139, 3) := by decide +kernel
theorem dL_law_707 : decode cL_law 707 = .ok (.ifCond .eq 7, 3) := by decide +kernel
theorem dL_law_710 : decode cL_law 710 = .ok (.iconst 1, 1) := by decide +kernel
theorem dL_law_711 : decode cL_law 711 = .ok (.goto 4, 3) := by decide +kernel
theorem dL_law_714 : decode cL_law 714 = .ok (.iconst 0, 1) := by decide +kernel
theorem dL_law_715 : decode cL_law 715 = .ok (.ireturn, 1) := by decide +kernel
end
section
/-! whole numbers for ints and longs: an int of the machine is Int32.ofInt z, z in i32 -/
def w32 (z : Int) : Int := Int.bmod z 4294967296
def w64 (z : Int) : Int := Int.bmod z 18446744073709551616
def w8 (z : Int) : Int := Int.bmod z 256
def i32 (z : Int) : Prop := -2147483648 ≤ z ∧ z < 2147483648
def i64 (z : Int) : Prop := -9223372036854775808 ≤ z ∧ z < 9223372036854775808
theorem w32_i (z : Int) : i32 (w32 z) := by
  unfold i32 w32
  have h1 := Int.le_bmod (x := z) (m := 4294967296) (by decide)
  have h2 := Int.bmod_lt (x := z) (m := 4294967296) (by decide)
  omega
theorem w64_i (z : Int) : i64 (w64 z) := by
  unfold i64 w64
  have h1 := Int.le_bmod (x := z) (m := 18446744073709551616) (by decide)
  have h2 := Int.bmod_lt (x := z) (m := 18446744073709551616) (by decide)
  omega
theorem w8_i (z : Int) : -128 ≤ w8 z ∧ w8 z < 128 := by
  unfold w8
  have h1 := Int.le_bmod (x := z) (m := 256) (by decide)
  have h2 := Int.bmod_lt (x := z) (m := 256) (by decide)
  omega
theorem w32_eq {z : Int} (h1 : -2147483648 ≤ z) (h2 : z < 2147483648) : w32 z = z := by
  unfold w32
  exact Int.bmod_eq_of_le_mul_two (by omega) (by omega)
theorem w64_eq {z : Int} (h1 : -9223372036854775808 ≤ z) (h2 : z < 9223372036854775808) : w64 z = z := by
  unfold w64
  exact Int.bmod_eq_of_le_mul_two (by omega) (by omega)
theorem w8_eq {z : Int} (h1 : -128 ≤ z) (h2 : z < 128) : w8 z = z := by
  unfold w8
  exact Int.bmod_eq_of_le_mul_two (by omega) (by omega)
theorem oi_to {z : Int} (h : i32 z) : (Int32.ofInt z).toInt = z := by
  rw [Int32.toInt_ofInt]
  exact w32_eq h.1 h.2
theorem oi_of (x : Int32) : Int32.ofInt x.toInt = x := Int32.ofInt_toInt x
theorem oi_w (z : Int) : Int32.ofInt (w32 z) = Int32.ofInt z := by
  apply Int32.toInt_inj.mp
  rw [Int32.toInt_ofInt, Int32.toInt_ofInt]
  unfold w32
  exact Int.bmod_bmod
theorem oi_add (a b : Int) : Int32.ofInt a + Int32.ofInt b = Int32.ofInt (w32 (a + b)) := by
  rw [oi_w, Int32.ofInt_add]
theorem oi_sub (a b : Int) : Int32.ofInt a - Int32.ofInt b = Int32.ofInt (w32 (a - b)) := by
  rw [oi_w, Int32.ofInt_sub]
theorem oi_mul (a b : Int) : Int32.ofInt a * Int32.ofInt b = Int32.ofInt (w32 (a * b)) := by
  rw [oi_w, Int32.ofInt_mul]
theorem oi_neg (a : Int) : -Int32.ofInt a = Int32.ofInt (w32 (-a)) := by
  rw [oi_w, Int32.ofInt_neg]
theorem oi_lt {a b : Int} (ha : i32 a) (hb : i32 b) : Int32.ofInt a < Int32.ofInt b ↔ a < b := by
  rw [Int32.lt_iff_toInt_lt, oi_to ha, oi_to hb]
theorem oi_le {a b : Int} (ha : i32 a) (hb : i32 b) : Int32.ofInt a ≤ Int32.ofInt b ↔ a ≤ b := by
  rw [Int32.le_iff_toInt_le, oi_to ha, oi_to hb]
theorem oi_eq {a b : Int} (ha : i32 a) (hb : i32 b) : Int32.ofInt a = Int32.ofInt b ↔ a = b := by
  rw [← Int32.toInt_inj, oi_to ha, oi_to hb]
theorem i32_0 : i32 0 := by unfold i32; omega
theorem oi_0 : Int32.ofInt 0 = 0 := by decide
theorem oi_div {a b : Int} (ha : i32 a) (hb : i32 b) : Int32.ofInt a / Int32.ofInt b = Int32.ofInt (w32 (a.tdiv b)) := by
  apply Int32.toInt_inj.mp
  rw [Int32.toInt_div, oi_to ha, oi_to hb, oi_to (w32_i _)]
  rfl
theorem oi_rem {a b : Int} (ha : i32 a) (hb : i32 b) : Int32.ofInt a - Int32.ofInt a / Int32.ofInt b * Int32.ofInt b = Int32.ofInt (a.tmod b) := by
  rw [oi_div ha hb, oi_w, ← Int32.ofInt_mul, ← Int32.ofInt_sub, Int.tmod_def, Int.mul_comm]
theorem tmod_i {a b : Int} (ha : i32 a) : i32 (a.tmod b) := by
  obtain ⟨h1, h2⟩ := ha
  unfold i32
  have hn : (a.tmod b).natAbs ≤ a.natAbs := by
    rw [Int.natAbs_tmod]
    exact Nat.mod_le _ _
  rcases Int.le_total 0 a with h | h
  · have := Int.tmod_nonneg b h
    omega
  · have : a.tmod b ≤ 0 := by
      have h3 : 0 ≤ (-a).tmod b := Int.tmod_nonneg b (by omega)
      rw [Int.neg_tmod] at h3
      omega
    omega
theorem lo_to {z : Int} (h : i64 z) : (Int64.ofInt z).toInt = z := by
  rw [Int64.toInt_ofInt]
  exact w64_eq h.1 h.2
theorem lo_of (x : Int64) : Int64.ofInt x.toInt = x := Int64.ofInt_toInt x
theorem lo_w (z : Int) : Int64.ofInt (w64 z) = Int64.ofInt z := by
  apply Int64.toInt_inj.mp
  rw [Int64.toInt_ofInt, Int64.toInt_ofInt]
  unfold w64
  exact Int.bmod_bmod
theorem lo_add (a b : Int) : Int64.ofInt a + Int64.ofInt b = Int64.ofInt (w64 (a + b)) := by
  rw [lo_w, Int64.ofInt_add]
theorem lo_sub (a b : Int) : Int64.ofInt a - Int64.ofInt b = Int64.ofInt (w64 (a - b)) := by
  rw [lo_w, Int64.ofInt_sub]
theorem lo_mul (a b : Int) : Int64.ofInt a * Int64.ofInt b = Int64.ofInt (w64 (a * b)) := by
  rw [lo_w, Int64.ofInt_mul]
theorem lo_lt {a b : Int} (ha : i64 a) (hb : i64 b) : Int64.ofInt a < Int64.ofInt b ↔ a < b := by
  rw [Int64.lt_iff_toInt_lt, lo_to ha, lo_to hb]
theorem lo_eq {a b : Int} (ha : i64 a) (hb : i64 b) : Int64.ofInt a = Int64.ofInt b ↔ a = b := by
  rw [← Int64.toInt_inj, lo_to ha, lo_to hb]
theorem lo_div {a b : Int} (ha : i64 a) (hb : i64 b) : Int64.ofInt a / Int64.ofInt b = Int64.ofInt (w64 (a.tdiv b)) := by
  apply Int64.toInt_inj.mp
  rw [Int64.toInt_div, lo_to ha, lo_to hb, lo_to (w64_i _)]
  rfl
theorem i64_of32 {z : Int} (h : i32 z) : i64 z := by
  unfold i32 at h
  unfold i64
  omega
theorem i64_0 : i64 0 := by unfold i64; omega
theorem lo_0 : Int64.ofInt 0 = 0 := by decide
theorem oi_l {z : Int} (h : i32 z) : (Int32.ofInt z).toInt64 = Int64.ofInt z := by
  apply Int64.toInt_inj.mp
  rw [Int32.toInt_toInt64, oi_to h, lo_to (i64_of32 h)]
theorem lo_i (z : Int) : (Int64.ofInt z).toInt32 = Int32.ofInt (w32 z) := by
  apply Int32.toInt_inj.mp
  rw [Int64.toInt_toInt32, Int64.toInt_ofInt, oi_to (w32_i _)]
  unfold w32
  exact Int.bmod_bmod_of_dvd (by decide)
theorem oi_b (z : Int) : (Int32.ofInt z).toInt8.toInt32 = Int32.ofInt (w8 z) := by
  apply Int32.toInt_inj.mp
  have h8 := w8_i z
  rw [Int8.toInt_toInt32, Int32.toInt_toInt8, Int32.toInt_ofInt, oi_to (by unfold i32; omega)]
  unfold w8
  exact Int.bmod_bmod_of_dvd (by decide)
def bAnd (a b : Int) : Int := (Int32.ofInt a &&& Int32.ofInt b).toInt
def bOr (a b : Int) : Int := (Int32.ofInt a ||| Int32.ofInt b).toInt
def bXor (a b : Int) : Int := (Int32.ofInt a ^^^ Int32.ofInt b).toInt
def bShl (a b : Int) : Int := (Int32.ofInt a <<< (Int32.ofInt b &&& 31)).toInt
def bShr (a b : Int) : Int := (Int32.ofInt a >>> (Int32.ofInt b &&& 31)).toInt
def bUsh (a b : Int) : Int := (((Int32.ofInt a).toUInt32 >>> ((Int32.ofInt b).toUInt32 &&& Int32.toUInt32 31)).toInt32).toInt
def bC (a : Int) : Int := (((Int32.ofInt a).toUInt32 % 65536).toInt32).toInt
theorem i32_to (x : Int32) : i32 x.toInt := ⟨Int32.le_toInt x, Int32.toInt_lt x⟩
theorem i64_to (x : Int64) : i64 x.toInt := ⟨Int64.le_toInt x, Int64.toInt_lt x⟩
def cLong (a b : Int) : Int := if b < a then 1 else if a = b then 0 else -1
theorem cLong_i (a b : Int) : i32 (cLong a b) := by
  unfold cLong i32
  split
  · omega
  · split <;> omega
theorem lg_cmp_c {a b : Int} (ha : i64 a) (hb : i64 b) : lg_cmp (Int64.ofInt a) (Int64.ofInt b) = Int32.ofInt (cLong a b) := by
  unfold lg_cmp cLong
  simp only [gt_iff_lt, lo_lt hb ha, lo_eq ha hb]
  split
  · decide
  · split <;> decide
def dBits (z : Int) : UInt64 := UInt64.ofNat z.toNat
def fBits (z : Int) : UInt32 := UInt32.ofNat z.toNat
def dI (u : UInt64) : Int := u.toNat
def fI (u : UInt32) : Int := u.toNat
theorem dBits_I (u : UInt64) : dBits (dI u) = u := by
  unfold dBits dI
  simp
theorem fBits_I (u : UInt32) : fBits (fI u) = u := by
  unfold fBits fI
  simp
theorem dI_ok (u : UInt64) : 0 ≤ dI u ∧ dI u < 18446744073709551616 := by
  unfold dI
  have := u.toNat_lt
  omega
theorem fI_ok (u : UInt32) : 0 ≤ fI u ∧ fI u < 4294967296 := by
  unfold fI
  have := u.toNat_lt
  omega
def dDiv (a b : Int) : Int := dI (FP.ddiv (dBits a) (dBits b))
def fDiv (a b : Int) : Int := fI (FP.fdiv (fBits a) (fBits b))
def dOf (a : Int) : Int := dI (FP.i2d (Int32.ofInt a))
def fOf (a : Int) : Int := fI (FP.i2f (Int32.ofInt a))
def dOfF (a : Int) : Int := dI (FP.f2d (fBits a))
def dCmp (op : CmpOp) (a b : Int) : Int := (Op.cmpValue (FP.dcmp (dBits a) (dBits b)) op).toInt
def fCmp (op : CmpOp) (a b : Int) : Int := (Op.cmpValue (FP.fcmp (fBits a) (fBits b)) op).toInt
end
section
/-! the small memory: objects by numbers: 1, 2, .. those that the component makes, -22, -23, .. those that the law makes, -1 .. -21 fixed ones that nobody writes (an empty Object[], nine String constants with their bytes, a table of digits, the script); row -1: the kind, row -2: an array's length; row 0 of 0: the component's next number; 0 1 and 0 2: cells and slots made so far; 0 3: the law's next number -/
abbrev Mem : Type := Int → Int → Int
abbrev AV : Type := Nat × Int
abbrev Rz : Type := Option (Int × Int × Mem)
/-- the classes' numbers, the first address of the run's own cells, the array classes, the string constants' addresses, an unknown static -/
abbrev Gc : Type := va_G × Nat × (Nat → ClassId) × (Nat → Nat) × Option Nat
def gD (G : Gc) : va_G := G.1
def gB (G : Gc) : Nat := G.2.1
def gA (G : Gc) : Nat → ClassId := G.2.2.1
def gK (G : Gc) : Nat → Nat := G.2.2.2.1
def gO (G : Gc) : Option Nat := G.2.2.2.2
def mUp (μ : Mem) (a k v : Int) : Mem := fun a' k' => if a' = a ∧ k' = k then v else μ a' k'
theorem mUp_same (μ : Mem) (a k v : Int) : mUp μ a k v a k = v := by simp [mUp]
theorem mUp_ne (μ : Mem) {a k a' k' : Int} (v : Int) (h : ¬ (a' = a ∧ k' = k)) : mUp μ a k v a' k' = μ a' k' := by simp [mUp, h]
def cvR (ρ : Int → Nat) (z : Int) : Value := if z = 0 then .null else .ref (ρ z)
/-- tags: 0 int, 1 long, 2 reference, 3 float, 4 double, 5 a string constant, 6 the unknown static, 7 an address that nobody uses -/
def cv (G : Gc) (ρ : Int → Nat) (x : AV) : Value := match x.1 with
  | 0 => .int (Int32.ofInt x.2)
  | 1 => .long (Int64.ofInt x.2)
  | 2 => cvR ρ x.2
  | 3 => .float (fBits x.2)
  | 4 => .double (dBits x.2)
  | 5 => .ref (gK G x.2.toNat)
  | 6 => va_rf (gO G)
  | _ => .ref x.2.toNat
def nStr : Int := 28
/-- what bounds the numbers in use -/
def bd (μ : Mem) : Int × Int := (μ 0 0, μ 0 3)
def vok (n : Int × Int) (x : AV) : Prop := match x.1 with
  | 0 => i32 x.2
  | 1 => i64 x.2
  | 2 => n.2 < x.2 ∧ x.2 < n.1
  | 3 => 0 ≤ x.2 ∧ x.2 < 4294967296
  | 4 => 0 ≤ x.2 ∧ x.2 < 18446744073709551616
  | 5 => 0 ≤ x.2 ∧ x.2 < nStr
  | _ => True
def catA (t : Nat) : Nat := if t = 1 ∨ t = 4 then 2 else 1
theorem cv_cat (G : Gc) (ρ : Int → Nat) (x : AV) : (cv G ρ x).category = catA x.1 := by
  obtain ⟨t, z⟩ := x
  match t with
  | 0 => rfl
  | 1 => rfl
  | 2 =>
    show (cvR ρ z).category = 1
    unfold cvR
    split <;> rfl
  | 3 => rfl
  | 4 => rfl
  | 5 => rfl
  | 6 =>
    show (va_rf (gO G)).category = 1
    cases gO G <;> rfl
  | n + 7 =>
    have : catA (n + 7) = 1 := by
      unfold catA
      rw [if_neg (by omega)]
    rw [this]
    rfl
theorem vok_mono {n n' : Int × Int} (h : n.1 ≤ n'.1 ∧ n'.2 ≤ n.2) {x : AV} (hx : vok n x) : vok n' x := by
  obtain ⟨t, z⟩ := x
  match t, hx with
  | 0, hx => exact hx
  | 1, hx => exact hx
  | 2, hx => exact ⟨Int.lt_of_le_of_lt h.2 hx.1, Int.lt_of_lt_of_le hx.2 h.1⟩
  | 3, hx => exact hx
  | 4, hx => exact hx
  | 5, hx => exact hx
  | 6, _ => trivial
  | _ + 7, _ => trivial
/-- ρ' says of the numbers in use what ρ says -/
def Ext (n : Int × Int) (ρ ρ' : Int → Nat) : Prop := ∀ a, a ≠ 0 → n.2 < a → a < n.1 → ρ' a = ρ a
theorem Ext.rf {n : Int × Int} {ρ : Int → Nat} : Ext n ρ ρ := fun _ _ _ _ => rfl
theorem Ext.tr {n n' : Int × Int} {ρ ρ' ρ'' : Int → Nat} (h : Ext n ρ ρ') (h' : Ext n' ρ' ρ'') (hn : n.1 ≤ n'.1 ∧ n'.2 ≤ n.2) : Ext n ρ ρ'' := fun a h1 h2 h3 => (h' a h1 (by omega) (by omega)).trans (h a h1 h2 h3)
theorem cv_ext {G : Gc} {n : Int × Int} {ρ ρ' : Int → Nat} (h : Ext n ρ ρ') {x : AV} (hx : vok n x) : cv G ρ' x = cv G ρ x := by
  obtain ⟨t, z⟩ := x
  match t, hx with
  | 0, _ => rfl
  | 1, _ => rfl
  | 2, hx =>
    show cvR ρ' z = cvR ρ z
    unfold cvR
    split
    · rfl
    · next hz => rw [h z hz hx.1 hx.2]
  | 3, _ => rfl
  | 4, _ => rfl
  | 5, _ => rfl
  | 6, _ => rfl
  | _ + 7, _ => rfl
/-- the tag of a class's field -/
def ftg (ci k : Nat) : Nat := match ci with
  | 0 => 2
  | 1 => if k = 0 then 1 else if k = 7 then 2 else 0
  | 2 => if k < 6 then 2 else 0
  | 3 => if k = 4 then 2 else 0
  | 4 => if k = 2 ∨ k = 4 ∨ k = 11 then 2 else 0
  | 5 => if k < 4 then 0 else 2
  | 6 => if k = 0 ∨ k = 3 ∨ k = 6 ∨ k = 7 ∨ k = 8 then 2 else 0
  | 7 => 0
  | 8 => if k = 6 then 2 else 0
  | 9 => if k = 0 then 2 else 0
  | 10 => if k = 0 then 2 else 0
  | _ => if k = 1 then 2 else 0
def nfl (ci : Nat) : Nat := match ci with
  | 0 => 1
  | 1 => 8
  | 2 => 8
  | 3 => 5
  | 4 => 13
  | 5 => 7
  | 6 => 9
  | 7 => 3
  | 8 => 7
  | 9 => 4
  | 10 => 4
  | _ => 3
/-- arrays: 0 byte, 1 int, 2 Object, 3 (none), 4 Sheet, 5 Plate, 6 Screen, 7 int[] -/
def etg (t : Nat) : Nat := match t with
  | 0 => 0
  | 1 => 0
  | 3 => 0
  | _ => 2
def ety (t : Nat) : FieldType := match t with
  | 0 => .byte
  | 1 => .int
  | 2 => .object "java/lang/Object"
  | 3 => .byte
  | 4 => .object "TonePlates$Sheet"
  | 5 => .object "TonePlates$Plate"
  | 6 => .object "TonePlates$Screen"
  | _ => .array .int
/-- the cell of an object of the class ci at number a -/
def isO (G : Gc) (ρ : Int → Nat) (μ : Mem) (H : Heap) (a : Int) (ci : Nat) : Prop :=
  t_OB (ρ a) ((gD G).1 ci) (nfl ci) ((gD G).2 ci) H (fun k => cv G ρ (ftg ci k, μ a k)) ∧ ∀ k : Nat, k < nfl ci → vok (bd μ) (ftg ci k, μ a k)
/-- the cell of an array -/
def isA (G : Gc) (ρ : Int → Nat) (μ : Mem) (H : Heap) (a : Int) (t : Nat) : Prop :=
  0 ≤ μ a (-2) ∧ μ a (-2) < 536870912 ∧ H[ρ a]? = some (arrV (gA G t) (μ a (-2)).toNat (fun k => cv G ρ (etg t, μ a k))) ∧ ∀ k : Nat, (k : Int) < μ a (-2) → vok (bd μ) (etg t, μ a k)
def okC (G : Gc) (ρ : Int → Nat) (μ : Mem) (H : Heap) (a : Int) : Prop :=
  (∃ ci : Nat, ci < 12 ∧ μ a (-1) = ci + 1 ∧ isO G ρ μ H a ci) ∨ (∃ t : Nat, t < 8 ∧ μ a (-1) = t + 20 ∧ isA G ρ μ H a t)
/-- the numbers of the run's own objects -/
def own (a : Int) : Prop := 0 < a ∨ a < -21
def GP (G : Gc) (ρ : Int → Nat) (μ : Mem) (H : Heap) : Prop :=
  (0 < μ 0 0 ∧ μ 0 3 < -21 ∧ ∀ k : Nat, 0 < k → k ≤ 21 → ρ (-(k : Int)) = gK G (100 + k)) ∧ μ 0 (-1) = 0 ∧ (∀ a, a ≠ 0 → μ 0 3 < a → a < μ 0 0 → ((own a → gB G ≤ ρ a) ∧ (¬ own a → ρ a < gB G)) ∧ okC G ρ μ H a) ∧ ∀ a b, own a → own b → μ 0 3 < a → a < μ 0 0 → μ 0 3 < b → b < μ 0 0 → ρ a = ρ b → a = b
theorem okC.lt {G : Gc} {ρ : Int → Nat} {μ : Mem} {H : Heap} {a : Int} (h : okC G ρ μ H a) : ρ a < H.size := by
  rcases h with ⟨ci, -, -, ⟨cell, h1, -⟩, -⟩ | ⟨t, -, -, -, -, h1, -⟩
  · exact (Array.getElem?_eq_some_iff.mp h1).1
  · exact (Array.getElem?_eq_some_iff.mp h1).1
theorem okC.kept {G : Gc} {ρ : Int → Nat} {μ : Mem} {H H1 : Heap} {a : Int} (h : okC G ρ μ H a) (hq : H1[ρ a]? = H[ρ a]?) : okC G ρ μ H1 a := by
  rcases h with ⟨ci, h1, h2, h3, h4⟩ | ⟨t, h1, h2, h3, h5, h4, h6⟩
  · exact Or.inl ⟨ci, h1, h2, h3.kept hq, h4⟩
  · exact Or.inr ⟨t, h1, h2, h3, h5, by rw [hq]; exact h4, h6⟩
theorem GP.kept {G : Gc} {ρ : Int → Nat} {μ : Mem} {H H1 : Heap} (h : GP G ρ μ H) (hq : ∀ q : Nat, q < H.size → H1[q]? = H[q]?) : GP G ρ μ H1 :=
  ⟨h.1, h.2.1, fun a h0 h1 h2 => ⟨(h.2.2.1 a h0 h1 h2).1, (h.2.2.1 a h0 h1 h2).2.kept (hq _ (h.2.2.1 a h0 h1 h2).2.lt)⟩, h.2.2.2⟩
/-- a number with a kind is one of the made ones -/
theorem GP.in {G : Gc} {ρ : Int → Nat} {μ : Mem} {H : Heap} (h : GP G ρ μ H) {a : Int} (hv : vok (bd μ) (2, a)) (hk : μ a (-1) ≠ 0) : a ≠ 0 ∧ μ 0 3 < a ∧ a < μ 0 0 :=
  ⟨fun e => by rw [e] at hk; exact hk h.2.1, hv.1, hv.2⟩
theorem GP.obj {G : Gc} {ρ : Int → Nat} {μ : Mem} {H : Heap} (h : GP G ρ μ H) {a : Int} {ci : Nat} (hv : vok (bd μ) (2, a)) (hc : ci < 12) (hk : μ a (-1) = ci + 1) : a ≠ 0 ∧ (μ 0 3 < a ∧ a < μ 0 0) ∧ (own a → gB G ≤ ρ a) ∧ isO G ρ μ H a ci := by
  obtain ⟨h1, h2⟩ := h.in hv (by omega)
  obtain ⟨h3, h4⟩ := h.2.2.1 a h1 h2.1 h2.2
  refine ⟨h1, h2, h3.1, ?_⟩
  rcases h4 with ⟨c2, -, e, h5⟩ | ⟨t, _, e, -⟩
  · have : c2 = ci := by omega
    rw [← this]
    exact h5
  · omega
theorem GP.arr {G : Gc} {ρ : Int → Nat} {μ : Mem} {H : Heap} (h : GP G ρ μ H) {a : Int} {t : Nat} (hv : vok (bd μ) (2, a)) (hk : μ a (-1) = t + 20) : a ≠ 0 ∧ (μ 0 3 < a ∧ a < μ 0 0) ∧ (own a → gB G ≤ ρ a) ∧ isA G ρ μ H a t := by
  obtain ⟨h1, h2⟩ := h.in hv (by omega)
  obtain ⟨h3, h4⟩ := h.2.2.1 a h1 h2.1 h2.2
  refine ⟨h1, h2, h3.1, ?_⟩
  rcases h4 with ⟨c2, _, e, h5⟩ | ⟨t2, _, e, h5⟩
  · omega
  · have : t2 = t := by omega
    rw [← this]
    exact h5
theorem cvR_pos {ρ : Int → Nat} {a : Int} (h : a ≠ 0) : cvR ρ a = .ref (ρ a) := by
  unfold cvR
  rw [if_neg h]
/-- another number in use lies elsewhere than an own one -/
theorem GP.ne {G : Gc} {ρ : Int → Nat} {μ : Mem} {H : Heap} (h : GP G ρ μ H) {a b : Int} (ha : own a) (han : μ 0 3 < a ∧ a < μ 0 0) (hb0 : b ≠ 0) (hb : μ 0 3 < b ∧ b < μ 0 0) (hba : b ≠ a) : ρ b ≠ ρ a := fun e => by
  by_cases ho : own b
  · exact hba (h.2.2.2 b a ho ha hb.1 hb.2 han.1 han.2 e)
  · have h1 := (h.2.2.1 b hb0 hb.1 hb.2).1.2 ho
    have h2 := (h.2.2.1 a (by unfold own at ha; omega) han.1 han.2).1.1 ha
    omega
/-- one row of a cell is written, the cell's address alone changes -/
theorem GP.put {G : Gc} {ρ : Int → Nat} {μ : Mem} {H H1 : Heap} (h : GP G ρ μ H) {a k v : Int} (ho : own a) (han : μ 0 3 < a ∧ a < μ 0 0) (hk : 0 ≤ k) (hq : ∀ q : Nat, q ≠ ρ a → H1[q]? = H[q]?) (hc : okC G ρ (mUp μ a k v) H1 a) : GP G ρ (mUp μ a k v) H1 := by
  have ha : a ≠ 0 := by unfold own at ho; omega
  have e00 : mUp μ a k v 0 0 = μ 0 0 := mUp_ne μ v (by omega)
  have e03 : mUp μ a k v 0 3 = μ 0 3 := mUp_ne μ v (by omega)
  have e1 : mUp μ a k v 0 (-1) = μ 0 (-1) := mUp_ne μ v (by omega)
  have eb : bd (mUp μ a k v) = bd μ := by unfold bd; rw [e00, e03]
  refine ⟨⟨by rw [e00]; exact h.1.1, by rw [e03]; exact h.1.2.1, h.1.2.2⟩, by rw [e1]; exact h.2.1, fun b hb0 hb hbn => ?_, fun b c hb hc h1 h2 h3 h4 => ?_⟩
  · rw [e00] at hbn
    rw [e03] at hb
    refine ⟨(h.2.2.1 b hb0 hb hbn).1, ?_⟩
    by_cases hba : b = a
    · rw [hba]; exact hc
    · have hne : ρ b ≠ ρ a := h.ne ho han hb0 ⟨hb, hbn⟩ hba
      have h0 := ((h.2.2.1 b hb0 hb hbn).2).kept (hq (ρ b) hne)
      have er : ∀ j, mUp μ a k v b j = μ b j := fun j => mUp_ne μ v (fun e => hba e.1)
      rcases h0 with ⟨ci, h1, h2, h3, h4⟩ | ⟨t, h1, h2, h3, h5, h4, h6⟩
      · refine Or.inl ⟨ci, h1, by rw [er]; exact h2, ?_, fun j hj => ?_⟩
        · simp only [er]
          exact h3
        · rw [er, eb]
          exact h4 j hj
      · refine Or.inr ⟨t, h1, by rw [er]; exact h2, by rw [er]; exact h3, by rw [er]; exact h5, ?_, fun j hj => ?_⟩
        · simp only [er]
          exact h4
        · rw [er] at hj
          rw [er, eb]
          exact h6 j hj
  · rw [e00] at h2 h4
    rw [e03] at h1 h3
    exact h.2.2.2 b c hb hc h1 h2 h3 h4
/-! what the text of a method is made of -/
def CLX (r : Rz) (K : Int → Mem → Rz) (X : Int → Int → Mem → Rz) : Rz := match r with
  | none => none
  | some (x, v, μ) => if x = 0 then K v μ else X x v μ
/-- an exception goes on -/
abbrev CL (r : Rz) (K : Int → Mem → Rz) : Rz := CLX r K (fun x v μ => some (x, v, μ))
/-- no exception may come -/
abbrev CLZ (r : Rz) (K : Int → Mem → Rz) : Rz := CLX r K (fun _ _ _ => none)
def GF (ci k a : Int) (μ : Mem) (K : Int → Rz) : Rz := if μ a (-1) = ci + 1 then K (μ a k) else none
def PF (ci k a v : Int) (μ : Mem) (K : Mem → Rz) : Rz := if (0 < a ∨ a < -21) ∧ μ a (-1) = ci + 1 then K (mUp μ a k v) else none
def PZ (ci k a v : Int) (μ : Mem) (K : Mem → Rz) : Rz := if (0 < a ∨ a < -21) ∧ μ a (-1) = ci + 1 ∧ (v = 0 ∨ v = 1) then K (mUp μ a k v) else none
def AL (t a i : Int) (μ : Mem) (K : Int → Rz) : Rz := if μ a (-1) = t + 20 ∧ 0 ≤ i ∧ i < μ a (-2) then K (μ a i) else none
def AS (t a i v : Int) (μ : Mem) (K : Mem → Rz) : Rz := if (0 < a ∨ a < -21) ∧ μ a (-1) = t + 20 ∧ 0 ≤ i ∧ i < μ a (-2) then K (mUp μ a i v) else none
def ASB (a i v : Int) (μ : Mem) (K : Mem → Rz) : Rz := if (0 < a ∨ a < -21) ∧ μ a (-1) = 20 ∧ 0 ≤ i ∧ i < μ a (-2) then K (mUp μ a i (w8 v)) else none
/-- an object of any kind, or null, into an Object[] -/
def ASO (a i v : Int) (μ : Mem) (K : Mem → Rz) : Rz := if (0 < a ∨ a < -21) ∧ μ a (-1) = 22 ∧ 0 ≤ i ∧ i < μ a (-2) ∧ μ v (-1) ≠ 0 then K (mUp μ a i v) else none
def ASR (t ci a i v : Int) (μ : Mem) (K : Mem → Rz) : Rz := if (0 < a ∨ a < -21) ∧ μ a (-1) = t + 20 ∧ 0 ≤ i ∧ i < μ a (-2) ∧ μ v (-1) = ci + 1 then K (mUp μ a i v) else none
def LN (t a : Int) (μ : Mem) (K : Int → Rz) : Rz := if μ a (-1) = t + 20 then K (μ a (-2)) else none
def KD (ci a : Int) (μ : Mem) (r : Rz) : Rz := if μ a (-1) = ci + 1 then r else none
def DV (a b : Int) (K : Int → Rz) : Rz := if b = 0 then none else K (w32 (a.tdiv b))
def RM (a b : Int) (K : Int → Rz) : Rz := if b = 0 then none else K (a.tmod b)
def LD (a b : Int) (K : Int → Rz) : Rz := if b = 0 then none else K (w64 (a.tdiv b))
def mNew (μ : Mem) (kd len sz : Int) : Mem := fun a k => if a = μ 0 0 then (if k = -1 then kd else if k = -2 then len else 0) else if a = 0 ∧ k = 0 then μ 0 0 + 1 else if a = 0 ∧ k = 1 then μ 0 1 + 1 else if a = 0 ∧ k = 2 then μ 0 2 + sz else μ a k
def NW (ci n : Int) (μ : Mem) (K : Int → Mem → Rz) : Rz := if 0 < μ 0 0 then K (μ 0 0) (mNew μ (ci + 1) 0 n) else none
/-- made by the law -/
def mNewN (μ : Mem) (kd len sz : Int) : Mem := fun a k => if a = μ 0 3 then (if k = -1 then kd else if k = -2 then len else 0) else if a = 0 ∧ k = 3 then μ 0 3 - 1 else if a = 0 ∧ k = 1 then μ 0 1 + 1 else if a = 0 ∧ k = 2 then μ 0 2 + sz else μ a k
def NWn (ci n : Int) (μ : Mem) (K : Int → Mem → Rz) : Rz := if μ 0 3 < -21 then K (μ 0 3) (mNewN μ (ci + 1) 0 n) else none
def NAn (t n : Int) (μ : Mem) (K : Int → Mem → Rz) : Rz := if μ 0 3 < -21 ∧ 0 ≤ n ∧ n < 100000 then K (μ 0 3) (mNewN μ (t + 20) n n) else none
def PB (ci k a v : Int) (μ : Mem) (K : Mem → Rz) : Rz := if (0 < a ∨ a < -21) ∧ μ a (-1) = ci + 1 ∧ (v = 0 ∨ v = 1) then K (mUp μ a k v) else none
/-- a cast: null goes through, or the object is of the kind kd -/
def CC (kd a : Int) (μ : Mem) (r : Rz) : Rz := if a = 0 ∨ μ a (-1) = kd then r else none
/-- two references are one: own ones, or the empty array -/
def AQ (a b : Int) (r1 r2 : Rz) : Rz := if ((0 < a ∨ a < -21) ∨ a = -1) ∧ ((0 < b ∨ b < -21) ∨ b = -1) then (if a = b then r1 else r2) else none
def NU (μ : Mem) (r : Rz) : Rz := if 0 < μ 0 0 then r else none
def NA (t n : Int) (μ : Mem) (K : Int → Mem → Rz) : Rz := if 0 < μ 0 0 ∧ 0 ≤ n ∧ n < 100000 then K (μ 0 0) (mNew μ (t + 20) n n) else none
def mThr (μ : Mem) : Mem := fun a k => if a = 0 ∧ k = 1 then μ 0 1 + 1 else if a = 0 ∧ k = 2 then μ 0 2 + 6 else μ a k
def TH (x : Int) (μ : Mem) : Rz := some (x, 0, mThr μ)
def RT (v : Int) (μ : Mem) : Rz := some (0, v, μ)
def dOk (u : UInt64) : Bool := decide (u &&& 0x7fffffffffffffff ≤ 0x7ff0000000000000)
def fOk (u : UInt32) : Bool := decide (u &&& 0x7fffffff ≤ 0x7f800000)
def DD (a b : Int) (K : Int → Rz) : Rz := if dOk (FP.ddiv (dBits a) (dBits b)) = true then K (dDiv a b) else none
def FD (a b : Int) (K : Int → Rz) : Rz := if fOk (FP.fdiv (fBits a) (fBits b)) = true then K (fDiv a b) else none
def DF (a : Int) (K : Int → Rz) : Rz := if dOk (FP.f2d (fBits a)) = true then K (dOfF a) else none
/-- a switch from the number lo on -/
def SW (x lo : Int) (rs : List Rz) (d : Rz) : Rz := match rs with
  | [] => d
  | r :: rs => if x = lo then r else SW x (lo + 1) rs d
end
section
/-! words that the methods' texts are made of -/
/-- the letters of the words, by their numbers -/
def wBytes (i : Nat) : List Int := match i with
  | 0 => [112, 105, 99, 116, 117, 114, 101]
  | 1 => [116, 111, 110, 101, 115]
  | 2 => [112, 108, 97, 116, 101]
  | 3 => [105, 110, 107]
  | 4 => [108, 105, 109, 105, 116]
  | 5 => [99, 117, 114, 118, 101]
  | 6 => [116, 111, 110, 101]
  | 7 => [120]
  | 8 => [121]
  | 9 => [114, 111, 117, 110, 100]
  | 10 => [108, 105, 110, 101]
  | 11 => [100, 105, 97, 109, 111, 110, 100]
  | _ => [115, 113, 117, 97, 114, 101]
def mCpy (μ : Mem) (src sp dst dp n : Int) : Mem := fun a k => if a = dst ∧ dp ≤ k ∧ k < dp + n then μ src (sp + (k - dp)) else μ a k
def ACP (src sp dst dp n : Int) (μ : Mem) (K : Mem → Rz) : Rz := if 0 < dst ∧ src ≠ dst ∧ μ src (-1) = 21 ∧ μ dst (-1) = 21 ∧ 0 ≤ sp ∧ 0 ≤ dp ∧ 0 ≤ n ∧ sp + n ≤ μ src (-2) ∧ dp + n ≤ μ dst (-2) then K (mCpy μ src sp dst dp n) else none
/-- new int[4][192] -/
def mMul (μ : Mem) : Mem := fun a k => if a = μ 0 0 then (if k = -1 then 27 else if k = -2 then 4 else if 0 ≤ k ∧ k < 4 then μ 0 0 + 1 + k else 0) else if μ 0 0 < a ∧ a ≤ μ 0 0 + 4 then (if k = -1 then 21 else if k = -2 then 192 else 0) else if a = 0 ∧ k = 0 then μ 0 0 + 5 else if a = 0 ∧ k = 1 then μ 0 1 + 5 else if a = 0 ∧ k = 2 then μ 0 2 + 772 else μ a k
def NM (n k : Int) (μ : Mem) (K : Int → Mem → Rz) : Rz := if 0 < μ 0 0 ∧ n = 4 ∧ k = 192 then K (μ 0 0) (mMul μ) else none
def RTZ (v : Int) (μ : Mem) : Rz := if v = 0 ∨ v = 1 then some (0, v, μ) else none
def RTC (v : Int) (μ : Mem) : Rz := if 0 ≤ v ∧ v < 65536 then some (0, v, μ) else none
def RTB (v : Int) (μ : Mem) : Rz := if -128 ≤ v ∧ v < 128 then some (0, v, μ) else none
def LT (z : Int) (K : Int → Rz) : Rz := K z
/-- more rounds than any loop takes -/
def FU : Nat := 20000
def strLen (i : Int) : Int := ((wBytes i.toNat).length : Int)
def strCh (i j : Int) : Int := (wBytes i.toNat).getD j.toNat 0
def STL (i : Int) (K : Int → Rz) : Rz := if 0 ≤ i ∧ i < 13 then K (strLen i) else none
def STC (i j : Int) (K : Int → Rz) : Rz := if (0 ≤ i ∧ i < 13) ∧ 0 ≤ j ∧ j < strLen i then K (strCh i j) else none
def RTL (v : Int) (μ : Mem) : Rz := if v = 1 then some (0, v, μ) else none
/-- the bytes of the law's String constants, by their numbers -/
def fBytes (i : Nat) : List Int := match i with
  | 0 => [114, 111, 117, 110, 100]
  | 1 => [108, 105, 110, 101]
  | 2 => [100, 105, 97, 109, 111, 110, 100]
  | 3 => [115, 113, 117, 97, 114, 101]
  | 4 => [112, 105, 99, 116, 117, 114, 101, 32]
  | 5 => [32]
  | 6 => [59, 108, 105, 109, 105, 116, 32]
  | 7 => [59, 116, 111, 110, 101, 115]
  | _ => [112, 108, 97, 116, 101, 32]
/-- System.arraycopy of bytes -/
def ACK (src sp dst dp n : Int) (μ : Mem) (K : Mem → Rz) : Rz := if (0 < dst ∨ dst < -21) ∧ μ src (-1) = 20 ∧ μ dst (-1) = 20 ∧ 0 ≤ sp ∧ 0 ≤ dp ∧ 0 ≤ n ∧ sp + n ≤ μ src (-2) ∧ dp + n ≤ μ dst (-2) then K (mCpy μ src sp dst dp n) else none
/-- what an Object[] may hold here: null, a Place, the law's Screen -/
def isEl (μ : Mem) (z : Int) : Bool := decide (z = 0 ∨ μ z (-1) = 8 ∨ μ z (-1) = 9)
/-- System.arraycopy of references -/
def ACQ (src sp dst dp n : Int) (μ : Mem) (K : Mem → Rz) : Rz := if (0 < dst ∨ dst < -21) ∧ μ src (-1) = 22 ∧ μ dst (-1) = 22 ∧ (0 ≤ sp ∧ 0 ≤ dp ∧ 0 ≤ n ∧ sp + n ≤ μ src (-2) ∧ dp + n ≤ μ dst (-2)) ∧ (List.range n.toNat).all (fun j => isEl μ (μ src (sp + j))) = true then K (mCpy μ src sp dst dp n) else none
/-- a byte[] that is cloned -/
def mCln (μ : Mem) (a : Int) : Mem := fun b k => if b = μ 0 3 then μ a k else if b = 0 ∧ k = 3 then μ 0 3 - 1 else if b = 0 ∧ k = 1 then μ 0 1 + 1 else if b = 0 ∧ k = 2 then μ 0 2 + μ a (-2) else μ b k
def CLN (a : Int) (μ : Mem) (K : Int → Mem → Rz) : Rz := if μ 0 3 < -21 ∧ μ a (-1) = 20 then K (μ 0 3) (mCln μ a) else none
/-- new int[h][w], made by the law -/
def mMulN (μ : Mem) (h w : Int) : Mem := fun a k => if a = μ 0 3 then (if k = -1 then 27 else if k = -2 then h else if 0 ≤ k ∧ k < h then μ 0 3 - 1 - k else 0) else if μ 0 3 - h ≤ a ∧ a < μ 0 3 then (if k = -1 then 21 else if k = -2 then w else 0) else if a = 0 ∧ k = 3 then μ 0 3 - 1 - h else if a = 0 ∧ k = 1 then μ 0 1 + 1 + h else if a = 0 ∧ k = 2 then μ 0 2 + h + h * w else μ a k
def NMn (h w : Int) (μ : Mem) (K : Int → Mem → Rz) : Rz := if μ 0 3 < -21 ∧ (1 ≤ h ∧ h ≤ 100) ∧ 1 ≤ w ∧ w ≤ 100 then K (μ 0 3) (mMulN μ h w) else none
/-- an index that is tested -/
def CHK (i n : Int) (r : Rz) : Rz := if 0 ≤ i ∧ i < n then r else none
end
section
/-! what a method's walk rests on besides the small memory: the tables' words, the classes, statics and string constants of the start -/
/-- private methods of AbstractStringBuilder, called on a StringBuilder: what the tables' words give of them -/
def lw_sub : List Cond := [.selects RJ4 yJ5_ensureCapacityInternal_d00df yJ5_ensureCapacityInternal_d00df, .selects RJ4 yJ5_newCapacity_0f7a4 yJ5_newCapacity_0f7a4, .selects RJ4 yJ5_putStringAt_47b60 yJ5_putStringAt_47b60, .selects RJ4 yJ5_inflateIfNeededFor_a7421 yJ5_inflateIfNeededFor_a7421]
def lw_all : List Cond := (lw_sub ++ lw_tbl).filter goodWord
theorem lw_allOf {w : Cond} (h : w ∈ lw_tbl) (g : goodWord w = true) : w ∈ lw_all := List.mem_filter.mpr ⟨List.mem_append_right _ h, g⟩
theorem lw_allSub {w : Cond} (h : w ∈ lw_sub) (g : goodWord w = true) : w ∈ lw_all := List.mem_filter.mpr ⟨List.mem_append_left _ h, g⟩
theorem lw_all_tbl {w : Cond} (h : w ∈ lw_all) : w ∈ lw_sub ∨ w ∈ lw_tbl := List.mem_append.mp (List.mem_filter.mp h).1
theorem lw_all_good {w : Cond} (h : w ∈ lw_all) : goodWord w = true := (List.mem_filter.mp h).2
theorem good_all {c0 c1 : Cond} (h : c1 ∈ lw_all) : GoodIn lw_all (c1 :: lw_all) := fun w hw => by
  have hm : w ∈ lw_all := by
    rcases List.mem_cons.mp hw with e | e
    · rw [e]; exact h
    · exact e
  exact ⟨hm, good_of_word (lw_all_good hm)⟩
theorem good_app {l : List Cond} {c1 : Cond} (hl : ∀ w ∈ l, w ∈ lw_all) (h : c1 ∈ lw_all) : GoodIn lw_all (l ++ (c1 :: lw_all)) := fun w hw => by
  rcases List.mem_append.mp hw with e | e
  · exact ⟨hl w e, good_of_word (lw_all_good (hl w e))⟩
  · exact good_all (c0 := c1) h w e
/-- the links of nest mates -/
def lw_nest : List Cond := [.methodLinkNest RX2 44 yX3_init "TonePlates", .methodLinkNest RX6 41 yX4_init "TonePlates", .methodLinkNest RX5 37 yX1_init "TonePlates", .methodLinkNest RX0 23 yX6_limited "TonePlates", .methodLinkNest RX3 46 yX6_remainder "TonePlates", .methodLinkNest RX4 129 yX6_packedName "TonePlates"]
def lw_cast : List (String × String) := [("java/lang/IllegalArgumentException", "java/lang/IllegalArgumentException"), ("java/lang/IndexOutOfBoundsException", "java/lang/IndexOutOfBoundsException"), ("[B", "java/lang/Cloneable"), ("TonePlatesLaw$Place", "java/lang/Object"), ("TonePlatesLaw$Screen", "java/lang/Object")]
def lw_decl : List MethodName := [Bundle.initS "java/lang/RuntimeException", Bundle.initS "java/lang/Exception", Bundle.initS Bundle.tN]
def msgs : List (String × Nat × String) := [("TonePlates", 83, "what is 0 to 8"), ("TonePlates", 279, "no such cell"), ("TonePlates", 232, "the rectangle does not lie within the picture"), ("TonePlates", 234, "tone is 0 to 100"), ("TonePlates", 276, "no such plate"), ("TonePlates", 241, "shape is 0 to 3"), ("TonePlates", 243, "dx and dy are 0 to 17"), ("TonePlates", 245, "dots is 1 to 4"), ("TonePlates", 272, "the buffer has not so many bytes"), ("TonePlates", 181, "what is 0 to 4")]
/-- the words of the parsers: class, entry, text, number of the text -/
def wrds : List (String × Nat × String × Nat) := [("TonePlates$SetupReader", 66, "picture", 0), ("TonePlates$SetupReader", 89, "tones", 1), ("TonePlates$SetupReader", 94, "plate", 2), ("TonePlates$SetupReader", 197, "round", 9), ("TonePlates$SetupReader", 199, "line", 10), ("TonePlates$SetupReader", 201, "diamond", 11), ("TonePlates$SetupReader", 203, "square", 12), ("TonePlates$SetupReader", 141, "curve", 5), ("TonePlates$SetupReader", 191, "tone", 6), ("TonePlates$SetupReader", 193, "x", 7), ("TonePlates$SetupReader", 195, "y", 8), ("TonePlates$SetupReader", 99, "ink", 3), ("TonePlates$SetupReader", 104, "limit", 4)]
/-- the law's own String constants: class, entry, text, number (without its sign) -/
def lwds : List (String × Nat × String × Nat) := [("TonePlatesLaw", 34, "round", 2), ("TonePlatesLaw", 36, "line", 4), ("TonePlatesLaw", 38, "diamond", 6), ("TonePlatesLaw", 40, "square", 8), ("TonePlatesLaw", 92, "picture ", 10), ("TonePlatesLaw", 100, " ", 12), ("TonePlatesLaw", 102, ";limit ", 14), ("TonePlatesLaw", 104, ";tones", 16), ("TonePlatesLaw", 129, "plate ", 18)]
def tysG (G : Gc) : List (ClassId × FieldType) := [(gA G 0, ety 0), (gA G 1, ety 1), (gA G 2, ety 2), (gA G 3, ety 3), (gA G 4, ety 4), (gA G 5, ety 5), (gA G 6, ety 6), (gA G 7, ety 7)]
theorem tysG_at (G : Gc) {t : Nat} (h : t < 8) : (tysG G)[t]? = some (gA G t, ety t) := by
  match t, h with
  | 0, _ => rfl
  | 1, _ => rfl
  | 2, _ => rfl
  | 3, _ => rfl
  | 4, _ => rfl
  | 5, _ => rfl
  | 6, _ => rfl
  | 7, _ => rfl
  | t + 8, h => omega
/-- the classes of the small memory, in its order -/
abbrev vwC : List vw_C := [(RX0, TX0, 1), (RX1, TX1, 8), (RX2, TX2, 8), (RX3, TX3, 5), (RX4, TX4, 13), (RX5, TX5, 7), (RX6, TX6, 9), (RX7, TX7, 3), (RX8, TX8, 7), (RJ0, TJ0, 4), (RJ4, TJ4, 4), (RJx4a65c, TJx4a65c, 3)]
def bA (G : Gc) : Nat → Prop := fun q => gB G ≤ q
def va_AOI (U : State) : Prop := (Cond.arrayOver (.array .int)).before #[] U = true
theorem va_AOI.use {A : Array Value} {U : State} (h : va_AOI U) : (Cond.arrayOver (.array .int)).before A U = true := h
theorem va_AOI.moved {u U : State} (hvm : u.vm.Alike U.vm) (h : va_AOI u) : va_AOI U := by
  have h1 : (Cond.arrayOver (.array .int)).before #[] (u.setVm U.vm) = true := by
    rw [Cond.arrayOver_setVmC hvm]
    exact h
  exact h1
/-- the string constants, 13 of them, and their values behind them -/
def StrP (G : Gc) (s : State) (H : Heap) : Prop := ∀ i : Nat, i < 13 → va_O "java/lang/String" (gK G i) (bA G) s H ∧ va_OF "java/lang/String" "coder" "B" (.int 0) (gK G i) (bA G) s H ∧ va_OF "java/lang/String" "value" "[B" (.ref (gK G (i + 13))) (gK G i) (bA G) s H ∧ va_T .byte (gK G (i + 13)) (wBytes i).length (fun j => .int (Int32.ofInt ((wBytes i).getD j 0))) (bA G) s H
def CxP (G : Gc) (s : State) : Prop :=
  (va_K (gD G) vwC (tysG G) s ∧ gB G ≤ s.heap.size) ∧
  (vx_Zq Bundle.tN "UNASSIGNED_STACK" Bundle.steD (bA G) s s.heap ∧ vx_Zq Bundle.tN "SUPPRESSED_SENTINEL" Bundle.listD (bA G) s s.heap) ∧
  (va_Z "java/lang/String" "COMPACT_STRINGS" "Z" (.int 1) (bA G) s s.heap ∧ va_Z "jdk/internal/util/Preconditions" "SIOOBE_FORMATTER" "Ljava/util/function/BiFunction;" (va_rf (gO G)) (bA G) s s.heap ∧ va_Z "java/util/ArrayList" "DEFAULTCAPACITY_EMPTY_ELEMENTDATA" "[Ljava/lang/Object;" (.ref (gK G 101)) (bA G) s s.heap ∧ va_Z "java/lang/Integer" "DigitOnes" "[B" (.ref (gK G 120)) (bA G) s s.heap) ∧
  StrP G s s.heap ∧
  (∀ q ∈ wrds, vk_R q.1 q.2.1 q.2.2.1 (gK G q.2.2.2) s) ∧ (∀ q ∈ msgs, ∃ sa, vk_R q.1 q.2.1 q.2.2 sa s) ∧
  (∀ w ∈ lw_nest, va_Nw w s) ∧ (∀ q ∈ lw_cast, va_Nw (.castable q.1 q.2) s) ∧ (∀ q ∈ lwds, vk_R q.1 q.2.1 q.2.2.1 (gK G (100 + q.2.2.2)) s) ∧
  (va_AO "TonePlates$Sheet" s ∧ va_AO "TonePlates$Plate" s ∧ va_AO "TonePlates$Screen" s ∧ va_AOI s ∧ (∀ x ∈ lw_decl, va_Nw (.declares x) s) ∧ va_AO "java/lang/Object" s ∧ va_Mi "[Ljava/lang/Object;" (gK G 27) s ∧ va_Dc s)
theorem CxP.warm {G : Gc} {s U : State} (hW : s.WarmedH U.vm) (hsz : s.heap.size ≤ U.heap.size) (hq : ∀ q : Nat, q < s.heap.size → ¬ bA G q → U.heap[q]? = s.heap[q]?) (h : CxP G s) : CxP G U := by
  have hvm := hW.alike
  obtain ⟨⟨a1, a2⟩, ⟨b1, b2⟩, ⟨c1, c2, c3, c4⟩, d, e, f, g, i, j, k1, k2, k3, k4, k5, k6, k7, k8⟩ := h
  refine ⟨⟨a1.moved hvm, Nat.le_trans a2 hsz⟩, ⟨(b1.moved hvm).kept hq, (b2.moved hvm).kept hq⟩, ⟨(c1.moved hvm).kept hq, (c2.moved hvm).kept hq, (c3.moved hvm).kept hq, (c4.moved hvm).kept hq⟩, fun n hn => ?_, fun q hq => (e q hq).warm hW, fun q hq => ?_, fun w hw => ?_, fun q hq => (i q hq).warmC hW, fun q hq => (j q hq).warm hW, k1.moved hvm, k2.moved hvm, k3.moved hvm, k4.moved hvm, fun x hx => (k5 x hx).warmD hW, k6.moved hvm, k7.moved hvm, k8.moved hvm⟩
  · obtain ⟨d1, d2, d3, d4⟩ := d n hn
    exact ⟨(d1.moved hvm).kept hq, (d2.moved hvm).kept hq, (d3.moved hvm).kept hq, (d4.moved hvm).kept hq⟩
  · obtain ⟨sa, h1⟩ := f q hq
    exact ⟨sa, h1.warm hW⟩
  · have h1 := g w hw
    unfold lw_nest at hw
    simp only [List.mem_cons, List.not_mem_nil, or_false] at hw
    rcases hw with rfl | rfl | rfl | rfl | rfl | rfl <;> exact h1.warmM hW
theorem CxP.call {G : Gc} {U : State} {g : JFrame} {mk : MethodId} {a : Array Value} (h : CxP G U) : CxP G (U.calling g mk a) :=
  CxP.warm (s := U) (U := U.calling g mk a) (State.WarmedH.refl U) (Nat.le_refl _) (fun _ _ _ => rfl) h
/-! the judgement V: from pc, with the named locals and the stack, over the small memory μ, the method comes to the result r -/
abbrev Gam : Type := Program × Launch × Env × Room × State × MethodId × Array Value × List Frame × Method × Code × (Int → Int → Mem → State → Prop) × Gc × (Int → Nat) × Mem
/-- of a method: its class, code, locals, depth of calls, the tag of its answer (9 nothing, 10 the law's own), its type, whether it is a constructor, its table of handlers -/
abbrev Kap : Type := String × ByteArray × Nat × Nat × Nat × Option FieldType × Bool × List ExceptionTableEntry
abbrev kW (κ : Kap) : String := κ.1
abbrev kC (κ : Kap) : ByteArray := κ.2.1
abbrev kN (κ : Kap) : Nat := κ.2.2.1
abbrev kD (κ : Kap) : Nat := κ.2.2.2.1
abbrev kR (κ : Kap) : Nat := κ.2.2.2.2.1
abbrev kT (κ : Kap) : Option FieldType := κ.2.2.2.2.2.1
abbrev kI (κ : Kap) : Bool := κ.2.2.2.2.2.2.1
abbrev kH (κ : Kap) : List ExceptionTableEntry := κ.2.2.2.2.2.2.2
def excN (x : Int) : String := if x = 1 then "java/lang/IndexOutOfBoundsException" else if x = 2 then "java/lang/IllegalArgumentException" else if x = 3 then "java/lang/IllegalStateException" else "java/util/NoSuchElementException"
def rvO (G : Gc) (ρ : Int → Nat) (rt : Nat) (v : Int) : Option Value := if rt = 9 then none else some (cv G ρ (rt, v))
def QcF (G : Gc) (ρ0 : Int → Nat) (μ0 : Mem) (rt : Nat) (x v : Int) (μ' : Mem) : Array Value → State → Outcome → State → Prop := fun _ st oc t => (x = 0 ∧ ∃ ρ' : Int → Nat, Ext (bd μ0) ρ0 ρ' ∧ oc = .returned (rvO G ρ' rt v) ∧ GP G ρ' μ' t.heap ∧ (rt ≠ 9 → vok (bd μ') (rt, v))) ∧ va_F (bA G) st t
def XcF (G : Gc) (ρ0 : Int → Nat) (μ0 : Mem) (x : Int) (μ' : Mem) : String → State → State → Prop := fun E st t => (E = excN x ∧ x ≠ 0 ∧ ∃ ρ' : Int → Nat, Ext (bd μ0) ρ0 ρ' ∧ GP G ρ' μ' t.heap) ∧ va_F (bA G) st t
def QM (below : List Frame) (args : Array Value) (s : State) (G : Gc) (ρ0 : Int → Nat) (μ0 : Mem) (rt : Nat) : Int → Int → Mem → State → Prop := fun x v μ' => vx_MQ below (QcF G ρ0 μ0 rt x v μ') (XcF G ρ0 μ0 x μ') args s (μ' 0 1 - μ0 0 1).toNat (μ' 0 2 - μ0 0 2).toNat (bA G)
def Ok (Γ : Gam) (κ : Kap) : Prop := match Γ with
  | (p, l, e, R, s, m, args, below, meth, c, Q, G, ρ0, μ0) => p.tables.exec = Jvm.exec ∧ c.code = kC κ ∧ c.maxLocals = kN κ ∧ s.vm.findClass (kW κ) = some m.cls ∧ (∀ w ∈ lw_all, w.before args s = true) ∧ CxP G s ∧ meth.locks = false ∧ l.stackTraces = false ∧ kD κ ≤ R.frames ∧ 60 * kD κ ≤ R.locals ∧
    (kR κ ≠ 10 → Q = QM below args s G ρ0 μ0 (kR κ) ∧ meth.sig.returnType = kT κ) ∧ (kI κ = true → meth.name = "<init>") ∧ (kR κ ≠ 10 → c.exceptionTable.toList = kH κ)
def V (Γ : Gam) (κ : Kap) (pc : Nat) (lv : List (Nat × AV)) (st : List AV) (μ : Mem) (r : Rz) : Prop := match Γ with
  | (p, l, e, R, s, m, args, below, meth, c, Q, G, ρ0, μ0) => ∀ x v μ', r = some (x, v, μ') → (μ 0 0 ≤ μ' 0 0 ∧ μ 0 1 ≤ μ' 0 1 ∧ μ 0 2 ≤ μ' 0 2 ∧ μ' 0 3 ≤ μ 0 3) ∧
    (Ok (p, l, e, R, s, m, args, below, meth, c, Q, G, ρ0, μ0) κ → (μ0 0 0 ≤ μ 0 0 ∧ μ 0 3 ≤ μ0 0 3) → μ0 0 1 ≤ μ 0 1 → μ0 0 2 ≤ μ 0 2 → (μ' 0 1 - μ0 0 1).toNat ≤ R.cells → (μ' 0 2 - μ0 0 2).toNat ≤ R.slots →
      ∀ (ρ : Int → Nat) (H : Heap) (locs : List Loc) (ls : Array Slot), lv_has ls (kN κ) (lv.map fun q => (q.1, cv G ρ q.2)) → (∀ q ∈ lv, vok (bd μ) q.2) → (∀ q ∈ st, vok (bd μ) q) → GP G ρ μ H → va_S (fun q => gB G ≤ q) s.heap H locs → Ext (bd μ0) ρ0 ρ →
        W p l e R s m args below meth c H locs (μ 0 1 - μ0 0 1).toNat (μ 0 2 - μ0 0 2).toNat (Q x v μ') (F0 m pc ls (st.map (cv G ρ))))
end
section
/-! rows of the judgement V, one an instruction -/
def stv (i : Nat) (x : AV) (lv : List (Nat × AV)) : List (Nat × AV) := (i, x) :: lv.filter (fun q => !(q.1 == i) && !(q.1 + 1 == i && catA q.2.1 == 2))
def stw (i : Nat) (x : AV) (lv : List (Nat × AV)) : List (Nat × AV) := (i, x) :: lv.filter (fun q => !(q.1 == i) && (!(q.1 == i + 1) && !(q.1 + 1 == i && catA q.2.1 == 2)))
theorem stv_map (G : Gc) (ρ : Int → Nat) (i : Nat) (x : AV) (lv : List (Nat × AV)) : (i, cv G ρ x) :: (lv.map fun q => (q.1, cv G ρ q.2)).filter (fun q => !(q.1 == i) && !(q.1 + 1 == i && q.2.category == 2)) = (stv i x lv).map fun q => (q.1, cv G ρ q.2) := by
  unfold stv
  rw [List.map_cons, List.filter_map]
  congr 2
  refine List.filter_congr (fun q _ => ?_)
  simp only [Function.comp, cv_cat]
theorem stw_map (G : Gc) (ρ : Int → Nat) (i : Nat) (x : AV) (lv : List (Nat × AV)) : (i, cv G ρ x) :: (lv.map fun q => (q.1, cv G ρ q.2)).filter (fun q => !(q.1 == i) && (!(q.1 == i + 1) && !(q.1 + 1 == i && q.2.category == 2))) = (stw i x lv).map fun q => (q.1, cv G ρ q.2) := by
  unfold stw
  rw [List.map_cons, List.filter_map]
  congr 2
  refine List.filter_congr (fun q _ => ?_)
  simp only [Function.comp, cv_cat]
theorem stv_ok {i : Nat} {x : AV} {lv : List (Nat × AV)} {n : Int × Int} (hx : vok n x) (h : ∀ q ∈ lv, vok n q.2) : ∀ q ∈ stv i x lv, vok n q.2 := fun q hq => by
  rcases List.mem_cons.mp hq with e | e
  · rw [e]; exact hx
  · exact h q (List.mem_filter.mp e).1
theorem stw_ok {i : Nat} {x : AV} {lv : List (Nat × AV)} {n : Int × Int} (hx : vok n x) (h : ∀ q ∈ lv, vok n q.2) : ∀ q ∈ stw i x lv, vok n q.2 := fun q hq => by
  rcases List.mem_cons.mp hq with e | e
  · rw [e]; exact hx
  · exact h q (List.mem_filter.mp e).1
theorem lvm_at {G : Gc} {ρ : Int → Nat} {lv : List (Nat × AV)} {j i : Nat} {x : AV} (h : lv[j]? = some (i, x)) : (lv.map fun q => (q.1, cv G ρ q.2))[j]? = some (i, cv G ρ x) := by
  rw [List.getElem?_map, h]
  rfl
theorem lvm_ok {n : Int × Int} {lv : List (Nat × AV)} {j i : Nat} {x : AV} (h : lv[j]? = some (i, x)) (hl : ∀ q ∈ lv, vok n q.2) : vok n x := hl _ (List.mem_of_getElem? h)
theorem ok_cons {n : Int × Int} {x : AV} {st : List AV} (hx : vok n x) (h : ∀ q ∈ st, vok n q) : ∀ q ∈ x :: st, vok n q := fun q hq => by
  rcases List.mem_cons.mp hq with e | e
  · rw [e]; exact hx
  · exact h q e
theorem ok_tl {n : Int × Int} {x : AV} {st : List AV} (h : ∀ q ∈ x :: st, vok n q) : ∀ q ∈ st, vok n q := fun q hq => h q (List.mem_cons_of_mem _ hq)
theorem ok_hd {n : Int × Int} {x : AV} {st : List AV} (h : ∀ q ∈ x :: st, vok n q) : vok n x := h x List.mem_cons_self
section VROWS
variable {Γ : Gam} {κ : Kap} {pc : Nat} {lv : List (Nat × AV)} {st : List AV} {μ : Mem} {r r1 r2 : Rz}
/-- nothing but the stack and the locals moves -/
theorem V_pure {pc' : Nat} {lv' : List (Nat × AV)} {st' : List AV}
    (h : match Γ with
      | (p, l, e, R, s, m, args, below, meth, c, Q, G, ρ0, μ0) => Ok (p, l, e, R, s, m, args, below, meth, c, Q, G, ρ0, μ0) κ → ∀ (ρ : Int → Nat) (H : Heap) (locs : List Loc) (ls : Array Slot) (ce sl : Nat) (Q' : State → Prop), lv_has ls (kN κ) (lv.map fun q => (q.1, cv G ρ q.2)) → (∀ q ∈ lv, vok (bd μ) q.2) → (∀ q ∈ st, vok (bd μ) q) → va_S (fun q => gB G ≤ q) s.heap H locs →
        (∀ ls' : Array Slot, lv_has ls' (kN κ) (lv'.map fun q => (q.1, cv G ρ q.2)) → W p l e R s m args below meth c H locs ce sl Q' (F0 m pc' ls' (st'.map (cv G ρ)))) → W p l e R s m args below meth c H locs ce sl Q' (F0 m pc ls (st.map (cv G ρ))))
    (hl : (∀ q ∈ lv, vok (bd μ) q.2) → (∀ q ∈ st, vok (bd μ) q) → ∀ q ∈ lv', vok (bd μ) q.2) (hs : (∀ q ∈ lv, vok (bd μ) q.2) → (∀ q ∈ st, vok (bd μ) q) → ∀ q ∈ st', vok (bd μ) q)
    (k : V Γ κ pc' lv' st' μ r) : V Γ κ pc lv st μ r := by
  obtain ⟨p, l, e, R, s, m, args, below, meth, c, Q, G, ρ0, μ0⟩ := Γ
  intro x v μ' hr
  obtain ⟨k1, k2⟩ := k x v μ' hr
  refine ⟨k1, fun O a1 a2 a3 a4 a5 ρ H locs ls b1 b2 b3 b4 b5 b6 => ?_⟩
  exact h O ρ H locs ls _ _ _ b1 b2 b3 b5 (fun ls' b1' => k2 O a1 a2 a3 a4 a5 ρ H locs ls' b1' (hl b2 b3) (hs b2 b3) b4 b5 b6)
/-- a branch -/
theorem V_br {q : Prop} [Decidable q] {pc1 pc2 : Nat} {st' : List AV}
    (h : match Γ with
      | (p, l, e, R, s, m, args, below, meth, c, Q, G, ρ0, μ0) => Ok (p, l, e, R, s, m, args, below, meth, c, Q, G, ρ0, μ0) κ → ∀ (ρ : Int → Nat) (H : Heap) (locs : List Loc) (ls : Array Slot) (ce sl : Nat) (Q' : State → Prop), (∀ q ∈ st, vok (bd μ) q) →
        (q → W p l e R s m args below meth c H locs ce sl Q' (F0 m pc1 ls (st'.map (cv G ρ)))) → (¬ q → W p l e R s m args below meth c H locs ce sl Q' (F0 m pc2 ls (st'.map (cv G ρ)))) → W p l e R s m args below meth c H locs ce sl Q' (F0 m pc ls (st.map (cv G ρ))))
    (hs : (∀ q ∈ st, vok (bd μ) q) → ∀ q ∈ st', vok (bd μ) q)
    (k1 : V Γ κ pc1 lv st' μ r1) (k2 : V Γ κ pc2 lv st' μ r2) : V Γ κ pc lv st μ (if q then r1 else r2) := by
  obtain ⟨p, l, e, R, s, m, args, below, meth, c, Q, G, ρ0, μ0⟩ := Γ
  intro x v μ' hr
  by_cases hq : q
  · rw [if_pos hq] at hr
    obtain ⟨j1, j2⟩ := k1 x v μ' hr
    refine ⟨j1, fun O a1 a2 a3 a4 a5 ρ H locs ls b1 b2 b3 b4 b5 b6 => ?_⟩
    exact h O ρ H locs ls _ _ _ b3 (fun _ => j2 O a1 a2 a3 a4 a5 ρ H locs ls b1 b2 (hs b3) b4 b5 b6) (fun n => absurd hq n)
  · rw [if_neg hq] at hr
    obtain ⟨j1, j2⟩ := k2 x v μ' hr
    refine ⟨j1, fun O a1 a2 a3 a4 a5 ρ H locs ls b1 b2 b3 b4 b5 b6 => ?_⟩
    exact h O ρ H locs ls _ _ _ b3 (fun y => absurd y hq) (fun _ => j2 O a1 a2 a3 a4 a5 ρ H locs ls b1 b2 (hs b3) b4 b5 b6)
theorem V_none : V Γ κ pc lv st μ none := by
  obtain ⟨p, l, e, R, s, m, args, below, meth, c, Q, G, ρ0, μ0⟩ := Γ
  intro x v μ' hr
  cases hr
/-- fewer locals, by their places -/
def lpick (lv : List (Nat × AV)) (ks : List Nat) : List (Nat × AV) := ks.filterMap (fun k => lv[k]?)
theorem V_sub {lv' : List (Nat × AV)} (ks : List Nat) (h : lpick lv ks = lv') (k : V Γ κ pc lv' st μ r) : V Γ κ pc lv st μ r := by
  have hm : ∀ q ∈ lv', q ∈ lv := fun q hq => by
    rw [← h] at hq
    obtain ⟨i, -, hi⟩ := List.mem_filterMap.mp hq
    exact List.mem_of_getElem? hi
  refine V_pure (pc' := pc) (lv' := lv') (st' := st) ?_ (fun b _ q hq => b q (hm q hq)) (fun _ b => b) k
  obtain ⟨p, l, e, R, s, m, args, below, meth, c, Q, G, ρ0, μ0⟩ := Γ
  intro O ρ H locs ls ce sl Q' b1 b2 b3 b5 kk
  refine kk ls ⟨b1.1, b1.2.1, fun q hq => ?_⟩
  obtain ⟨q0, h0, rfl⟩ := List.mem_map.mp hq
  exact b1.2.2 _ (List.mem_map.mpr ⟨q0, hm q0 h0, rfl⟩)

theorem V_iload_n {i : Fin 4} (hdg : decode (kC κ) pc = .ok (.iload_n i, 1)) (j : Nat) {z : Int} (hj : lv[j]? = some ((i : Nat), (0, z))) (k : V Γ κ (pc + 1) lv ((0, z) :: st) μ r) : V Γ κ pc lv st μ r := by
  refine V_pure (pc' := pc + 1) (lv' := lv) (st' := ((0, z) :: st)) ?_ (fun b _ => b) (fun b b3 => ok_cons (lvm_ok hj b) b3) k
  obtain ⟨p, l, e, R, s, m, args, below, meth, c, Q, G, ρ0, μ0⟩ := Γ
  intro O
  obtain ⟨hx, hb, hml, hown, hts, hcx, hlk, htr, hfr, hlo, hrt, hin9, htab⟩ := O
  intro ρ H locs ls ce sl Q' b1 b2 b3 b5 kk
  exact lv_iload_n hx hb hdg rfl (lv_at b1 j (lvm_at hj)) (kk ls b1)
theorem V_iload {i : Nat} (hdg : decode (kC κ) pc = .ok (.iload i, 2)) (j : Nat) {z : Int} (hj : lv[j]? = some (i, (0, z))) (k : V Γ κ (pc + 2) lv ((0, z) :: st) μ r) : V Γ κ pc lv st μ r := by
  refine V_pure (pc' := pc + 2) (lv' := lv) (st' := ((0, z) :: st)) ?_ (fun b _ => b) (fun b b3 => ok_cons (lvm_ok hj b) b3) k
  obtain ⟨p, l, e, R, s, m, args, below, meth, c, Q, G, ρ0, μ0⟩ := Γ
  intro O
  obtain ⟨hx, hb, hml, hown, hts, hcx, hlk, htr, hfr, hlo, hrt, hin9, htab⟩ := O
  intro ρ H locs ls ce sl Q' b1 b2 b3 b5 kk
  exact lv_iload hx hb hdg (lv_at b1 j (lvm_at hj)) (kk ls b1)
theorem V_lload_n {i : Fin 4} (hdg : decode (kC κ) pc = .ok (.lload_n i, 1)) (j : Nat) {z : Int} (hj : lv[j]? = some ((i : Nat), (1, z))) (k : V Γ κ (pc + 1) lv ((1, z) :: st) μ r) : V Γ κ pc lv st μ r := by
  refine V_pure (pc' := pc + 1) (lv' := lv) (st' := ((1, z) :: st)) ?_ (fun b _ => b) (fun b b3 => ok_cons (lvm_ok hj b) b3) k
  obtain ⟨p, l, e, R, s, m, args, below, meth, c, Q, G, ρ0, μ0⟩ := Γ
  intro O
  obtain ⟨hx, hb, hml, hown, hts, hcx, hlk, htr, hfr, hlo, hrt, hin9, htab⟩ := O
  intro ρ H locs ls ce sl Q' b1 b2 b3 b5 kk
  exact lv_lload_n hx hb hdg rfl (lv_at b1 j (lvm_at hj)) (kk ls b1)
theorem V_lload {i : Nat} (hdg : decode (kC κ) pc = .ok (.lload i, 2)) (j : Nat) {z : Int} (hj : lv[j]? = some (i, (1, z))) (k : V Γ κ (pc + 2) lv ((1, z) :: st) μ r) : V Γ κ pc lv st μ r := by
  refine V_pure (pc' := pc + 2) (lv' := lv) (st' := ((1, z) :: st)) ?_ (fun b _ => b) (fun b b3 => ok_cons (lvm_ok hj b) b3) k
  obtain ⟨p, l, e, R, s, m, args, below, meth, c, Q, G, ρ0, μ0⟩ := Γ
  intro O
  obtain ⟨hx, hb, hml, hown, hts, hcx, hlk, htr, hfr, hlo, hrt, hin9, htab⟩ := O
  intro ρ H locs ls ce sl Q' b1 b2 b3 b5 kk
  exact lv_lload hx hb hdg (lv_at b1 j (lvm_at hj)) (kk ls b1)
theorem V_fload_n {i : Fin 4} (hdg : decode (kC κ) pc = .ok (.fload_n i, 1)) (j : Nat) {z : Int} (hj : lv[j]? = some ((i : Nat), (3, z))) (k : V Γ κ (pc + 1) lv ((3, z) :: st) μ r) : V Γ κ pc lv st μ r := by
  refine V_pure (pc' := pc + 1) (lv' := lv) (st' := ((3, z) :: st)) ?_ (fun b _ => b) (fun b b3 => ok_cons (lvm_ok hj b) b3) k
  obtain ⟨p, l, e, R, s, m, args, below, meth, c, Q, G, ρ0, μ0⟩ := Γ
  intro O
  obtain ⟨hx, hb, hml, hown, hts, hcx, hlk, htr, hfr, hlo, hrt, hin9, htab⟩ := O
  intro ρ H locs ls ce sl Q' b1 b2 b3 b5 kk
  exact lv_fload_n hx hb hdg rfl (lv_at b1 j (lvm_at hj)) (kk ls b1)
theorem V_fload {i : Nat} (hdg : decode (kC κ) pc = .ok (.fload i, 2)) (j : Nat) {z : Int} (hj : lv[j]? = some (i, (3, z))) (k : V Γ κ (pc + 2) lv ((3, z) :: st) μ r) : V Γ κ pc lv st μ r := by
  refine V_pure (pc' := pc + 2) (lv' := lv) (st' := ((3, z) :: st)) ?_ (fun b _ => b) (fun b b3 => ok_cons (lvm_ok hj b) b3) k
  obtain ⟨p, l, e, R, s, m, args, below, meth, c, Q, G, ρ0, μ0⟩ := Γ
  intro O
  obtain ⟨hx, hb, hml, hown, hts, hcx, hlk, htr, hfr, hlo, hrt, hin9, htab⟩ := O
  intro ρ H locs ls ce sl Q' b1 b2 b3 b5 kk
  exact lv_fload hx hb hdg (lv_at b1 j (lvm_at hj)) (kk ls b1)
theorem V_dload_n {i : Fin 4} (hdg : decode (kC κ) pc = .ok (.dload_n i, 1)) (j : Nat) {z : Int} (hj : lv[j]? = some ((i : Nat), (4, z))) (k : V Γ κ (pc + 1) lv ((4, z) :: st) μ r) : V Γ κ pc lv st μ r := by
  refine V_pure (pc' := pc + 1) (lv' := lv) (st' := ((4, z) :: st)) ?_ (fun b _ => b) (fun b b3 => ok_cons (lvm_ok hj b) b3) k
  obtain ⟨p, l, e, R, s, m, args, below, meth, c, Q, G, ρ0, μ0⟩ := Γ
  intro O
  obtain ⟨hx, hb, hml, hown, hts, hcx, hlk, htr, hfr, hlo, hrt, hin9, htab⟩ := O
  intro ρ H locs ls ce sl Q' b1 b2 b3 b5 kk
  exact lv_dload_n hx hb hdg rfl (lv_at b1 j (lvm_at hj)) (kk ls b1)
theorem V_dload {i : Nat} (hdg : decode (kC κ) pc = .ok (.dload i, 2)) (j : Nat) {z : Int} (hj : lv[j]? = some (i, (4, z))) (k : V Γ κ (pc + 2) lv ((4, z) :: st) μ r) : V Γ κ pc lv st μ r := by
  refine V_pure (pc' := pc + 2) (lv' := lv) (st' := ((4, z) :: st)) ?_ (fun b _ => b) (fun b b3 => ok_cons (lvm_ok hj b) b3) k
  obtain ⟨p, l, e, R, s, m, args, below, meth, c, Q, G, ρ0, μ0⟩ := Γ
  intro O
  obtain ⟨hx, hb, hml, hown, hts, hcx, hlk, htr, hfr, hlo, hrt, hin9, htab⟩ := O
  intro ρ H locs ls ce sl Q' b1 b2 b3 b5 kk
  exact lv_dload hx hb hdg (lv_at b1 j (lvm_at hj)) (kk ls b1)
def rtg (t : Nat) : Bool := t == 2 || (t == 5 || (t == 6 || t == 7))
theorem cv_ref {t : Nat} (h : rtg t = true) (G : Gc) (ρ : Int → Nat) (z : Int) : cv G ρ (t, z) = .null ∨ ∃ a : Nat, cv G ρ (t, z) = .ref a := by
  simp only [rtg, Bool.or_eq_true, beq_iff_eq] at h
  rcases h with rfl | rfl | rfl | rfl
  · show cvR ρ z = .null ∨ ∃ a : Nat, cvR ρ z = .ref a
    unfold cvR
    split
    · exact Or.inl rfl
    · exact Or.inr ⟨_, rfl⟩
  · exact Or.inr ⟨_, rfl⟩
  · show va_rf (gO G) = .null ∨ ∃ a : Nat, va_rf (gO G) = .ref a
    cases gO G with
    | none => exact Or.inl rfl
    | some a => exact Or.inr ⟨a, rfl⟩
  · exact Or.inr ⟨_, rfl⟩
theorem V_aload_n {i : Fin 4} (hdg : decode (kC κ) pc = .ok (.aload_n i, 1)) (j : Nat) {t : Nat} {z : Int} (ht : rtg t = true) (hj : lv[j]? = some ((i : Nat), (t, z))) (k : V Γ κ (pc + 1) lv ((t, z) :: st) μ r) : V Γ κ pc lv st μ r := by
  refine V_pure (pc' := pc + 1) (lv' := lv) (st' := ((t, z) :: st)) ?_ (fun b _ => b) (fun b b3 => ok_cons (lvm_ok hj b) b3) k
  obtain ⟨p, l, e, R, s, m, args, below, meth, c, Q, G, ρ0, μ0⟩ := Γ
  intro O
  obtain ⟨hx, hb, hml, hown, hts, hcx, hlk, htr, hfr, hlo, hrt, hin9, htab⟩ := O
  intro ρ H locs ls ce sl Q' b1 b2 b3 b5 kk
  have h1 := lv_at b1 j (lvm_at (G := G) (ρ := ρ) hj)
  have h2 := kk ls b1
  rw [List.map_cons] at h2
  rcases cv_ref ht G ρ z with h | ⟨a, h⟩
  · rw [h] at h1 h2
    exact lv_aload_nN hx hb hdg rfl h1 h2
  · rw [h] at h1 h2
    exact lv_aload_n hx hb hdg rfl h1 h2
theorem V_aload {i : Nat} (hdg : decode (kC κ) pc = .ok (.aload i, 2)) (j : Nat) {t : Nat} {z : Int} (ht : rtg t = true) (hj : lv[j]? = some (i, (t, z))) (k : V Γ κ (pc + 2) lv ((t, z) :: st) μ r) : V Γ κ pc lv st μ r := by
  refine V_pure (pc' := pc + 2) (lv' := lv) (st' := ((t, z) :: st)) ?_ (fun b _ => b) (fun b b3 => ok_cons (lvm_ok hj b) b3) k
  obtain ⟨p, l, e, R, s, m, args, below, meth, c, Q, G, ρ0, μ0⟩ := Γ
  intro O
  obtain ⟨hx, hb, hml, hown, hts, hcx, hlk, htr, hfr, hlo, hrt, hin9, htab⟩ := O
  intro ρ H locs ls ce sl Q' b1 b2 b3 b5 kk
  have h1 := lv_at b1 j (lvm_at (G := G) (ρ := ρ) hj)
  have h2 := kk ls b1
  rw [List.map_cons] at h2
  rcases cv_ref ht G ρ z with h | ⟨a, h⟩
  · rw [h] at h1 h2
    exact lv_aloadN hx hb hdg h1 h2
  · rw [h] at h1 h2
    exact lv_aload hx hb hdg h1 h2
theorem V_istore_n {i : Fin 4} (hdg : decode (kC κ) pc = .ok (.istore_n i, 1)) {z : Int} (hn : (i : Nat) < kN κ) {lv' : List (Nat × AV)} (hl : stv (i : Nat) (0, z) lv = lv') (k : V Γ κ (pc + 1) lv' st μ r) : V Γ κ pc lv ((0, z) :: st) μ r := by
  refine V_pure (pc' := pc + 1) (lv' := lv') (st' := st) ?_ (fun b b3 => by rw [← hl]; exact stv_ok (ok_hd b3) b) (fun _ b3 => ok_tl b3) k
  obtain ⟨p, l, e, R, s, m, args, below, meth, c, Q, G, ρ0, μ0⟩ := Γ
  intro O
  obtain ⟨hx, hb, hml, hown, hts, hcx, hlk, htr, hfr, hlo, hrt, hin9, htab⟩ := O
  intro ρ H locs ls ce sl Q' b1 b2 b3 b5 kk
  subst hl
  exact lv_istore_n hx hb hdg rfl b1 hn (stv_map G ρ _ (0, z) lv) (fun ls' b1' => kk ls' b1')
theorem V_istore {i : Nat} (hdg : decode (kC κ) pc = .ok (.istore i, 2)) {z : Int} (hn : i < kN κ) {lv' : List (Nat × AV)} (hl : stv i (0, z) lv = lv') (k : V Γ κ (pc + 2) lv' st μ r) : V Γ κ pc lv ((0, z) :: st) μ r := by
  refine V_pure (pc' := pc + 2) (lv' := lv') (st' := st) ?_ (fun b b3 => by rw [← hl]; exact stv_ok (ok_hd b3) b) (fun _ b3 => ok_tl b3) k
  obtain ⟨p, l, e, R, s, m, args, below, meth, c, Q, G, ρ0, μ0⟩ := Γ
  intro O
  obtain ⟨hx, hb, hml, hown, hts, hcx, hlk, htr, hfr, hlo, hrt, hin9, htab⟩ := O
  intro ρ H locs ls ce sl Q' b1 b2 b3 b5 kk
  subst hl
  exact lv_istore hx hb hdg b1 hn (stv_map G ρ _ (0, z) lv) (fun ls' b1' => kk ls' b1')
theorem V_fstore_n {i : Fin 4} (hdg : decode (kC κ) pc = .ok (.fstore_n i, 1)) {z : Int} (hn : (i : Nat) < kN κ) {lv' : List (Nat × AV)} (hl : stv (i : Nat) (3, z) lv = lv') (k : V Γ κ (pc + 1) lv' st μ r) : V Γ κ pc lv ((3, z) :: st) μ r := by
  refine V_pure (pc' := pc + 1) (lv' := lv') (st' := st) ?_ (fun b b3 => by rw [← hl]; exact stv_ok (ok_hd b3) b) (fun _ b3 => ok_tl b3) k
  obtain ⟨p, l, e, R, s, m, args, below, meth, c, Q, G, ρ0, μ0⟩ := Γ
  intro O
  obtain ⟨hx, hb, hml, hown, hts, hcx, hlk, htr, hfr, hlo, hrt, hin9, htab⟩ := O
  intro ρ H locs ls ce sl Q' b1 b2 b3 b5 kk
  subst hl
  exact lv_fstore_n hx hb hdg rfl b1 hn (stv_map G ρ _ (3, z) lv) (fun ls' b1' => kk ls' b1')
theorem V_fstore {i : Nat} (hdg : decode (kC κ) pc = .ok (.fstore i, 2)) {z : Int} (hn : i < kN κ) {lv' : List (Nat × AV)} (hl : stv i (3, z) lv = lv') (k : V Γ κ (pc + 2) lv' st μ r) : V Γ κ pc lv ((3, z) :: st) μ r := by
  refine V_pure (pc' := pc + 2) (lv' := lv') (st' := st) ?_ (fun b b3 => by rw [← hl]; exact stv_ok (ok_hd b3) b) (fun _ b3 => ok_tl b3) k
  obtain ⟨p, l, e, R, s, m, args, below, meth, c, Q, G, ρ0, μ0⟩ := Γ
  intro O
  obtain ⟨hx, hb, hml, hown, hts, hcx, hlk, htr, hfr, hlo, hrt, hin9, htab⟩ := O
  intro ρ H locs ls ce sl Q' b1 b2 b3 b5 kk
  subst hl
  exact lv_fstore hx hb hdg b1 hn (stv_map G ρ _ (3, z) lv) (fun ls' b1' => kk ls' b1')
theorem V_lstore_n {i : Fin 4} (hdg : decode (kC κ) pc = .ok (.lstore_n i, 1)) {z : Int} (hn : (i : Nat) + 1 < kN κ) {lv' : List (Nat × AV)} (hl : stw (i : Nat) (1, z) lv = lv') (k : V Γ κ (pc + 1) lv' st μ r) : V Γ κ pc lv ((1, z) :: st) μ r := by
  refine V_pure (pc' := pc + 1) (lv' := lv') (st' := st) ?_ (fun b b3 => by rw [← hl]; exact stw_ok (ok_hd b3) b) (fun _ b3 => ok_tl b3) k
  obtain ⟨p, l, e, R, s, m, args, below, meth, c, Q, G, ρ0, μ0⟩ := Γ
  intro O
  obtain ⟨hx, hb, hml, hown, hts, hcx, hlk, htr, hfr, hlo, hrt, hin9, htab⟩ := O
  intro ρ H locs ls ce sl Q' b1 b2 b3 b5 kk
  subst hl
  exact lv_lstore_n hx hb hdg rfl b1 hn (stw_map G ρ _ (1, z) lv) (fun ls' b1' => kk ls' b1')
theorem V_lstore {i : Nat} (hdg : decode (kC κ) pc = .ok (.lstore i, 2)) {z : Int} (hn : i + 1 < kN κ) {lv' : List (Nat × AV)} (hl : stw i (1, z) lv = lv') (k : V Γ κ (pc + 2) lv' st μ r) : V Γ κ pc lv ((1, z) :: st) μ r := by
  refine V_pure (pc' := pc + 2) (lv' := lv') (st' := st) ?_ (fun b b3 => by rw [← hl]; exact stw_ok (ok_hd b3) b) (fun _ b3 => ok_tl b3) k
  obtain ⟨p, l, e, R, s, m, args, below, meth, c, Q, G, ρ0, μ0⟩ := Γ
  intro O
  obtain ⟨hx, hb, hml, hown, hts, hcx, hlk, htr, hfr, hlo, hrt, hin9, htab⟩ := O
  intro ρ H locs ls ce sl Q' b1 b2 b3 b5 kk
  subst hl
  exact lv_lstore hx hb hdg b1 hn (stw_map G ρ _ (1, z) lv) (fun ls' b1' => kk ls' b1')
theorem V_dstore_n {i : Fin 4} (hdg : decode (kC κ) pc = .ok (.dstore_n i, 1)) {z : Int} (hn : (i : Nat) + 1 < kN κ) {lv' : List (Nat × AV)} (hl : stw (i : Nat) (4, z) lv = lv') (k : V Γ κ (pc + 1) lv' st μ r) : V Γ κ pc lv ((4, z) :: st) μ r := by
  refine V_pure (pc' := pc + 1) (lv' := lv') (st' := st) ?_ (fun b b3 => by rw [← hl]; exact stw_ok (ok_hd b3) b) (fun _ b3 => ok_tl b3) k
  obtain ⟨p, l, e, R, s, m, args, below, meth, c, Q, G, ρ0, μ0⟩ := Γ
  intro O
  obtain ⟨hx, hb, hml, hown, hts, hcx, hlk, htr, hfr, hlo, hrt, hin9, htab⟩ := O
  intro ρ H locs ls ce sl Q' b1 b2 b3 b5 kk
  subst hl
  exact lv_dstore_n hx hb hdg rfl b1 hn (stw_map G ρ _ (4, z) lv) (fun ls' b1' => kk ls' b1')
theorem V_dstore {i : Nat} (hdg : decode (kC κ) pc = .ok (.dstore i, 2)) {z : Int} (hn : i + 1 < kN κ) {lv' : List (Nat × AV)} (hl : stw i (4, z) lv = lv') (k : V Γ κ (pc + 2) lv' st μ r) : V Γ κ pc lv ((4, z) :: st) μ r := by
  refine V_pure (pc' := pc + 2) (lv' := lv') (st' := st) ?_ (fun b b3 => by rw [← hl]; exact stw_ok (ok_hd b3) b) (fun _ b3 => ok_tl b3) k
  obtain ⟨p, l, e, R, s, m, args, below, meth, c, Q, G, ρ0, μ0⟩ := Γ
  intro O
  obtain ⟨hx, hb, hml, hown, hts, hcx, hlk, htr, hfr, hlo, hrt, hin9, htab⟩ := O
  intro ρ H locs ls ce sl Q' b1 b2 b3 b5 kk
  subst hl
  exact lv_dstore hx hb hdg b1 hn (stw_map G ρ _ (4, z) lv) (fun ls' b1' => kk ls' b1')
theorem V_astore_n {i : Fin 4} (hdg : decode (kC κ) pc = .ok (.astore_n i, 1)) {t : Nat} {z : Int} (ht : rtg t = true) (hn : (i : Nat) < kN κ) {lv' : List (Nat × AV)} (hl : stv (i : Nat) (t, z) lv = lv') (k : V Γ κ (pc + 1) lv' st μ r) : V Γ κ pc lv ((t, z) :: st) μ r := by
  refine V_pure (pc' := pc + 1) (lv' := lv') (st' := st) ?_ (fun b b3 => by rw [← hl]; exact stv_ok (ok_hd b3) b) (fun _ b3 => ok_tl b3) k
  obtain ⟨p, l, e, R, s, m, args, below, meth, c, Q, G, ρ0, μ0⟩ := Γ
  intro O
  obtain ⟨hx, hb, hml, hown, hts, hcx, hlk, htr, hfr, hlo, hrt, hin9, htab⟩ := O
  intro ρ H locs ls ce sl Q' b1 b2 b3 b5 kk
  subst hl
  have h1 := stv_map G ρ (i : Nat) (t, z) lv
  rw [List.map_cons]
  rcases cv_ref ht G ρ z with h | ⟨a, h⟩
  · rw [h] at h1 ⊢
    exact lv_astore_nN hx hb hdg rfl b1 hn h1 (fun ls' b1' => kk ls' b1')
  · rw [h] at h1 ⊢
    exact lv_astore_n hx hb hdg rfl b1 hn h1 (fun ls' b1' => kk ls' b1')
theorem V_astore {i : Nat} (hdg : decode (kC κ) pc = .ok (.astore i, 2)) {t : Nat} {z : Int} (ht : rtg t = true) (hn : i < kN κ) {lv' : List (Nat × AV)} (hl : stv i (t, z) lv = lv') (k : V Γ κ (pc + 2) lv' st μ r) : V Γ κ pc lv ((t, z) :: st) μ r := by
  refine V_pure (pc' := pc + 2) (lv' := lv') (st' := st) ?_ (fun b b3 => by rw [← hl]; exact stv_ok (ok_hd b3) b) (fun _ b3 => ok_tl b3) k
  obtain ⟨p, l, e, R, s, m, args, below, meth, c, Q, G, ρ0, μ0⟩ := Γ
  intro O
  obtain ⟨hx, hb, hml, hown, hts, hcx, hlk, htr, hfr, hlo, hrt, hin9, htab⟩ := O
  intro ρ H locs ls ce sl Q' b1 b2 b3 b5 kk
  subst hl
  have h1 := stv_map G ρ i (t, z) lv
  rw [List.map_cons]
  rcases cv_ref ht G ρ z with h | ⟨a, h⟩
  · rw [h] at h1 ⊢
    exact lv_astoreN hx hb hdg b1 hn h1 (fun ls' b1' => kk ls' b1')
  · rw [h] at h1 ⊢
    exact lv_astore hx hb hdg b1 hn h1 (fun ls' b1' => kk ls' b1')
theorem V_iinc {i : Nat} {n : Int} (hdg : decode (kC κ) pc = .ok (.iinc i n, 3)) (j : Nat) {z : Int} (hj : lv[j]? = some (i, (0, z))) (hn : i < kN κ) {lv' : List (Nat × AV)} (hl : stv i (0, w32 (z + n)) lv = lv') (k : V Γ κ (pc + 3) lv' st μ r) : V Γ κ pc lv st μ r := by
  refine V_pure (pc' := pc + 3) (lv' := lv') (st' := st) ?_ (fun b _ => by rw [← hl]; exact stv_ok (w32_i _) b) (fun _ b3 => b3) k
  obtain ⟨p, l, e, R, s, m, args, below, meth, c, Q, G, ρ0, μ0⟩ := Γ
  intro O
  obtain ⟨hx, hb, hml, hown, hts, hcx, hlk, htr, hfr, hlo, hrt, hin9, htab⟩ := O
  intro ρ H locs ls ce sl Q' b1 b2 b3 b5 kk
  subst hl
  exact lv_iinc (v := Int32.ofInt (w32 (z + n))) hx hb hdg b1 (lvm_at hj) (oi_add z n) hn (stv_map G ρ i (0, w32 (z + n)) lv) (fun ls' b1' => kk ls' b1')
theorem V_iconst {n : Int} (hdg : decode (kC κ) pc = .ok (.iconst n, 1)) (hn : i32 n) (k : V Γ κ (pc + 1) lv ((0, n) :: st) μ r) : V Γ κ pc lv st μ r := by
  refine V_pure (pc' := pc + 1) (lv' := lv) (st' := ((0, n) :: st)) ?_ (fun b _ => b) (fun _ b3 => ok_cons hn b3) k
  obtain ⟨p, l, e, R, s, m, args, below, meth, c, Q, G, ρ0, μ0⟩ := Γ
  intro O
  obtain ⟨hx, hb, hml, hown, hts, hcx, hlk, htr, hfr, hlo, hrt, hin9, htab⟩ := O
  intro ρ H locs ls ce sl Q' b1 b2 b3 b5 kk
  exact lv_iconst hx hb hdg rfl (kk ls b1)
theorem V_bipush {n : Int} (hdg : decode (kC κ) pc = .ok (.bipush n, 2)) (hn : i32 n) (hv : (Int8.ofInt n).toInt32 = Int32.ofInt n) (k : V Γ κ (pc + 2) lv ((0, n) :: st) μ r) : V Γ κ pc lv st μ r := by
  refine V_pure (pc' := pc + 2) (lv' := lv) (st' := ((0, n) :: st)) ?_ (fun b _ => b) (fun _ b3 => ok_cons hn b3) k
  obtain ⟨p, l, e, R, s, m, args, below, meth, c, Q, G, ρ0, μ0⟩ := Γ
  intro O
  obtain ⟨hx, hb, hml, hown, hts, hcx, hlk, htr, hfr, hlo, hrt, hin9, htab⟩ := O
  intro ρ H locs ls ce sl Q' b1 b2 b3 b5 kk
  exact lv_bipush hx hb hdg hv (kk ls b1)
theorem V_sipush {n : Int} (hdg : decode (kC κ) pc = .ok (.sipush n, 3)) (hn : i32 n) (hv : (Int16.ofInt n).toInt32 = Int32.ofInt n) (k : V Γ κ (pc + 3) lv ((0, n) :: st) μ r) : V Γ κ pc lv st μ r := by
  refine V_pure (pc' := pc + 3) (lv' := lv) (st' := ((0, n) :: st)) ?_ (fun b _ => b) (fun _ b3 => ok_cons hn b3) k
  obtain ⟨p, l, e, R, s, m, args, below, meth, c, Q, G, ρ0, μ0⟩ := Γ
  intro O
  obtain ⟨hx, hb, hml, hown, hts, hcx, hlk, htr, hfr, hlo, hrt, hin9, htab⟩ := O
  intro ρ H locs ls ce sl Q' b1 b2 b3 b5 kk
  exact lv_sipush hx hb hdg hv (kk ls b1)
theorem V_lconst {n : Fin 2} {z : Int} (hdg : decode (kC κ) pc = .ok (.lconst n, 1)) (hn : i64 z) (hv : Int64.ofNat (n : Nat) = Int64.ofInt z) (k : V Γ κ (pc + 1) lv ((1, z) :: st) μ r) : V Γ κ pc lv st μ r := by
  refine V_pure (pc' := pc + 1) (lv' := lv) (st' := ((1, z) :: st)) ?_ (fun b _ => b) (fun _ b3 => ok_cons hn b3) k
  obtain ⟨p, l, e, R, s, m, args, below, meth, c, Q, G, ρ0, μ0⟩ := Γ
  intro O
  obtain ⟨hx, hb, hml, hown, hts, hcx, hlk, htr, hfr, hlo, hrt, hin9, htab⟩ := O
  intro ρ H locs ls ce sl Q' b1 b2 b3 b5 kk
  exact lv_lconst hx hb hdg hv (kk ls b1)
theorem V_dconst0 (hdg : decode (kC κ) pc = .ok (.dconst 0, 1)) (k : V Γ κ (pc + 1) lv ((4, 0) :: st) μ r) : V Γ κ pc lv st μ r := by
  refine V_pure (pc' := pc + 1) (lv' := lv) (st' := ((4, 0) :: st)) ?_ (fun b _ => b) (fun _ b3 => ok_cons ⟨by decide, by decide⟩ b3) k
  obtain ⟨p, l, e, R, s, m, args, below, meth, c, Q, G, ρ0, μ0⟩ := Γ
  intro O
  obtain ⟨hx, hb, hml, hown, hts, hcx, hlk, htr, hfr, hlo, hrt, hin9, htab⟩ := O
  intro ρ H locs ls ce sl Q' b1 b2 b3 b5 kk
  exact lv_dconst0 hx hb hdg (kk ls b1)
theorem V_fconst0 (hdg : decode (kC κ) pc = .ok (.fconst 0, 1)) (k : V Γ κ (pc + 1) lv ((3, 0) :: st) μ r) : V Γ κ pc lv st μ r := by
  refine V_pure (pc' := pc + 1) (lv' := lv) (st' := ((3, 0) :: st)) ?_ (fun b _ => b) (fun _ b3 => ok_cons ⟨by decide, by decide⟩ b3) k
  obtain ⟨p, l, e, R, s, m, args, below, meth, c, Q, G, ρ0, μ0⟩ := Γ
  intro O
  obtain ⟨hx, hb, hml, hown, hts, hcx, hlk, htr, hfr, hlo, hrt, hin9, htab⟩ := O
  intro ρ H locs ls ce sl Q' b1 b2 b3 b5 kk
  exact lv_fconst0 hx hb hdg (kk ls b1)
theorem V_ldc {i : Nat} {w : Int32} {z : Int} (hdg : decode (kC κ) pc = .ok (.ldc i, 2)) (hw : Cond.constant (kW κ) i w ∈ lw_all) (hn : i32 z) (hv : Int32.ofInt z = w) (k : V Γ κ (pc + 2) lv ((0, z) :: st) μ r) : V Γ κ pc lv st μ r := by
  refine V_pure (pc' := pc + 2) (lv' := lv) (st' := ((0, z) :: st)) ?_ (fun b _ => b) (fun _ b3 => ok_cons hn b3) k
  obtain ⟨p, l, e, R, s, m, args, below, meth, c, Q, G, ρ0, μ0⟩ := Γ
  intro O
  obtain ⟨hx, hb, hml, hown, hts, hcx, hlk, htr, hfr, hlo, hrt, hin9, htab⟩ := O
  intro ρ H locs ls ce sl Q' b1 b2 b3 b5 kk
  subst hv
  exact lv_ldc hx hb hown (hts _ hw) hdg (kk ls b1)
theorem V_ldcw {i : Nat} {w : Int32} {z : Int} (hdg : decode (kC κ) pc = .ok (.ldc_w i, 3)) (hw : Cond.constant (kW κ) i w ∈ lw_all) (hn : i32 z) (hv : Int32.ofInt z = w) (k : V Γ κ (pc + 3) lv ((0, z) :: st) μ r) : V Γ κ pc lv st μ r := by
  refine V_pure (pc' := pc + 3) (lv' := lv) (st' := ((0, z) :: st)) ?_ (fun b _ => b) (fun _ b3 => ok_cons hn b3) k
  obtain ⟨p, l, e, R, s, m, args, below, meth, c, Q, G, ρ0, μ0⟩ := Γ
  intro O
  obtain ⟨hx, hb, hml, hown, hts, hcx, hlk, htr, hfr, hlo, hrt, hin9, htab⟩ := O
  intro ρ H locs ls ce sl Q' b1 b2 b3 b5 kk
  subst hv
  exact lv_ldcw hx hb hown (hts _ hw) hdg (kk ls b1)
theorem V_ldc2 {i : Nat} {w : Int64} {z : Int} (hdg : decode (kC κ) pc = .ok (.ldc2_w i, 3)) (hw : Cond.constantLong (kW κ) i w ∈ lw_all) (hn : i64 z) (hv : Int64.ofInt z = w) (k : V Γ κ (pc + 3) lv ((1, z) :: st) μ r) : V Γ κ pc lv st μ r := by
  refine V_pure (pc' := pc + 3) (lv' := lv) (st' := ((1, z) :: st)) ?_ (fun b _ => b) (fun _ b3 => ok_cons hn b3) k
  obtain ⟨p, l, e, R, s, m, args, below, meth, c, Q, G, ρ0, μ0⟩ := Γ
  intro O
  obtain ⟨hx, hb, hml, hown, hts, hcx, hlk, htr, hfr, hlo, hrt, hin9, htab⟩ := O
  intro ρ H locs ls ce sl Q' b1 b2 b3 b5 kk
  subst hv
  exact lv_ldc2 hx hb hown (hts _ hw) hdg (kk ls b1)
theorem V_ldc2d {i : Nat} {w : UInt64} {z : Int} (hdg : decode (kC κ) pc = .ok (.ldc2_w i, 3)) (hw : Cond.constantDouble (kW κ) i w ∈ lw_all) (hn : 0 ≤ z ∧ z < 18446744073709551616) (hv : dBits z = w) (k : V Γ κ (pc + 3) lv ((4, z) :: st) μ r) : V Γ κ pc lv st μ r := by
  refine V_pure (pc' := pc + 3) (lv' := lv) (st' := ((4, z) :: st)) ?_ (fun b _ => b) (fun _ b3 => ok_cons hn b3) k
  obtain ⟨p, l, e, R, s, m, args, below, meth, c, Q, G, ρ0, μ0⟩ := Γ
  intro O
  obtain ⟨hx, hb, hml, hown, hts, hcx, hlk, htr, hfr, hlo, hrt, hin9, htab⟩ := O
  intro ρ H locs ls ce sl Q' b1 b2 b3 b5 kk
  subst hv
  exact lv_ldc2d hx hb hown (hts _ hw) hdg (kk ls b1)
theorem V_iadd {a b : Int} (hdg : decode (kC κ) pc = .ok (.iadd, 1)) (k : V Γ κ (pc + 1) lv ((0, w32 (a + b)) :: st) μ r) : V Γ κ pc lv ((0, b) :: (0, a) :: st) μ r := by
  refine V_pure (pc' := pc + 1) (lv' := lv) (st' := ((0, w32 (a + b)) :: st)) ?_ (fun b _ => b) (fun _ b3 => ok_cons (w32_i _) (ok_tl (ok_tl b3))) k
  obtain ⟨p, l, e, R, s, m, args, below, meth, c, Q, G, ρ0, μ0⟩ := Γ
  intro O
  obtain ⟨hx, hb, hml, hown, hts, hcx, hlk, htr, hfr, hlo, hrt, hin9, htab⟩ := O
  intro ρ H locs ls ce sl Q' b1 b2 b3 b5 kk
  have h2 := kk ls b1
  rw [List.map_cons, show cv G ρ (0, w32 (a + b)) = .int (Int32.ofInt (w32 (a + b))) from rfl, ← oi_add] at h2
  exact lv_iadd hx hb hdg h2
theorem V_isub {a b : Int} (hdg : decode (kC κ) pc = .ok (.isub, 1)) (k : V Γ κ (pc + 1) lv ((0, w32 (a - b)) :: st) μ r) : V Γ κ pc lv ((0, b) :: (0, a) :: st) μ r := by
  refine V_pure (pc' := pc + 1) (lv' := lv) (st' := ((0, w32 (a - b)) :: st)) ?_ (fun b _ => b) (fun _ b3 => ok_cons (w32_i _) (ok_tl (ok_tl b3))) k
  obtain ⟨p, l, e, R, s, m, args, below, meth, c, Q, G, ρ0, μ0⟩ := Γ
  intro O
  obtain ⟨hx, hb, hml, hown, hts, hcx, hlk, htr, hfr, hlo, hrt, hin9, htab⟩ := O
  intro ρ H locs ls ce sl Q' b1 b2 b3 b5 kk
  have h2 := kk ls b1
  rw [List.map_cons, show cv G ρ (0, w32 (a - b)) = .int (Int32.ofInt (w32 (a - b))) from rfl, ← oi_sub] at h2
  exact lv_isub hx hb hdg h2
theorem V_imul {a b : Int} (hdg : decode (kC κ) pc = .ok (.imul, 1)) (k : V Γ κ (pc + 1) lv ((0, w32 (a * b)) :: st) μ r) : V Γ κ pc lv ((0, b) :: (0, a) :: st) μ r := by
  refine V_pure (pc' := pc + 1) (lv' := lv) (st' := ((0, w32 (a * b)) :: st)) ?_ (fun b _ => b) (fun _ b3 => ok_cons (w32_i _) (ok_tl (ok_tl b3))) k
  obtain ⟨p, l, e, R, s, m, args, below, meth, c, Q, G, ρ0, μ0⟩ := Γ
  intro O
  obtain ⟨hx, hb, hml, hown, hts, hcx, hlk, htr, hfr, hlo, hrt, hin9, htab⟩ := O
  intro ρ H locs ls ce sl Q' b1 b2 b3 b5 kk
  have h2 := kk ls b1
  rw [List.map_cons, show cv G ρ (0, w32 (a * b)) = .int (Int32.ofInt (w32 (a * b))) from rfl, ← oi_mul] at h2
  exact lv_imul hx hb hdg h2
theorem V_ineg {a : Int} (hdg : decode (kC κ) pc = .ok (.ineg, 1)) (k : V Γ κ (pc + 1) lv ((0, w32 (-a)) :: st) μ r) : V Γ κ pc lv ((0, a) :: st) μ r := by
  refine V_pure (pc' := pc + 1) (lv' := lv) (st' := ((0, w32 (-a)) :: st)) ?_ (fun b _ => b) (fun _ b3 => ok_cons (w32_i _) (ok_tl b3)) k
  obtain ⟨p, l, e, R, s, m, args, below, meth, c, Q, G, ρ0, μ0⟩ := Γ
  intro O
  obtain ⟨hx, hb, hml, hown, hts, hcx, hlk, htr, hfr, hlo, hrt, hin9, htab⟩ := O
  intro ρ H locs ls ce sl Q' b1 b2 b3 b5 kk
  have h2 := kk ls b1
  rw [List.map_cons, show cv G ρ (0, w32 (-a)) = .int (Int32.ofInt (w32 (-a))) from rfl, ← oi_neg] at h2
  exact lv_ineg hx hb hdg h2
theorem V_iand {a b : Int} (hdg : decode (kC κ) pc = .ok (.iand, 1)) (k : V Γ κ (pc + 1) lv ((0, bAnd a b) :: st) μ r) : V Γ κ pc lv ((0, b) :: (0, a) :: st) μ r := by
  refine V_pure (pc' := pc + 1) (lv' := lv) (st' := ((0, bAnd a b) :: st)) ?_ (fun b _ => b) (fun _ b3 => ok_cons (i32_to _) (ok_tl (ok_tl b3))) k
  obtain ⟨p, l, e, R, s, m, args, below, meth, c, Q, G, ρ0, μ0⟩ := Γ
  intro O
  obtain ⟨hx, hb, hml, hown, hts, hcx, hlk, htr, hfr, hlo, hrt, hin9, htab⟩ := O
  intro ρ H locs ls ce sl Q' b1 b2 b3 b5 kk
  have h2 := kk ls b1
  rw [List.map_cons, show cv G ρ (0, bAnd a b) = .int (Int32.ofInt (bAnd a b)) from rfl, bAnd, oi_of] at h2
  exact lv_iand hx hb hdg h2
theorem V_ior {a b : Int} (hdg : decode (kC κ) pc = .ok (.ior, 1)) (k : V Γ κ (pc + 1) lv ((0, bOr a b) :: st) μ r) : V Γ κ pc lv ((0, b) :: (0, a) :: st) μ r := by
  refine V_pure (pc' := pc + 1) (lv' := lv) (st' := ((0, bOr a b) :: st)) ?_ (fun b _ => b) (fun _ b3 => ok_cons (i32_to _) (ok_tl (ok_tl b3))) k
  obtain ⟨p, l, e, R, s, m, args, below, meth, c, Q, G, ρ0, μ0⟩ := Γ
  intro O
  obtain ⟨hx, hb, hml, hown, hts, hcx, hlk, htr, hfr, hlo, hrt, hin9, htab⟩ := O
  intro ρ H locs ls ce sl Q' b1 b2 b3 b5 kk
  have h2 := kk ls b1
  rw [List.map_cons, show cv G ρ (0, bOr a b) = .int (Int32.ofInt (bOr a b)) from rfl, bOr, oi_of] at h2
  exact lv_ior hx hb hdg h2
theorem V_ixor {a b : Int} (hdg : decode (kC κ) pc = .ok (.ixor, 1)) (k : V Γ κ (pc + 1) lv ((0, bXor a b) :: st) μ r) : V Γ κ pc lv ((0, b) :: (0, a) :: st) μ r := by
  refine V_pure (pc' := pc + 1) (lv' := lv) (st' := ((0, bXor a b) :: st)) ?_ (fun b _ => b) (fun _ b3 => ok_cons (i32_to _) (ok_tl (ok_tl b3))) k
  obtain ⟨p, l, e, R, s, m, args, below, meth, c, Q, G, ρ0, μ0⟩ := Γ
  intro O
  obtain ⟨hx, hb, hml, hown, hts, hcx, hlk, htr, hfr, hlo, hrt, hin9, htab⟩ := O
  intro ρ H locs ls ce sl Q' b1 b2 b3 b5 kk
  have h2 := kk ls b1
  rw [List.map_cons, show cv G ρ (0, bXor a b) = .int (Int32.ofInt (bXor a b)) from rfl, bXor, oi_of] at h2
  exact lv_ixor hx hb hdg h2
theorem V_ishl {a b : Int} (hdg : decode (kC κ) pc = .ok (.ishl, 1)) (k : V Γ κ (pc + 1) lv ((0, bShl a b) :: st) μ r) : V Γ κ pc lv ((0, b) :: (0, a) :: st) μ r := by
  refine V_pure (pc' := pc + 1) (lv' := lv) (st' := ((0, bShl a b) :: st)) ?_ (fun b _ => b) (fun _ b3 => ok_cons (i32_to _) (ok_tl (ok_tl b3))) k
  obtain ⟨p, l, e, R, s, m, args, below, meth, c, Q, G, ρ0, μ0⟩ := Γ
  intro O
  obtain ⟨hx, hb, hml, hown, hts, hcx, hlk, htr, hfr, hlo, hrt, hin9, htab⟩ := O
  intro ρ H locs ls ce sl Q' b1 b2 b3 b5 kk
  have h2 := kk ls b1
  rw [List.map_cons, show cv G ρ (0, bShl a b) = .int (Int32.ofInt (bShl a b)) from rfl, bShl, oi_of] at h2
  exact lv_ishl hx hb hdg h2
theorem V_ishr {a b : Int} (hdg : decode (kC κ) pc = .ok (.ishr, 1)) (k : V Γ κ (pc + 1) lv ((0, bShr a b) :: st) μ r) : V Γ κ pc lv ((0, b) :: (0, a) :: st) μ r := by
  refine V_pure (pc' := pc + 1) (lv' := lv) (st' := ((0, bShr a b) :: st)) ?_ (fun b _ => b) (fun _ b3 => ok_cons (i32_to _) (ok_tl (ok_tl b3))) k
  obtain ⟨p, l, e, R, s, m, args, below, meth, c, Q, G, ρ0, μ0⟩ := Γ
  intro O
  obtain ⟨hx, hb, hml, hown, hts, hcx, hlk, htr, hfr, hlo, hrt, hin9, htab⟩ := O
  intro ρ H locs ls ce sl Q' b1 b2 b3 b5 kk
  have h2 := kk ls b1
  rw [List.map_cons, show cv G ρ (0, bShr a b) = .int (Int32.ofInt (bShr a b)) from rfl, bShr, oi_of] at h2
  exact lv_ishr hx hb hdg h2
theorem V_iushr {a b : Int} (hdg : decode (kC κ) pc = .ok (.iushr, 1)) (k : V Γ κ (pc + 1) lv ((0, bUsh a b) :: st) μ r) : V Γ κ pc lv ((0, b) :: (0, a) :: st) μ r := by
  refine V_pure (pc' := pc + 1) (lv' := lv) (st' := ((0, bUsh a b) :: st)) ?_ (fun b _ => b) (fun _ b3 => ok_cons (i32_to _) (ok_tl (ok_tl b3))) k
  obtain ⟨p, l, e, R, s, m, args, below, meth, c, Q, G, ρ0, μ0⟩ := Γ
  intro O
  obtain ⟨hx, hb, hml, hown, hts, hcx, hlk, htr, hfr, hlo, hrt, hin9, htab⟩ := O
  intro ρ H locs ls ce sl Q' b1 b2 b3 b5 kk
  have h2 := kk ls b1
  rw [List.map_cons, show cv G ρ (0, bUsh a b) = .int (Int32.ofInt (bUsh a b)) from rfl, bUsh, oi_of] at h2
  exact lv_iushr hx hb hdg rfl h2
theorem V_ladd {a b : Int} (hdg : decode (kC κ) pc = .ok (.ladd, 1)) (k : V Γ κ (pc + 1) lv ((1, w64 (a + b)) :: st) μ r) : V Γ κ pc lv ((1, b) :: (1, a) :: st) μ r := by
  refine V_pure (pc' := pc + 1) (lv' := lv) (st' := ((1, w64 (a + b)) :: st)) ?_ (fun b _ => b) (fun _ b3 => ok_cons (w64_i _) (ok_tl (ok_tl b3))) k
  obtain ⟨p, l, e, R, s, m, args, below, meth, c, Q, G, ρ0, μ0⟩ := Γ
  intro O
  obtain ⟨hx, hb, hml, hown, hts, hcx, hlk, htr, hfr, hlo, hrt, hin9, htab⟩ := O
  intro ρ H locs ls ce sl Q' b1 b2 b3 b5 kk
  have h2 := kk ls b1
  rw [List.map_cons, show cv G ρ (1, w64 (a + b)) = .long (Int64.ofInt (w64 (a + b))) from rfl, ← lo_add] at h2
  exact lv_ladd hx hb hdg h2
theorem V_lsub {a b : Int} (hdg : decode (kC κ) pc = .ok (.lsub, 1)) (k : V Γ κ (pc + 1) lv ((1, w64 (a - b)) :: st) μ r) : V Γ κ pc lv ((1, b) :: (1, a) :: st) μ r := by
  refine V_pure (pc' := pc + 1) (lv' := lv) (st' := ((1, w64 (a - b)) :: st)) ?_ (fun b _ => b) (fun _ b3 => ok_cons (w64_i _) (ok_tl (ok_tl b3))) k
  obtain ⟨p, l, e, R, s, m, args, below, meth, c, Q, G, ρ0, μ0⟩ := Γ
  intro O
  obtain ⟨hx, hb, hml, hown, hts, hcx, hlk, htr, hfr, hlo, hrt, hin9, htab⟩ := O
  intro ρ H locs ls ce sl Q' b1 b2 b3 b5 kk
  have h2 := kk ls b1
  rw [List.map_cons, show cv G ρ (1, w64 (a - b)) = .long (Int64.ofInt (w64 (a - b))) from rfl, ← lo_sub] at h2
  exact lv_lsub hx hb hdg h2
theorem V_lmul {a b : Int} (hdg : decode (kC κ) pc = .ok (.lmul, 1)) (k : V Γ κ (pc + 1) lv ((1, w64 (a * b)) :: st) μ r) : V Γ κ pc lv ((1, b) :: (1, a) :: st) μ r := by
  refine V_pure (pc' := pc + 1) (lv' := lv) (st' := ((1, w64 (a * b)) :: st)) ?_ (fun b _ => b) (fun _ b3 => ok_cons (w64_i _) (ok_tl (ok_tl b3))) k
  obtain ⟨p, l, e, R, s, m, args, below, meth, c, Q, G, ρ0, μ0⟩ := Γ
  intro O
  obtain ⟨hx, hb, hml, hown, hts, hcx, hlk, htr, hfr, hlo, hrt, hin9, htab⟩ := O
  intro ρ H locs ls ce sl Q' b1 b2 b3 b5 kk
  have h2 := kk ls b1
  rw [List.map_cons, show cv G ρ (1, w64 (a * b)) = .long (Int64.ofInt (w64 (a * b))) from rfl, ← lo_mul] at h2
  exact lv_lmul hx hb hdg h2
theorem V_lcmp {a b : Int} (hdg : decode (kC κ) pc = .ok (.lcmp, 1)) (k : V Γ κ (pc + 1) lv ((0, cLong a b) :: st) μ r) : V Γ κ pc lv ((1, b) :: (1, a) :: st) μ r := by
  refine V_pure (pc' := pc + 1) (lv' := lv) (st' := ((0, cLong a b) :: st)) ?_ (fun b _ => b) (fun _ b3 => ok_cons (cLong_i _ _) (ok_tl (ok_tl b3))) k
  obtain ⟨p, l, e, R, s, m, args, below, meth, c, Q, G, ρ0, μ0⟩ := Γ
  intro O
  obtain ⟨hx, hb, hml, hown, hts, hcx, hlk, htr, hfr, hlo, hrt, hin9, htab⟩ := O
  intro ρ H locs ls ce sl Q' b1 b2 b3 b5 kk
  have h2 := kk ls b1
  rw [List.map_cons, show cv G ρ (0, cLong a b) = .int (Int32.ofInt (cLong a b)) from rfl, ← lg_cmp_c (ok_hd (ok_tl b3)) (ok_hd b3)] at h2
  exact W.lcmp hx hb hdg h2
theorem V_i2l {a : Int} (hdg : decode (kC κ) pc = .ok (.i2l, 1)) (k : V Γ κ (pc + 1) lv ((1, a) :: st) μ r) : V Γ κ pc lv ((0, a) :: st) μ r := by
  refine V_pure (pc' := pc + 1) (lv' := lv) (st' := ((1, a) :: st)) ?_ (fun b _ => b) (fun _ b3 => ok_cons (i64_of32 (ok_hd b3)) (ok_tl b3)) k
  obtain ⟨p, l, e, R, s, m, args, below, meth, c, Q, G, ρ0, μ0⟩ := Γ
  intro O
  obtain ⟨hx, hb, hml, hown, hts, hcx, hlk, htr, hfr, hlo, hrt, hin9, htab⟩ := O
  intro ρ H locs ls ce sl Q' b1 b2 b3 b5 kk
  exact lv_i2l hx hb hdg (oi_l (ok_hd b3)) (kk ls b1)
theorem V_l2i {a : Int} (hdg : decode (kC κ) pc = .ok (.l2i, 1)) (k : V Γ κ (pc + 1) lv ((0, w32 a) :: st) μ r) : V Γ κ pc lv ((1, a) :: st) μ r := by
  refine V_pure (pc' := pc + 1) (lv' := lv) (st' := ((0, w32 a) :: st)) ?_ (fun b _ => b) (fun _ b3 => ok_cons (w32_i _) (ok_tl b3)) k
  obtain ⟨p, l, e, R, s, m, args, below, meth, c, Q, G, ρ0, μ0⟩ := Γ
  intro O
  obtain ⟨hx, hb, hml, hown, hts, hcx, hlk, htr, hfr, hlo, hrt, hin9, htab⟩ := O
  intro ρ H locs ls ce sl Q' b1 b2 b3 b5 kk
  exact lv_l2i hx hb hdg (lo_i a) (kk ls b1)
theorem V_i2b {a : Int} (hdg : decode (kC κ) pc = .ok (.i2b, 1)) (k : V Γ κ (pc + 1) lv ((0, w8 a) :: st) μ r) : V Γ κ pc lv ((0, a) :: st) μ r := by
  refine V_pure (pc' := pc + 1) (lv' := lv) (st' := ((0, w8 a) :: st)) ?_ (fun b _ => b) (fun _ b3 => ok_cons (show i32 (w8 a) by have := w8_i a; unfold i32; omega) (ok_tl b3)) k
  obtain ⟨p, l, e, R, s, m, args, below, meth, c, Q, G, ρ0, μ0⟩ := Γ
  intro O
  obtain ⟨hx, hb, hml, hown, hts, hcx, hlk, htr, hfr, hlo, hrt, hin9, htab⟩ := O
  intro ρ H locs ls ce sl Q' b1 b2 b3 b5 kk
  exact lv_i2b hx hb hdg (oi_b a) (kk ls b1)
theorem V_i2c {a : Int} (hdg : decode (kC κ) pc = .ok (.i2c, 1)) (k : V Γ κ (pc + 1) lv ((0, bC a) :: st) μ r) : V Γ κ pc lv ((0, a) :: st) μ r := by
  refine V_pure (pc' := pc + 1) (lv' := lv) (st' := ((0, bC a) :: st)) ?_ (fun b _ => b) (fun _ b3 => ok_cons (i32_to _) (ok_tl b3)) k
  obtain ⟨p, l, e, R, s, m, args, below, meth, c, Q, G, ρ0, μ0⟩ := Γ
  intro O
  obtain ⟨hx, hb, hml, hown, hts, hcx, hlk, htr, hfr, hlo, hrt, hin9, htab⟩ := O
  intro ρ H locs ls ce sl Q' b1 b2 b3 b5 kk
  exact lv_i2c hx hb hdg (by rw [bC, oi_of]) (kk ls b1)
theorem V_i2f {a : Int} (hdg : decode (kC κ) pc = .ok (.i2f, 1)) (k : V Γ κ (pc + 1) lv ((3, fOf a) :: st) μ r) : V Γ κ pc lv ((0, a) :: st) μ r := by
  refine V_pure (pc' := pc + 1) (lv' := lv) (st' := ((3, fOf a) :: st)) ?_ (fun b _ => b) (fun _ b3 => ok_cons (fI_ok _) (ok_tl b3)) k
  obtain ⟨p, l, e, R, s, m, args, below, meth, c, Q, G, ρ0, μ0⟩ := Γ
  intro O
  obtain ⟨hx, hb, hml, hown, hts, hcx, hlk, htr, hfr, hlo, hrt, hin9, htab⟩ := O
  intro ρ H locs ls ce sl Q' b1 b2 b3 b5 kk
  have h2 := kk ls b1
  rw [List.map_cons, show cv G ρ (3, fOf a) = .float (fBits (fOf a)) from rfl, fOf, fBits_I] at h2
  exact lv_i2f hx hb hdg h2
theorem V_i2d {a : Int} (hdg : decode (kC κ) pc = .ok (.i2d, 1)) (k : V Γ κ (pc + 1) lv ((4, dOf a) :: st) μ r) : V Γ κ pc lv ((0, a) :: st) μ r := by
  refine V_pure (pc' := pc + 1) (lv' := lv) (st' := ((4, dOf a) :: st)) ?_ (fun b _ => b) (fun _ b3 => ok_cons (dI_ok _) (ok_tl b3)) k
  obtain ⟨p, l, e, R, s, m, args, below, meth, c, Q, G, ρ0, μ0⟩ := Γ
  intro O
  obtain ⟨hx, hb, hml, hown, hts, hcx, hlk, htr, hfr, hlo, hrt, hin9, htab⟩ := O
  intro ρ H locs ls ce sl Q' b1 b2 b3 b5 kk
  have h2 := kk ls b1
  rw [List.map_cons, show cv G ρ (4, dOf a) = .double (dBits (dOf a)) from rfl, dOf, dBits_I] at h2
  exact lv_i2d hx hb hdg h2
theorem V_fcmp {op : CmpOp} {a b : Int} (hdg : decode (kC κ) pc = .ok (.fcmp op, 1)) (k : V Γ κ (pc + 1) lv ((0, fCmp op a b) :: st) μ r) : V Γ κ pc lv ((3, b) :: (3, a) :: st) μ r := by
  refine V_pure (pc' := pc + 1) (lv' := lv) (st' := ((0, fCmp op a b) :: st)) ?_ (fun b _ => b) (fun _ b3 => ok_cons (i32_to _) (ok_tl (ok_tl b3))) k
  obtain ⟨p, l, e, R, s, m, args, below, meth, c, Q, G, ρ0, μ0⟩ := Γ
  intro O
  obtain ⟨hx, hb, hml, hown, hts, hcx, hlk, htr, hfr, hlo, hrt, hin9, htab⟩ := O
  intro ρ H locs ls ce sl Q' b1 b2 b3 b5 kk
  have h2 := kk ls b1
  rw [List.map_cons, show cv G ρ (0, fCmp op a b) = .int (Int32.ofInt (fCmp op a b)) from rfl, fCmp, oi_of] at h2
  exact lv_fcmp hx hb hdg h2
theorem V_dcmp {op : CmpOp} {a b : Int} (hdg : decode (kC κ) pc = .ok (.dcmp op, 1)) (k : V Γ κ (pc + 1) lv ((0, dCmp op a b) :: st) μ r) : V Γ κ pc lv ((4, b) :: (4, a) :: st) μ r := by
  refine V_pure (pc' := pc + 1) (lv' := lv) (st' := ((0, dCmp op a b) :: st)) ?_ (fun b _ => b) (fun _ b3 => ok_cons (i32_to _) (ok_tl (ok_tl b3))) k
  obtain ⟨p, l, e, R, s, m, args, below, meth, c, Q, G, ρ0, μ0⟩ := Γ
  intro O
  obtain ⟨hx, hb, hml, hown, hts, hcx, hlk, htr, hfr, hlo, hrt, hin9, htab⟩ := O
  intro ρ H locs ls ce sl Q' b1 b2 b3 b5 kk
  have h2 := kk ls b1
  rw [List.map_cons, show cv G ρ (0, dCmp op a b) = .int (Int32.ofInt (dCmp op a b)) from rfl, dCmp, oi_of] at h2
  exact lv_dcmp hx hb hdg h2
theorem V_dup {x : AV} (hc : catA x.1 = 1) (hdg : decode (kC κ) pc = .ok (.dup, 1)) (k : V Γ κ (pc + 1) lv (x :: x :: st) μ r) : V Γ κ pc lv (x :: st) μ r := by
  refine V_pure (pc' := pc + 1) (lv' := lv) (st' := (x :: x :: st)) ?_ (fun b _ => b) (fun _ b3 => ok_cons (ok_hd b3) b3) k
  obtain ⟨p, l, e, R, s, m, args, below, meth, c, Q, G, ρ0, μ0⟩ := Γ
  intro O
  obtain ⟨hx, hb, hml, hown, hts, hcx, hlk, htr, hfr, hlo, hrt, hin9, htab⟩ := O
  intro ρ H locs ls ce sl Q' b1 b2 b3 b5 kk
  exact lv_dup hx hb hdg (by rw [cv_cat]; exact hc) (kk ls b1)
theorem V_pop {x : AV} (hc : catA x.1 = 1) (hdg : decode (kC κ) pc = .ok (.pop, 1)) (k : V Γ κ (pc + 1) lv st μ r) : V Γ κ pc lv (x :: st) μ r := by
  refine V_pure (pc' := pc + 1) (lv' := lv) (st' := st) ?_ (fun b _ => b) (fun _ b3 => ok_tl b3) k
  obtain ⟨p, l, e, R, s, m, args, below, meth, c, Q, G, ρ0, μ0⟩ := Γ
  intro O
  obtain ⟨hx, hb, hml, hown, hts, hcx, hlk, htr, hfr, hlo, hrt, hin9, htab⟩ := O
  intro ρ H locs ls ce sl Q' b1 b2 b3 b5 kk
  exact lv_pop hx hb hdg (by rw [cv_cat]; exact hc) (kk ls b1)
theorem V_dup2 {x y : AV} (hc : catA x.1 = 1) (hc2 : catA y.1 = 1) (hdg : decode (kC κ) pc = .ok (.dup2, 1)) (k : V Γ κ (pc + 1) lv (x :: y :: x :: y :: st) μ r) : V Γ κ pc lv (x :: y :: st) μ r := by
  refine V_pure (pc' := pc + 1) (lv' := lv) (st' := (x :: y :: x :: y :: st)) ?_ (fun b _ => b) (fun _ b3 => ok_cons (ok_hd b3) (ok_cons (ok_hd (ok_tl b3)) b3)) k
  obtain ⟨p, l, e, R, s, m, args, below, meth, c, Q, G, ρ0, μ0⟩ := Γ
  intro O
  obtain ⟨hx, hb, hml, hown, hts, hcx, hlk, htr, hfr, hlo, hrt, hin9, htab⟩ := O
  intro ρ H locs ls ce sl Q' b1 b2 b3 b5 kk
  exact lv_dup2_11 hx hb hdg (by rw [cv_cat]; exact hc) (by rw [cv_cat]; exact hc2) (kk ls b1)
theorem V_goto {off : Int} {tgt : Nat} (hdg : decode (kC κ) pc = .ok (.goto off, 3)) (ht : (pc : Int) + off = (tgt : Int)) (k : V Γ κ (tgt) lv st μ r) : V Γ κ pc lv st μ r := by
  refine V_pure (pc' := tgt) (lv' := lv) (st' := st) ?_ (fun b _ => b) (fun _ b3 => b3) k
  obtain ⟨p, l, e, R, s, m, args, below, meth, c, Q, G, ρ0, μ0⟩ := Γ
  intro O
  obtain ⟨hx, hb, hml, hown, hts, hcx, hlk, htr, hfr, hlo, hrt, hin9, htab⟩ := O
  intro ρ H locs ls ce sl Q' b1 b2 b3 b5 kk
  exact lv_goto hx hb hdg ht (kk ls b1)
theorem V_icmp_eq {a b : Int} {off : Int} {tgt : Nat} (hdg : decode (kC κ) pc = .ok (.if_icmp .eq off, 3)) (ht : (pc : Int) + off = (tgt : Int)) (k1 : V Γ κ tgt lv st μ r1) (k2 : V Γ κ (pc + 3) lv st μ r2) : V Γ κ pc lv ((0, b) :: (0, a) :: st) μ (if a = b then r1 else r2) := by
  refine V_br (pc1 := tgt) (pc2 := pc + 3) (st' := st) ?_ (fun b3 => ok_tl (ok_tl b3)) k1 k2
  obtain ⟨p, l, e, R, s, m, args, below, meth, c, Q, G, ρ0, μ0⟩ := Γ
  intro O
  obtain ⟨hx, hb, -⟩ := O
  intro ρ H locs ls ce sl Q' b3 j1 j2
  have ha : i32 a := ok_hd (ok_tl b3)
  have hb9 : i32 b := ok_hd b3
  refine lv_icmp_eq (x := Int32.ofInt a) (y := Int32.ofInt b) hx hb hdg ht (fun h => j1 ?_) (fun h => j2 (fun h9 => h ?_))
  · first | exact (oi_eq ha hb9).mp h | exact fun e => h ((oi_eq ha hb9).mpr e) | exact (oi_lt ha hb9).mp h | exact (oi_le ha hb9).mp h | exact (oi_lt hb9 ha).mp h | exact (oi_le hb9 ha).mp h
  · first | exact (oi_eq ha hb9).mpr h9 | exact fun e => h9 ((oi_eq ha hb9).mp e) | exact (oi_lt ha hb9).mpr h9 | exact (oi_le ha hb9).mpr h9 | exact (oi_lt hb9 ha).mpr h9 | exact (oi_le hb9 ha).mpr h9
theorem V_if_eq {a : Int} {off : Int} {tgt : Nat} (hdg : decode (kC κ) pc = .ok (.ifCond .eq off, 3)) (ht : (pc : Int) + off = (tgt : Int)) (k1 : V Γ κ tgt lv st μ r1) (k2 : V Γ κ (pc + 3) lv st μ r2) : V Γ κ pc lv ((0, a) :: st) μ (if a = 0 then r1 else r2) := by
  refine V_br (pc1 := tgt) (pc2 := pc + 3) (st' := st) ?_ (fun b3 => ok_tl b3) k1 k2
  obtain ⟨p, l, e, R, s, m, args, below, meth, c, Q, G, ρ0, μ0⟩ := Γ
  intro O
  obtain ⟨hx, hb, -⟩ := O
  intro ρ H locs ls ce sl Q' b3 j1 j2
  have ha : i32 a := ok_hd b3
  have hb9 : i32 0 := i32_0
  refine lv_if_eq (x := Int32.ofInt a) hx hb hdg ht (fun h => j1 ?_) (fun h => j2 (fun h9 => h ?_)) <;> rw [← oi_0] at h
  · first | exact (oi_eq ha hb9).mp h | exact fun e => h ((oi_eq ha hb9).mpr e) | exact (oi_lt ha hb9).mp h | exact (oi_le ha hb9).mp h | exact (oi_lt hb9 ha).mp h | exact (oi_le hb9 ha).mp h
  · rw [← oi_0]
    first | exact (oi_eq ha hb9).mpr h9 | exact fun e => h9 ((oi_eq ha hb9).mp e) | exact (oi_lt ha hb9).mpr h9 | exact (oi_le ha hb9).mpr h9 | exact (oi_lt hb9 ha).mpr h9 | exact (oi_le hb9 ha).mpr h9
theorem V_icmp_lt {a b : Int} {off : Int} {tgt : Nat} (hdg : decode (kC κ) pc = .ok (.if_icmp .lt off, 3)) (ht : (pc : Int) + off = (tgt : Int)) (k1 : V Γ κ tgt lv st μ r1) (k2 : V Γ κ (pc + 3) lv st μ r2) : V Γ κ pc lv ((0, b) :: (0, a) :: st) μ (if a < b then r1 else r2) := by
  refine V_br (pc1 := tgt) (pc2 := pc + 3) (st' := st) ?_ (fun b3 => ok_tl (ok_tl b3)) k1 k2
  obtain ⟨p, l, e, R, s, m, args, below, meth, c, Q, G, ρ0, μ0⟩ := Γ
  intro O
  obtain ⟨hx, hb, -⟩ := O
  intro ρ H locs ls ce sl Q' b3 j1 j2
  have ha : i32 a := ok_hd (ok_tl b3)
  have hb9 : i32 b := ok_hd b3
  refine lv_icmp_lt (x := Int32.ofInt a) (y := Int32.ofInt b) hx hb hdg ht (fun h => j1 ?_) (fun h => j2 (fun h9 => h ?_))
  · first | exact (oi_eq ha hb9).mp h | exact fun e => h ((oi_eq ha hb9).mpr e) | exact (oi_lt ha hb9).mp h | exact (oi_le ha hb9).mp h | exact (oi_lt hb9 ha).mp h | exact (oi_le hb9 ha).mp h
  · first | exact (oi_eq ha hb9).mpr h9 | exact fun e => h9 ((oi_eq ha hb9).mp e) | exact (oi_lt ha hb9).mpr h9 | exact (oi_le ha hb9).mpr h9 | exact (oi_lt hb9 ha).mpr h9 | exact (oi_le hb9 ha).mpr h9
theorem V_if_lt {a : Int} {off : Int} {tgt : Nat} (hdg : decode (kC κ) pc = .ok (.ifCond .lt off, 3)) (ht : (pc : Int) + off = (tgt : Int)) (k1 : V Γ κ tgt lv st μ r1) (k2 : V Γ κ (pc + 3) lv st μ r2) : V Γ κ pc lv ((0, a) :: st) μ (if a < 0 then r1 else r2) := by
  refine V_br (pc1 := tgt) (pc2 := pc + 3) (st' := st) ?_ (fun b3 => ok_tl b3) k1 k2
  obtain ⟨p, l, e, R, s, m, args, below, meth, c, Q, G, ρ0, μ0⟩ := Γ
  intro O
  obtain ⟨hx, hb, -⟩ := O
  intro ρ H locs ls ce sl Q' b3 j1 j2
  have ha : i32 a := ok_hd b3
  have hb9 : i32 0 := i32_0
  refine lv_if_lt (x := Int32.ofInt a) hx hb hdg ht (fun h => j1 ?_) (fun h => j2 (fun h9 => h ?_)) <;> rw [← oi_0] at h
  · first | exact (oi_eq ha hb9).mp h | exact fun e => h ((oi_eq ha hb9).mpr e) | exact (oi_lt ha hb9).mp h | exact (oi_le ha hb9).mp h | exact (oi_lt hb9 ha).mp h | exact (oi_le hb9 ha).mp h
  · rw [← oi_0]
    first | exact (oi_eq ha hb9).mpr h9 | exact fun e => h9 ((oi_eq ha hb9).mp e) | exact (oi_lt ha hb9).mpr h9 | exact (oi_le ha hb9).mpr h9 | exact (oi_lt hb9 ha).mpr h9 | exact (oi_le hb9 ha).mpr h9
theorem V_icmp_ge {a b : Int} {off : Int} {tgt : Nat} (hdg : decode (kC κ) pc = .ok (.if_icmp .ge off, 3)) (ht : (pc : Int) + off = (tgt : Int)) (k1 : V Γ κ tgt lv st μ r1) (k2 : V Γ κ (pc + 3) lv st μ r2) : V Γ κ pc lv ((0, b) :: (0, a) :: st) μ (if b ≤ a then r1 else r2) := by
  refine V_br (pc1 := tgt) (pc2 := pc + 3) (st' := st) ?_ (fun b3 => ok_tl (ok_tl b3)) k1 k2
  obtain ⟨p, l, e, R, s, m, args, below, meth, c, Q, G, ρ0, μ0⟩ := Γ
  intro O
  obtain ⟨hx, hb, -⟩ := O
  intro ρ H locs ls ce sl Q' b3 j1 j2
  have ha : i32 a := ok_hd (ok_tl b3)
  have hb9 : i32 b := ok_hd b3
  refine lv_icmp_ge (x := Int32.ofInt a) (y := Int32.ofInt b) hx hb hdg ht (fun h => j1 ?_) (fun h => j2 (fun h9 => h ?_))
  · first | exact (oi_eq ha hb9).mp h | exact fun e => h ((oi_eq ha hb9).mpr e) | exact (oi_lt ha hb9).mp h | exact (oi_le ha hb9).mp h | exact (oi_lt hb9 ha).mp h | exact (oi_le hb9 ha).mp h
  · first | exact (oi_eq ha hb9).mpr h9 | exact fun e => h9 ((oi_eq ha hb9).mp e) | exact (oi_lt ha hb9).mpr h9 | exact (oi_le ha hb9).mpr h9 | exact (oi_lt hb9 ha).mpr h9 | exact (oi_le hb9 ha).mpr h9
theorem V_if_ge {a : Int} {off : Int} {tgt : Nat} (hdg : decode (kC κ) pc = .ok (.ifCond .ge off, 3)) (ht : (pc : Int) + off = (tgt : Int)) (k1 : V Γ κ tgt lv st μ r1) (k2 : V Γ κ (pc + 3) lv st μ r2) : V Γ κ pc lv ((0, a) :: st) μ (if 0 ≤ a then r1 else r2) := by
  refine V_br (pc1 := tgt) (pc2 := pc + 3) (st' := st) ?_ (fun b3 => ok_tl b3) k1 k2
  obtain ⟨p, l, e, R, s, m, args, below, meth, c, Q, G, ρ0, μ0⟩ := Γ
  intro O
  obtain ⟨hx, hb, -⟩ := O
  intro ρ H locs ls ce sl Q' b3 j1 j2
  have ha : i32 a := ok_hd b3
  have hb9 : i32 0 := i32_0
  refine lv_if_ge (x := Int32.ofInt a) hx hb hdg ht (fun h => j1 ?_) (fun h => j2 (fun h9 => h ?_)) <;> rw [← oi_0] at h
  · first | exact (oi_eq ha hb9).mp h | exact fun e => h ((oi_eq ha hb9).mpr e) | exact (oi_lt ha hb9).mp h | exact (oi_le ha hb9).mp h | exact (oi_lt hb9 ha).mp h | exact (oi_le hb9 ha).mp h
  · rw [← oi_0]
    first | exact (oi_eq ha hb9).mpr h9 | exact fun e => h9 ((oi_eq ha hb9).mp e) | exact (oi_lt ha hb9).mpr h9 | exact (oi_le ha hb9).mpr h9 | exact (oi_lt hb9 ha).mpr h9 | exact (oi_le hb9 ha).mpr h9
theorem V_icmp_gt {a b : Int} {off : Int} {tgt : Nat} (hdg : decode (kC κ) pc = .ok (.if_icmp .gt off, 3)) (ht : (pc : Int) + off = (tgt : Int)) (k1 : V Γ κ tgt lv st μ r1) (k2 : V Γ κ (pc + 3) lv st μ r2) : V Γ κ pc lv ((0, b) :: (0, a) :: st) μ (if b < a then r1 else r2) := by
  refine V_br (pc1 := tgt) (pc2 := pc + 3) (st' := st) ?_ (fun b3 => ok_tl (ok_tl b3)) k1 k2
  obtain ⟨p, l, e, R, s, m, args, below, meth, c, Q, G, ρ0, μ0⟩ := Γ
  intro O
  obtain ⟨hx, hb, -⟩ := O
  intro ρ H locs ls ce sl Q' b3 j1 j2
  have ha : i32 a := ok_hd (ok_tl b3)
  have hb9 : i32 b := ok_hd b3
  refine lv_icmp_gt (x := Int32.ofInt a) (y := Int32.ofInt b) hx hb hdg ht (fun h => j1 ?_) (fun h => j2 (fun h9 => h ?_))
  · first | exact (oi_eq ha hb9).mp h | exact fun e => h ((oi_eq ha hb9).mpr e) | exact (oi_lt ha hb9).mp h | exact (oi_le ha hb9).mp h | exact (oi_lt hb9 ha).mp h | exact (oi_le hb9 ha).mp h
  · first | exact (oi_eq ha hb9).mpr h9 | exact fun e => h9 ((oi_eq ha hb9).mp e) | exact (oi_lt ha hb9).mpr h9 | exact (oi_le ha hb9).mpr h9 | exact (oi_lt hb9 ha).mpr h9 | exact (oi_le hb9 ha).mpr h9
theorem V_if_gt {a : Int} {off : Int} {tgt : Nat} (hdg : decode (kC κ) pc = .ok (.ifCond .gt off, 3)) (ht : (pc : Int) + off = (tgt : Int)) (k1 : V Γ κ tgt lv st μ r1) (k2 : V Γ κ (pc + 3) lv st μ r2) : V Γ κ pc lv ((0, a) :: st) μ (if 0 < a then r1 else r2) := by
  refine V_br (pc1 := tgt) (pc2 := pc + 3) (st' := st) ?_ (fun b3 => ok_tl b3) k1 k2
  obtain ⟨p, l, e, R, s, m, args, below, meth, c, Q, G, ρ0, μ0⟩ := Γ
  intro O
  obtain ⟨hx, hb, -⟩ := O
  intro ρ H locs ls ce sl Q' b3 j1 j2
  have ha : i32 a := ok_hd b3
  have hb9 : i32 0 := i32_0
  refine lv_if_gt (x := Int32.ofInt a) hx hb hdg ht (fun h => j1 ?_) (fun h => j2 (fun h9 => h ?_)) <;> rw [← oi_0] at h
  · first | exact (oi_eq ha hb9).mp h | exact fun e => h ((oi_eq ha hb9).mpr e) | exact (oi_lt ha hb9).mp h | exact (oi_le ha hb9).mp h | exact (oi_lt hb9 ha).mp h | exact (oi_le hb9 ha).mp h
  · rw [← oi_0]
    first | exact (oi_eq ha hb9).mpr h9 | exact fun e => h9 ((oi_eq ha hb9).mp e) | exact (oi_lt ha hb9).mpr h9 | exact (oi_le ha hb9).mpr h9 | exact (oi_lt hb9 ha).mpr h9 | exact (oi_le hb9 ha).mpr h9
theorem V_icmp_le {a b : Int} {off : Int} {tgt : Nat} (hdg : decode (kC κ) pc = .ok (.if_icmp .le off, 3)) (ht : (pc : Int) + off = (tgt : Int)) (k1 : V Γ κ tgt lv st μ r1) (k2 : V Γ κ (pc + 3) lv st μ r2) : V Γ κ pc lv ((0, b) :: (0, a) :: st) μ (if a ≤ b then r1 else r2) := by
  refine V_br (pc1 := tgt) (pc2 := pc + 3) (st' := st) ?_ (fun b3 => ok_tl (ok_tl b3)) k1 k2
  obtain ⟨p, l, e, R, s, m, args, below, meth, c, Q, G, ρ0, μ0⟩ := Γ
  intro O
  obtain ⟨hx, hb, -⟩ := O
  intro ρ H locs ls ce sl Q' b3 j1 j2
  have ha : i32 a := ok_hd (ok_tl b3)
  have hb9 : i32 b := ok_hd b3
  refine lv_icmp_le (x := Int32.ofInt a) (y := Int32.ofInt b) hx hb hdg ht (fun h => j1 ?_) (fun h => j2 (fun h9 => h ?_))
  · first | exact (oi_eq ha hb9).mp h | exact fun e => h ((oi_eq ha hb9).mpr e) | exact (oi_lt ha hb9).mp h | exact (oi_le ha hb9).mp h | exact (oi_lt hb9 ha).mp h | exact (oi_le hb9 ha).mp h
  · first | exact (oi_eq ha hb9).mpr h9 | exact fun e => h9 ((oi_eq ha hb9).mp e) | exact (oi_lt ha hb9).mpr h9 | exact (oi_le ha hb9).mpr h9 | exact (oi_lt hb9 ha).mpr h9 | exact (oi_le hb9 ha).mpr h9
theorem V_if_le {a : Int} {off : Int} {tgt : Nat} (hdg : decode (kC κ) pc = .ok (.ifCond .le off, 3)) (ht : (pc : Int) + off = (tgt : Int)) (k1 : V Γ κ tgt lv st μ r1) (k2 : V Γ κ (pc + 3) lv st μ r2) : V Γ κ pc lv ((0, a) :: st) μ (if a ≤ 0 then r1 else r2) := by
  refine V_br (pc1 := tgt) (pc2 := pc + 3) (st' := st) ?_ (fun b3 => ok_tl b3) k1 k2
  obtain ⟨p, l, e, R, s, m, args, below, meth, c, Q, G, ρ0, μ0⟩ := Γ
  intro O
  obtain ⟨hx, hb, -⟩ := O
  intro ρ H locs ls ce sl Q' b3 j1 j2
  have ha : i32 a := ok_hd b3
  have hb9 : i32 0 := i32_0
  refine lv_if_le (x := Int32.ofInt a) hx hb hdg ht (fun h => j1 ?_) (fun h => j2 (fun h9 => h ?_)) <;> rw [← oi_0] at h
  · first | exact (oi_eq ha hb9).mp h | exact fun e => h ((oi_eq ha hb9).mpr e) | exact (oi_lt ha hb9).mp h | exact (oi_le ha hb9).mp h | exact (oi_lt hb9 ha).mp h | exact (oi_le hb9 ha).mp h
  · rw [← oi_0]
    first | exact (oi_eq ha hb9).mpr h9 | exact fun e => h9 ((oi_eq ha hb9).mp e) | exact (oi_lt ha hb9).mpr h9 | exact (oi_le ha hb9).mpr h9 | exact (oi_lt hb9 ha).mpr h9 | exact (oi_le hb9 ha).mpr h9
theorem V_icmp_ne {a b : Int} {off : Int} {tgt : Nat} (hdg : decode (kC κ) pc = .ok (.if_icmp .ne off, 3)) (ht : (pc : Int) + off = (tgt : Int)) (k1 : V Γ κ tgt lv st μ r1) (k2 : V Γ κ (pc + 3) lv st μ r2) : V Γ κ pc lv ((0, b) :: (0, a) :: st) μ (if ¬ a = b then r1 else r2) := by
  refine V_br (pc1 := tgt) (pc2 := pc + 3) (st' := st) ?_ (fun b3 => ok_tl (ok_tl b3)) k1 k2
  obtain ⟨p, l, e, R, s, m, args, below, meth, c, Q, G, ρ0, μ0⟩ := Γ
  intro O
  obtain ⟨hx, hb, -⟩ := O
  intro ρ H locs ls ce sl Q' b3 j1 j2
  have ha : i32 a := ok_hd (ok_tl b3)
  have hb9 : i32 b := ok_hd b3
  exact lv_icmp_ne (x := Int32.ofInt a) (y := Int32.ofInt b) hx hb hdg ht (fun h => j1 (fun e => h ((oi_eq ha hb9).mpr e))) (fun h => j2 (fun n => n ((oi_eq ha hb9).mp h)))
theorem V_if_ne {a : Int} {off : Int} {tgt : Nat} (hdg : decode (kC κ) pc = .ok (.ifCond .ne off, 3)) (ht : (pc : Int) + off = (tgt : Int)) (k1 : V Γ κ tgt lv st μ r1) (k2 : V Γ κ (pc + 3) lv st μ r2) : V Γ κ pc lv ((0, a) :: st) μ (if ¬ a = 0 then r1 else r2) := by
  refine V_br (pc1 := tgt) (pc2 := pc + 3) (st' := st) ?_ (fun b3 => ok_tl b3) k1 k2
  obtain ⟨p, l, e, R, s, m, args, below, meth, c, Q, G, ρ0, μ0⟩ := Γ
  intro O
  obtain ⟨hx, hb, -⟩ := O
  intro ρ H locs ls ce sl Q' b3 j1 j2
  have ha : i32 a := ok_hd b3
  have hb9 : i32 0 := i32_0
  exact lv_if_ne (x := Int32.ofInt a) hx hb hdg ht (fun h => j1 (fun e => h (by rw [← oi_0, oi_eq ha hb9]; exact e))) (fun h => j2 (fun n => n (by rw [← oi_0, oi_eq ha hb9] at h; exact h)))
theorem V_ifnonnull {a : Int} {off : Int} {tgt : Nat} (hdg : decode (kC κ) pc = .ok (.ifnonnull off, 3)) (ht : (pc : Int) + off = (tgt : Int)) (k1 : V Γ κ tgt lv st μ r1) (k2 : V Γ κ (pc + 3) lv st μ r2) : V Γ κ pc lv ((2, a) :: st) μ (if ¬ a = 0 then r1 else r2) := by
  refine V_br (pc1 := tgt) (pc2 := pc + 3) (st' := st) ?_ (fun b3 => ok_tl b3) k1 k2
  obtain ⟨p, l, e, R, s, m, args, below, meth, c, Q, G, ρ0, μ0⟩ := Γ
  intro O
  obtain ⟨hx, hb, -⟩ := O
  intro ρ H locs ls ce sl Q' b3 j1 j2
  rw [List.map_cons, show cv G ρ (2, a) = cvR ρ a from rfl]
  by_cases h : a = 0
  · rw [show cvR ρ a = .null by unfold cvR; rw [if_pos h]]
    exact lv_ifnonnullN hx hb hdg (j2 (fun n => n h))
  · rw [show cvR ρ a = .ref (ρ a) by unfold cvR; rw [if_neg h]]
    exact lv_ifnonnull hx hb hdg ht (j1 h)
theorem V_idiv {a b : Int} {K : Int → Rz} (hdg : decode (kC κ) pc = .ok (.idiv, 1)) (k : ∀ z, V Γ κ (pc + 1) lv ((0, z) :: st) μ (K z)) : V Γ κ pc lv ((0, b) :: (0, a) :: st) μ (DV a b K) := by
  unfold DV
  by_cases h0 : b = 0
  · rw [if_pos h0]
    exact V_none
  · rw [if_neg h0]
    refine V_pure (pc' := pc + 1) (st' := (0, w32 (a.tdiv b)) :: st) ?_ (fun b _ => b) (fun _ b3 => ok_cons (w32_i _) (ok_tl (ok_tl b3))) (k _)
    obtain ⟨p, l, e, R, s, m, args, below, meth, c, Q, G, ρ0, μ0⟩ := Γ
    intro O
    obtain ⟨hx, hb, -⟩ := O
    intro ρ H locs ls ce sl Q' b1 b2 b3 b5 kk
    have h2 := kk ls b1
    rw [List.map_cons, show cv G ρ (0, w32 (a.tdiv b)) = .int (Int32.ofInt (w32 (a.tdiv b))) from rfl, ← oi_div (ok_hd (ok_tl b3)) (ok_hd b3)] at h2
    exact lv_idiv hx hb hdg (fun e => h0 (by rw [← oi_0, oi_eq (ok_hd b3) i32_0] at e; exact e)) h2
theorem V_irem {a b : Int} {K : Int → Rz} (hdg : decode (kC κ) pc = .ok (.irem, 1)) (k : ∀ z, V Γ κ (pc + 1) lv ((0, z) :: st) μ (K z)) : V Γ κ pc lv ((0, b) :: (0, a) :: st) μ (RM a b K) := by
  unfold RM
  by_cases h0 : b = 0
  · rw [if_pos h0]
    exact V_none
  · rw [if_neg h0]
    refine V_pure (pc' := pc + 1) (st' := (0, a.tmod b) :: st) ?_ (fun b _ => b) (fun _ b3 => ok_cons (tmod_i (ok_hd (ok_tl b3))) (ok_tl (ok_tl b3))) (k _)
    obtain ⟨p, l, e, R, s, m, args, below, meth, c, Q, G, ρ0, μ0⟩ := Γ
    intro O
    obtain ⟨hx, hb, -⟩ := O
    intro ρ H locs ls ce sl Q' b1 b2 b3 b5 kk
    have h2 := kk ls b1
    rw [List.map_cons, show cv G ρ (0, a.tmod b) = .int (Int32.ofInt (a.tmod b)) from rfl, ← oi_rem (ok_hd (ok_tl b3)) (ok_hd b3)] at h2
    exact lv_irem hx hb hdg (fun e => h0 (by rw [← oi_0, oi_eq (ok_hd b3) i32_0] at e; exact e)) h2
theorem V_ldiv {a b : Int} {K : Int → Rz} (hdg : decode (kC κ) pc = .ok (.ldiv, 1)) (k : ∀ z, V Γ κ (pc + 1) lv ((1, z) :: st) μ (K z)) : V Γ κ pc lv ((1, b) :: (1, a) :: st) μ (LD a b K) := by
  unfold LD
  by_cases h0 : b = 0
  · rw [if_pos h0]
    exact V_none
  · rw [if_neg h0]
    refine V_pure (pc' := pc + 1) (st' := (1, w64 (a.tdiv b)) :: st) ?_ (fun b _ => b) (fun _ b3 => ok_cons (w64_i _) (ok_tl (ok_tl b3))) (k _)
    obtain ⟨p, l, e, R, s, m, args, below, meth, c, Q, G, ρ0, μ0⟩ := Γ
    intro O
    obtain ⟨hx, hb, -⟩ := O
    intro ρ H locs ls ce sl Q' b1 b2 b3 b5 kk
    have h2 := kk ls b1
    rw [List.map_cons, show cv G ρ (1, w64 (a.tdiv b)) = .long (Int64.ofInt (w64 (a.tdiv b))) from rfl, ← lo_div (ok_hd (ok_tl b3)) (ok_hd b3)] at h2
    exact lv_ldiv hx hb hdg (fun e => h0 (by rw [← lo_0, lo_eq (ok_hd b3) i64_0] at e; exact e)) h2
theorem V_ddiv {a b : Int} {K : Int → Rz} (hdg : decode (kC κ) pc = .ok (.ddiv, 1)) (k : ∀ z, V Γ κ (pc + 1) lv ((4, z) :: st) μ (K z)) : V Γ κ pc lv ((4, b) :: (4, a) :: st) μ (DD a b K) := by
  unfold DD
  by_cases h0 : dOk (FP.ddiv (dBits a) (dBits b)) = true
  · rw [if_pos h0]
    refine V_pure (pc' := pc + 1) (st' := (4, dDiv a b) :: st) ?_ (fun b _ => b) (fun _ b3 => ok_cons (dI_ok _) (ok_tl (ok_tl b3))) (k _)
    obtain ⟨p, l, e, R, s, m, args, below, meth, c, Q, G, ρ0, μ0⟩ := Γ
    intro O
    obtain ⟨hx, hb, -⟩ := O
    intro ρ H locs ls ce sl Q' b1 b2 b3 b5 kk
    have h2 := kk ls b1
    rw [List.map_cons, show cv G ρ (4, dDiv a b) = .double (dBits (dDiv a b)) from rfl, dDiv, dBits_I] at h2
    exact lv_ddiv hx hb hdg (show vf_n64 _ by unfold vf_n64; exact of_decide_eq_true h0) h2
  · rw [if_neg h0]
    exact V_none
theorem V_fdiv {a b : Int} {K : Int → Rz} (hdg : decode (kC κ) pc = .ok (.fdiv, 1)) (k : ∀ z, V Γ κ (pc + 1) lv ((3, z) :: st) μ (K z)) : V Γ κ pc lv ((3, b) :: (3, a) :: st) μ (FD a b K) := by
  unfold FD
  by_cases h0 : fOk (FP.fdiv (fBits a) (fBits b)) = true
  · rw [if_pos h0]
    refine V_pure (pc' := pc + 1) (st' := (3, fDiv a b) :: st) ?_ (fun b _ => b) (fun _ b3 => ok_cons (fI_ok _) (ok_tl (ok_tl b3))) (k _)
    obtain ⟨p, l, e, R, s, m, args, below, meth, c, Q, G, ρ0, μ0⟩ := Γ
    intro O
    obtain ⟨hx, hb, -⟩ := O
    intro ρ H locs ls ce sl Q' b1 b2 b3 b5 kk
    have h2 := kk ls b1
    rw [List.map_cons, show cv G ρ (3, fDiv a b) = .float (fBits (fDiv a b)) from rfl, fDiv, fBits_I] at h2
    exact lv_fdiv hx hb hdg (show vf_n32 _ by unfold vf_n32; exact of_decide_eq_true h0) h2
  · rw [if_neg h0]
    exact V_none
theorem V_f2d {a : Int} {K : Int → Rz} (hdg : decode (kC κ) pc = .ok (.f2d, 1)) (k : ∀ z, V Γ κ (pc + 1) lv ((4, z) :: st) μ (K z)) : V Γ κ pc lv ((3, a) :: st) μ (DF a K) := by
  unfold DF
  by_cases h0 : dOk (FP.f2d (fBits a)) = true
  · rw [if_pos h0]
    refine V_pure (pc' := pc + 1) (st' := (4, dOfF a) :: st) ?_ (fun b _ => b) (fun _ b3 => ok_cons (dI_ok _) (ok_tl b3)) (k _)
    obtain ⟨p, l, e, R, s, m, args, below, meth, c, Q, G, ρ0, μ0⟩ := Γ
    intro O
    obtain ⟨hx, hb, -⟩ := O
    intro ρ H locs ls ce sl Q' b1 b2 b3 b5 kk
    have h2 := kk ls b1
    rw [List.map_cons, show cv G ρ (4, dOfF a) = .double (dBits (dOfF a)) from rfl, dOfF, dBits_I] at h2
    exact lv_f2d hx hb hdg (show vf_n64 _ by unfold vf_n64; exact of_decide_eq_true h0) h2
  · rw [if_neg h0]
    exact V_none
end VROWS
end
section
/-! rows of V that read or write the small memory -/
theorem own_ne {a : Int} (h : own a) : a ≠ 0 := by unfold own at h; omega
theorem bd_up {μ : Mem} {a k v : Int} (h : a ≠ 0) : bd (mUp μ a k v) = bd μ := by
  unfold bd
  rw [mUp_ne μ v (by omega), mUp_ne μ v (by omega)]
theorem vok_bd {μ ν : Mem} {x : AV} (h : μ 0 0 ≤ ν 0 0 ∧ ν 0 3 ≤ μ 0 3) (hx : vok (bd μ) x) : vok (bd ν) x := vok_mono h hx
theorem ix_ok {i len : Int} (hi : i32 i) (h0 : 0 ≤ i) (h1 : i < len) : ¬ (Int32.ofInt i < 0 ∨ len.toNat ≤ (Int32.ofInt i).toNatClampNeg) ∧ (Int32.ofInt i).toNatClampNeg = i.toNat := by
  have e : (Int32.ofInt i).toNatClampNeg = i.toNat := by
    show (Int32.ofInt i).toInt.toNat = i.toNat
    rw [oi_to hi]
  refine ⟨?_, e⟩
  rintro (h | h)
  · rw [← oi_0, oi_lt hi i32_0] at h
    omega
  · rw [e] at h
    omega
def cmpT (t : Nat) (ty : FieldType) : Bool := match ty with
  | .int => t == 0
  | .long => t == 1
  | .object _ => t == 2
  | .array _ => t == 2
  | _ => false
theorem cmpT_ok {t : Nat} {ty : FieldType} (h : cmpT t ty = true) (G : Gc) (ρ : Int → Nat) (z : Int) : narrow ty (cv G ρ (t, z)) = cv G ρ (t, z) ∧ fits ty (cv G ρ (t, z)) = true := by
  cases ty <;> simp only [cmpT, beq_iff_eq, Bool.false_eq_true] at h
  · subst h
    exact ⟨rfl, rfl⟩
  · subst h
    exact ⟨rfl, rfl⟩
  · subst h
    show narrow _ (cvR ρ z) = cvR ρ z ∧ fits _ (cvR ρ z) = true
    unfold cvR
    split <;> exact ⟨rfl, rfl⟩
  · subst h
    show narrow _ (cvR ρ z) = cvR ρ z ∧ fits _ (cvR ρ z) = true
    unfold cvR
    split <;> exact ⟨rfl, rfl⟩
theorem va_apa {G : Gc} {s : State} {args : Array Value} {C : String} {T : u_T} {N ci : Nat} (hts : ∀ w ∈ lw_all, w.before args s = true) (hin : ∀ w ∈ u_ws C T N, w ∈ lw_all) (ty : Nat → FieldType) (hty : ∀ k, k < N → parseFieldDescriptor (T k).2.2.1 = some (ty k)) (hnm : ∀ a, a < N → ∀ b, b < N → a ≠ b → (T a).2.1 ≠ (T b).2.1) (hK : va_K (gD G) vwC (tysG G) s) (hc : vwC[ci]? = some (C, T, N)) : ∀ x y, x < N → y < N → x ≠ y → ((gD G).2 ci) x ≠ ((gD G).2 ci) y :=
  va_apart (own := C) hts hin ty hty hnm hK hc
section VHEAP
variable {Γ : Gam} {κ : Kap} {pc : Nat} {lv : List (Nat × AV)} {st : List AV} {μ : Mem} {r : Rz}
theorem V_KD {ci a : Int} (k : μ a (-1) = ci + 1 → V Γ κ pc lv st μ r) : V Γ κ pc lv st μ (KD ci a μ r) := by
  unfold KD
  by_cases h : μ a (-1) = ci + 1
  · rw [if_pos h]; exact k h
  · rw [if_neg h]; exact V_none
/-- a read of the memory -/
theorem V_read {pc' : Nat} {st' : List AV}
    (h : match Γ with
      | (p, l, e, R, s, m, args, below, meth, c, Q, G, ρ0, μ0) => Ok (p, l, e, R, s, m, args, below, meth, c, Q, G, ρ0, μ0) κ → ∀ (ρ : Int → Nat) (H : Heap) (locs : List Loc) (ls : Array Slot) (ce sl : Nat) (Q' : State → Prop), (∀ q ∈ st, vok (bd μ) q) → GP G ρ μ H → va_S (fun q => gB G ≤ q) s.heap H locs →
        ((∀ q ∈ st', vok (bd μ) q) → W p l e R s m args below meth c H locs ce sl Q' (F0 m pc' ls (st'.map (cv G ρ)))) → W p l e R s m args below meth c H locs ce sl Q' (F0 m pc ls (st.map (cv G ρ))))
    (k : V Γ κ pc' lv st' μ r) : V Γ κ pc lv st μ r := by
  obtain ⟨p, l, e, R, s, m, args, below, meth, c, Q, G, ρ0, μ0⟩ := Γ
  intro x v μ' hr
  obtain ⟨k1, k2⟩ := k x v μ' hr
  refine ⟨k1, fun O a1 a2 a3 a4 a5 ρ H locs ls b1 b2 b3 b4 b5 b6 => ?_⟩
  exact h O ρ H locs ls _ _ _ b3 b4 b5 (fun b3' => k2 O a1 a2 a3 a4 a5 ρ H locs ls b1 b2 b3' b4 b5 b6)
/-- a write of the memory -/
theorem V_write {pc' : Nat} {st' : List AV} {a j z : Int} (ha : own a)
    (h : match Γ with
      | (p, l, e, R, s, m, args, below, meth, c, Q, G, ρ0, μ0) => Ok (p, l, e, R, s, m, args, below, meth, c, Q, G, ρ0, μ0) κ → ∀ (ρ : Int → Nat) (H : Heap) (locs : List Loc) (ls : Array Slot) (ce sl : Nat) (Q' : State → Prop), (∀ q ∈ st, vok (bd μ) q) → GP G ρ μ H → va_S (fun q => gB G ≤ q) s.heap H locs →
        (∀ (H1 : Heap) (locs1 : List Loc), GP G ρ (mUp μ a j z) H1 → va_S (fun q => gB G ≤ q) s.heap H1 locs1 → W p l e R s m args below meth c H1 locs1 ce sl Q' (F0 m pc' ls (st'.map (cv G ρ)))) → W p l e R s m args below meth c H locs ce sl Q' (F0 m pc ls (st.map (cv G ρ))))
    (hs : (∀ q ∈ st, vok (bd μ) q) → ∀ q ∈ st', vok (bd μ) q)
    (k : V Γ κ pc' lv st' (mUp μ a j z) r) : V Γ κ pc lv st μ r := by
  obtain ⟨p, l, e, R, s, m, args, below, meth, c, Q, G, ρ0, μ0⟩ := Γ
  intro x v μ' hr
  obtain ⟨k1, k2⟩ := k x v μ' hr
  have h0 : a ≠ 0 := own_ne ha
  have e0 : ∀ i, mUp μ a j z 0 i = μ 0 i := fun i => mUp_ne μ z (by omega)
  simp only [e0, bd_up h0] at k1 k2
  refine ⟨k1, fun O a1 a2 a3 a4 a5 ρ H locs ls b1 b2 b3 b4 b5 b6 => ?_⟩
  exact h O ρ H locs ls _ _ _ b3 b4 b5 (fun H1 locs1 b4' b5' => k2 O a1 a2 a3 a4 a5 ρ H1 locs1 ls b1 b2 (hs b3) b4' b5' b6)
theorem V_null (hdg : decode (kC κ) pc = .ok (.aconst_null, 1)) (h0 : 0 < μ 0 0) (k : V Γ κ (pc + 1) lv ((2, 0) :: st) μ r) : V Γ κ pc lv st μ r := by
  refine V_read (pc' := pc + 1) (st' := ((2, 0) :: st)) ?_ k
  obtain ⟨p, l, e, R, s, m, args, below, meth, c, Q, G, ρ0, μ0⟩ := Γ
  intro O
  obtain ⟨hx, hb, -⟩ := O
  intro ρ H locs ls ce sl Q' b3 b4 b5 kk
  exact lv_null hx hb hdg (kk (ok_cons (show μ 0 3 < 0 ∧ 0 < μ 0 0 from ⟨by have := b4.1.2.1; omega, h0⟩) b3))
theorem V_getf (ci : Nat) {C : String} {T : u_T} {N : Nat} {idx : Nat} {a : Int} {K : Int → Rz} (hcl : vwC[ci]? = some (C, T, N)) (h8 : ci < 12) (hN : nfl ci = N) (hin : ∀ w ∈ u_ws C T N, w ∈ lw_all) (kf : Nat) (hk : kf < N) {ref : String} (hlink : Cond.fieldLink (kW κ) idx ref (T kf).2.1 (T kf).2.2.1 ∈ lw_all) (href : (T kf).1 = ref) {t : Nat} (ht : ftg ci kf = t) (hdg : decode (kC κ) pc = .ok (.getfield idx, 3))
    (k : ∀ z, V Γ κ (pc + 3) lv ((t, z) :: st) μ (K z)) : V Γ κ pc lv ((2, a) :: st) μ (GF ci kf a μ K) := by
  unfold GF
  by_cases h0 : μ a (-1) = (ci : Int) + 1
  · rw [if_pos h0]
    refine V_read ?_ (k (μ a kf))
    obtain ⟨p, l, e, R, s, m, args, below, meth, c, Q, G, ρ0, μ0⟩ := Γ
    intro O
    obtain ⟨hx, hb, hml, hown, hts, hcx, hlk, htr, hfr, hlo, hrt, hin9, htab⟩ := O
    intro ρ H locs ls ce sl Q' b3 b4 b5 kk
    obtain ⟨g1, g2, g3, ⟨cell, q1, q2, q3, q4⟩, g5⟩ := b4.obj (ok_hd b3) h8 h0
    subst ht
    subst hN
    have kk := kk (ok_cons (g5 kf hk) (ok_tl b3))
    obtain ⟨hS, hfc, kC, hkC, hkind⟩ := hcx.1.1.1 ci _ hcl
    obtain ⟨cf, kf', fi, f, hi, hsl⟩ := hS kf hk
    rw [List.map_cons, show cv G ρ (2, a) = cvR ρ a from rfl, cvR_pos g1]
    refine W.getf hx hb hown (hts _ hlink) (by rw [← href]; exact hi) (u_facts hfc hkC (u_lays hts hin hk) hi).1 q1 (by rw [q3]; exact fun h => by cases h) (v := cv G ρ (ftg ci kf, μ a kf)) ?_ rfl rfl hdg kk
    rw [hsl, q4 kf hk]
  · rw [if_neg h0]
    exact V_none
theorem V_putf (ci : Nat) {C : String} {T : u_T} {N : Nat} {idx : Nat} {a z : Int} {K : Mem → Rz} (hcl : vwC[ci]? = some (C, T, N)) (h8 : ci < 12) (hN : nfl ci = N) (hin : ∀ w ∈ u_ws C T N, w ∈ lw_all) (ty0 : Nat → FieldType) (hty : ∀ k, k < N → parseFieldDescriptor (T k).2.2.1 = some (ty0 k)) (hnm : ∀ a, a < N → ∀ b, b < N → a ≠ b → (T a).2.1 ≠ (T b).2.1) (kf : Nat) (hk : kf < N) {ref : String} (hlink : Cond.fieldLink (kW κ) idx ref (T kf).2.1 (T kf).2.2.1 ∈ lw_all) (href : (T kf).1 = ref) (hfin : (T kf).2.2.2 = false) {t : Nat} (ht : ftg ci kf = t) (hcm : cmpT t (ty0 kf) = true) (hdg : decode (kC κ) pc = .ok (.putfield idx, 3))
    (k : ∀ ν, V Γ κ (pc + 3) lv st ν (K ν)) : V Γ κ pc lv ((t, z) :: (2, a) :: st) μ (PF ci kf a z μ K) := by
  unfold PF
  by_cases h0 : (0 < a ∨ a < -21) ∧ μ a (-1) = (ci : Int) + 1
  · rw [if_pos h0]
    refine V_write h0.1 ?_ (fun b3 => ok_tl (ok_tl b3)) (k (mUp μ a kf z))
    obtain ⟨p, l, e, R, s, m, args, below, meth, c, Q, G, ρ0, μ0⟩ := Γ
    intro O
    obtain ⟨hx, hb, hml, hown, hts, hcx, hlk, htr, hfr, hlo, hrt, hin9, htab⟩ := O
    intro ρ H locs ls ce sl Q' b3 b4 b5 kk
    obtain ⟨g1, g2, g3, ⟨cell, q1, q2, q3, q4⟩, g5⟩ := b4.obj (ok_hd (ok_tl b3)) h8 h0.2
    subst ht
    subst hN
    have hap := va_apa hts hin ty0 hty hnm hcx.1.1 hcl
    obtain ⟨hS, hfc, kC, hkC, hkind⟩ := hcx.1.1.1 ci _ hcl
    obtain ⟨cf, kf', fi, f, hi, hsl⟩ := hS kf hk
    have hlay := hts _ (hin _ (u_in_lay hk))
    unfold u_lay at hlay
    rw [if_neg (by rw [hfin]; decide)] at hlay
    have hst := (u_facts hfc hkC (u_lays hts hin hk) hi).1
    obtain ⟨hn, hfit⟩ := cmpT_ok hcm G ρ z
    have h6 := u_store hfc hkC hkind hlay hi (hty kf hk) hn hfit
    rw [List.map_cons, List.map_cons, show cv G ρ (2, a) = cvR ρ a from rfl, cvR_pos g1]
    refine W.putK hx hb (f := f) ⟨hown, hts _ hlink, ⟨_, _, _, by rw [← href]; exact hi⟩, hst⟩ (by rw [q2]; exact h6) q1 q3 (by rw [hsl]; exact k2_hasslot (q4 kf hk)) rfl rfl hdg fun H' e1 e2 e3 => ?_
    rw [hsl] at e1 ⊢
    refine kk H' _ (b4.put h0.1 g2 (by omega) e3 (Or.inl ⟨ci, h8, by rw [mUp_ne _ _ (by omega)]; exact h0.2, ?_, fun j hj => ?_⟩)) (va_S.put (A := fun q => gB G ≤ q) b5 e2 e3 (g3 h0.1))
    · refine t_OB.to (V := updV (fun k => cv G ρ (ftg ci k, μ a k)) kf (cv G ρ (ftg ci kf, z))) ⟨_, e1, q2, q3, t_set q4 hap hk _⟩ (fun j _ => ?_)
      unfold updV mUp
      by_cases e9 : j = kf
      · subst e9
        simp
      · have e8 : ¬ ((j : Int) = (kf : Int)) := by omega
        simp [e9, e8]
    · rw [bd_up g1]
      by_cases e9 : j = kf
      · subst e9
        rw [mUp_same]
        exact ok_hd b3
      · rw [mUp_ne _ _ (by omega)]
        exact g5 j hj
  · rw [if_neg h0]
    exact V_none
theorem V_putfF (hki : kI κ = true) (ci : Nat) {C : String} {T : u_T} {N : Nat} {idx : Nat} {a z : Int} {K : Mem → Rz} (hcl : vwC[ci]? = some (C, T, N)) (h8 : ci < 12) (hN : nfl ci = N) (hin : ∀ w ∈ u_ws C T N, w ∈ lw_all) (ty0 : Nat → FieldType) (hty : ∀ k, k < N → parseFieldDescriptor (T k).2.2.1 = some (ty0 k)) (hnm : ∀ a, a < N → ∀ b, b < N → a ≠ b → (T a).2.1 ≠ (T b).2.1) (kf : Nat) (hk : kf < N) {ref : String} (hlink : Cond.fieldLink (kW κ) idx ref (T kf).2.1 (T kf).2.2.1 ∈ lw_all) (href : (T kf).1 = ref) (hfin : (T kf).2.2.2 = true) (hdecl : (T kf).1 = kW κ) {t : Nat} (ht : ftg ci kf = t) (hcm : cmpT t (ty0 kf) = true) (hdg : decode (kC κ) pc = .ok (.putfield idx, 3))
    (k : ∀ ν, V Γ κ (pc + 3) lv st ν (K ν)) : V Γ κ pc lv ((t, z) :: (2, a) :: st) μ (PF ci kf a z μ K) := by
  unfold PF
  by_cases h0 : (0 < a ∨ a < -21) ∧ μ a (-1) = (ci : Int) + 1
  · rw [if_pos h0]
    refine V_write h0.1 ?_ (fun b3 => ok_tl (ok_tl b3)) (k (mUp μ a kf z))
    obtain ⟨p, l, e, R, s, m, args, below, meth, c, Q, G, ρ0, μ0⟩ := Γ
    intro O
    obtain ⟨hx, hb, hml, hown, hts, hcx, hlk, htr, hfr, hlo, hrt, hin9, htab⟩ := O
    intro ρ H locs ls ce sl Q' b3 b4 b5 kk
    obtain ⟨g1, g2, g3, ⟨cell, q1, q2, q3, q4⟩, g5⟩ := b4.obj (ok_hd (ok_tl b3)) h8 h0.2
    subst ht
    subst hN
    have hap := va_apa hts hin ty0 hty hnm hcx.1.1 hcl
    obtain ⟨hS, hfc, kC, hkC, hkind⟩ := hcx.1.1.1 ci _ hcl
    obtain ⟨cf, kf', fi, f, hi, hsl⟩ := hS kf hk
    have hlay := hts _ (hin _ (u_in_lay hk))
    unfold u_lay at hlay
    rw [if_pos hfin] at hlay
    have hst := (u_facts hfc hkC (u_lays hts hin hk) hi).1
    have hcf : m.cls = cf := by
      obtain ⟨_, _, c', _, _, _, -, -, hf', -, -, -, hown2, -⟩ := Cond.laysFinal_spec hlay
      have e1 : c' = cf := by have := hi.symm.trans hf'; simp at this; exact this.1.symm
      rw [hdecl] at hown2
      rw [← e1]; exact Option.some.inj (hown.symm.trans hown2)
    obtain ⟨hn, hfit⟩ := cmpT_ok hcm G ρ z
    have h6 := u_fits hfc hkC hkind (Or.inr hlay) hi (hty kf hk) hn hfit
    rw [List.map_cons, List.map_cons, show cv G ρ (2, a) = cvR ρ a from rfl, cvR_pos g1]
    refine W.putFinK hx hb hown (hts _ hlink) (by rw [← href]; exact hi) hst hcf (hin9 hki) (by rw [q2]; exact h6) q1 q3 (by rw [hsl]; exact k2_hasslot (q4 kf hk)) rfl rfl hdg fun H' e1 e2 e3 => ?_
    rw [hsl] at e1 ⊢
    refine kk H' _ (b4.put h0.1 g2 (by omega) e3 (Or.inl ⟨ci, h8, by rw [mUp_ne _ _ (by omega)]; exact h0.2, ?_, fun j hj => ?_⟩)) (va_S.put (A := fun q => gB G ≤ q) b5 e2 e3 (g3 h0.1))
    · refine t_OB.to (V := updV (fun k => cv G ρ (ftg ci k, μ a k)) kf (cv G ρ (ftg ci kf, z))) ⟨_, e1, q2, q3, t_set q4 hap hk _⟩ (fun j _ => ?_)
      unfold updV mUp
      by_cases e9 : j = kf
      · subst e9
        simp
      · have e8 : ¬ ((j : Int) = (kf : Int)) := by omega
        simp [e9, e8]
    · rw [bd_up g1]
      by_cases e9 : j = kf
      · subst e9
        rw [mUp_same]
        exact ok_hd b3
      · rw [mUp_ne _ _ (by omega)]
        exact g5 j hj
  · rw [if_neg h0]
    exact V_none
theorem V_putz (ci : Nat) {C : String} {T : u_T} {N : Nat} {idx : Nat} {a z : Int} {K : Mem → Rz} (hcl : vwC[ci]? = some (C, T, N)) (h8 : ci < 12) (hN : nfl ci = N) (hin : ∀ w ∈ u_ws C T N, w ∈ lw_all) (ty0 : Nat → FieldType) (hty : ∀ k, k < N → parseFieldDescriptor (T k).2.2.1 = some (ty0 k)) (hnm : ∀ a, a < N → ∀ b, b < N → a ≠ b → (T a).2.1 ≠ (T b).2.1) (kf : Nat) (hk : kf < N) {ref : String} (hlink : Cond.fieldLink (kW κ) idx ref (T kf).2.1 (T kf).2.2.1 ∈ lw_all) (href : (T kf).1 = ref) (hfin : (T kf).2.2.2 = false) (ht : ftg ci kf = 0) (hcm : ty0 kf = .boolean) (hdg : decode (kC κ) pc = .ok (.putfield idx, 3))
    (k : ∀ ν, V Γ κ (pc + 3) lv st ν (K ν)) : V Γ κ pc lv ((0, z) :: (2, a) :: st) μ (PZ ci kf a z μ K) := by
  unfold PZ
  by_cases h0 : (0 < a ∨ a < -21) ∧ μ a (-1) = (ci : Int) + 1 ∧ (z = 0 ∨ z = 1)
  · rw [if_pos h0]
    refine V_write h0.1 ?_ (fun b3 => ok_tl (ok_tl b3)) (k (mUp μ a kf z))
    obtain ⟨p, l, e, R, s, m, args, below, meth, c, Q, G, ρ0, μ0⟩ := Γ
    intro O
    obtain ⟨hx, hb, hml, hown, hts, hcx, hlk, htr, hfr, hlo, hrt, hin9, htab⟩ := O
    intro ρ H locs ls ce sl Q' b3 b4 b5 kk
    obtain ⟨g1, g2, g3, ⟨cell, q1, q2, q3, q4⟩, g5⟩ := b4.obj (ok_hd (ok_tl b3)) h8 h0.2.1
    subst hN
    have hap := va_apa hts hin ty0 hty hnm hcx.1.1 hcl
    obtain ⟨hS, hfc, kC, hkC, hkind⟩ := hcx.1.1.1 ci _ hcl
    obtain ⟨cf, kf', fi, f, hi, hsl⟩ := hS kf hk
    have hlay := hts _ (hin _ (u_in_lay hk))
    unfold u_lay at hlay
    rw [if_neg (by rw [hfin]; decide)] at hlay
    have hst := (u_facts hfc hkC (u_lays hts hin hk) hi).1
    have hnf : narrow .boolean (cv G ρ (0, z)) = cv G ρ (0, z) ∧ fits .boolean (cv G ρ (0, z)) = true := by
      rcases h0.2.2 with rfl | rfl
      · exact ⟨show narrow .boolean (.int (Int32.ofInt 0)) = .int (Int32.ofInt 0) by decide, show fits .boolean (.int (Int32.ofInt 0)) = true by decide⟩
      · exact ⟨show narrow .boolean (.int (Int32.ofInt 1)) = .int (Int32.ofInt 1) by decide, show fits .boolean (.int (Int32.ofInt 1)) = true by decide⟩
    have hty' := hty kf hk
    rw [hcm] at hty'
    have h6 := u_store hfc hkC hkind hlay hi hty' hnf.1 hnf.2
    rw [List.map_cons, List.map_cons, show cv G ρ (2, a) = cvR ρ a from rfl, cvR_pos g1]
    refine W.putK hx hb (f := f) ⟨hown, hts _ hlink, ⟨_, _, _, by rw [← href]; exact hi⟩, hst⟩ (by rw [q2]; exact h6) q1 q3 (by rw [hsl]; exact k2_hasslot (q4 kf hk)) rfl rfl hdg fun H' e1 e2 e3 => ?_
    rw [hsl] at e1 ⊢
    refine kk H' _ (b4.put h0.1 g2 (by omega) e3 (Or.inl ⟨ci, h8, by rw [mUp_ne _ _ (by omega)]; exact h0.2.1, ?_, fun j hj => ?_⟩)) (va_S.put (A := fun q => gB G ≤ q) b5 e2 e3 (g3 h0.1))
    · refine t_OB.to (V := updV (fun k => cv G ρ (ftg ci k, μ a k)) kf (cv G ρ (0, z))) ⟨_, e1, q2, q3, t_set q4 hap hk _⟩ (fun j _ => ?_)
      unfold updV mUp
      by_cases e9 : j = kf
      · subst e9
        simp [ht]
      · have e8 : ¬ ((j : Int) = (kf : Int)) := by omega
        simp [e9, e8]
    · rw [bd_up g1]
      by_cases e9 : j = kf
      · subst e9
        rw [mUp_same, ht]
        exact ok_hd b3
      · rw [mUp_ne _ _ (by omega)]
        exact g5 j hj
  · rw [if_neg h0]
    exact V_none
theorem V_getfS (ci : Nat) {C : String} {T : u_T} {N : Nat} {idx : Nat} {a : Int} {K : Int → Rz} (hcl : vwC[ci]? = some (C, T, N)) (h8 : ci < 12) (hN : nfl ci = N) (hin : ∀ w ∈ u_ws C T N, w ∈ lw_all) (kf : Nat) (hk : kf < N) {ref : String} (hlink : Cond.fieldLink (kW κ) idx ref (T kf).2.1 (T kf).2.2.1 ∈ lw_all) (hsame : Cond.sameField ref (T kf).1 (T kf).2.1 (T kf).2.2.1 ∈ lw_all) {t : Nat} (ht : ftg ci kf = t) (hdg : decode (kC κ) pc = .ok (.getfield idx, 3))
    (k : ∀ z, V Γ κ (pc + 3) lv ((t, z) :: st) μ (K z)) : V Γ κ pc lv ((2, a) :: st) μ (GF ci kf a μ K) := by
  unfold GF
  by_cases h0 : μ a (-1) = (ci : Int) + 1
  · rw [if_pos h0]
    refine V_read ?_ (k (μ a kf))
    obtain ⟨p, l, e, R, s, m, args, below, meth, c, Q, G, ρ0, μ0⟩ := Γ
    intro O
    obtain ⟨hx, hb, hml, hown, hts, hcx, hlk, htr, hfr, hlo, hrt, hin9, htab⟩ := O
    intro ρ H locs ls ce sl Q' b3 b4 b5 kk
    obtain ⟨g1, g2, g3, ⟨cell, q1, q2, q3, q4⟩, g5⟩ := b4.obj (ok_hd b3) h8 h0
    subst ht
    subst hN
    have kk := kk (ok_cons (g5 kf hk) (ok_tl b3))
    obtain ⟨hS, hfc, kC, hkC, hkind⟩ := hcx.1.1.1 ci _ hcl
    obtain ⟨cf, kf', fi, f, hi, hsl⟩ := hS kf hk
    rw [List.map_cons, show cv G ρ (2, a) = cvR ρ a from rfl, cvR_pos g1]
    refine W.getf hx hb hown (hts _ hlink) (u_same (hts _ hsame) _ hi) (u_facts hfc hkC (u_lays hts hin hk) hi).1 q1 (by rw [q3]; exact fun h => by cases h) (v := cv G ρ (ftg ci kf, μ a kf)) ?_ rfl rfl hdg kk
    rw [hsl, q4 kf hk]
  · rw [if_neg h0]
    exact V_none
theorem V_putfS (ci : Nat) {C : String} {T : u_T} {N : Nat} {idx : Nat} {a z : Int} {K : Mem → Rz} (hcl : vwC[ci]? = some (C, T, N)) (h8 : ci < 12) (hN : nfl ci = N) (hin : ∀ w ∈ u_ws C T N, w ∈ lw_all) (ty0 : Nat → FieldType) (hty : ∀ k, k < N → parseFieldDescriptor (T k).2.2.1 = some (ty0 k)) (hnm : ∀ a, a < N → ∀ b, b < N → a ≠ b → (T a).2.1 ≠ (T b).2.1) (kf : Nat) (hk : kf < N) {ref : String} (hlink : Cond.fieldLink (kW κ) idx ref (T kf).2.1 (T kf).2.2.1 ∈ lw_all) (hsame : Cond.sameField ref (T kf).1 (T kf).2.1 (T kf).2.2.1 ∈ lw_all) (hfin : (T kf).2.2.2 = false) {t : Nat} (ht : ftg ci kf = t) (hcm : cmpT t (ty0 kf) = true) (hdg : decode (kC κ) pc = .ok (.putfield idx, 3))
    (k : ∀ ν, V Γ κ (pc + 3) lv st ν (K ν)) : V Γ κ pc lv ((t, z) :: (2, a) :: st) μ (PF ci kf a z μ K) := by
  unfold PF
  by_cases h0 : (0 < a ∨ a < -21) ∧ μ a (-1) = (ci : Int) + 1
  · rw [if_pos h0]
    refine V_write h0.1 ?_ (fun b3 => ok_tl (ok_tl b3)) (k (mUp μ a kf z))
    obtain ⟨p, l, e, R, s, m, args, below, meth, c, Q, G, ρ0, μ0⟩ := Γ
    intro O
    obtain ⟨hx, hb, hml, hown, hts, hcx, hlk, htr, hfr, hlo, hrt, hin9, htab⟩ := O
    intro ρ H locs ls ce sl Q' b3 b4 b5 kk
    obtain ⟨g1, g2, g3, ⟨cell, q1, q2, q3, q4⟩, g5⟩ := b4.obj (ok_hd (ok_tl b3)) h8 h0.2
    subst ht
    subst hN
    have hap := va_apa hts hin ty0 hty hnm hcx.1.1 hcl
    obtain ⟨hS, hfc, kC, hkC, hkind⟩ := hcx.1.1.1 ci _ hcl
    obtain ⟨cf, kf', fi, f, hi, hsl⟩ := hS kf hk
    have hlay := hts _ (hin _ (u_in_lay hk))
    unfold u_lay at hlay
    rw [if_neg (by rw [hfin]; decide)] at hlay
    have hst := (u_facts hfc hkC (u_lays hts hin hk) hi).1
    obtain ⟨hn, hfit⟩ := cmpT_ok hcm G ρ z
    have h6 := u_store hfc hkC hkind hlay hi (hty kf hk) hn hfit
    rw [List.map_cons, List.map_cons, show cv G ρ (2, a) = cvR ρ a from rfl, cvR_pos g1]
    refine W.putK hx hb (f := f) ⟨hown, hts _ hlink, ⟨_, _, _, u_same (hts _ hsame) _ hi⟩, hst⟩ (by rw [q2]; exact h6) q1 q3 (by rw [hsl]; exact k2_hasslot (q4 kf hk)) rfl rfl hdg fun H' e1 e2 e3 => ?_
    rw [hsl] at e1 ⊢
    refine kk H' _ (b4.put h0.1 g2 (by omega) e3 (Or.inl ⟨ci, h8, by rw [mUp_ne _ _ (by omega)]; exact h0.2, ?_, fun j hj => ?_⟩)) (va_S.put (A := fun q => gB G ≤ q) b5 e2 e3 (g3 h0.1))
    · refine t_OB.to (V := updV (fun k => cv G ρ (ftg ci k, μ a k)) kf (cv G ρ (ftg ci kf, z))) ⟨_, e1, q2, q3, t_set q4 hap hk _⟩ (fun j _ => ?_)
      unfold updV mUp
      by_cases e9 : j = kf
      · subst e9
        simp
      · have e8 : ¬ ((j : Int) = (kf : Int)) := by omega
        simp [e9, e8]
    · rw [bd_up g1]
      by_cases e9 : j = kf
      · subst e9
        rw [mUp_same]
        exact ok_hd b3
      · rw [mUp_ne _ _ (by omega)]
        exact g5 j hj
  · rw [if_neg h0]
    exact V_none
theorem V_putb (ci : Nat) {C : String} {T : u_T} {N : Nat} {idx : Nat} {a z : Int} {K : Mem → Rz} (hcl : vwC[ci]? = some (C, T, N)) (h8 : ci < 12) (hN : nfl ci = N) (hin : ∀ w ∈ u_ws C T N, w ∈ lw_all) (ty0 : Nat → FieldType) (hty : ∀ k, k < N → parseFieldDescriptor (T k).2.2.1 = some (ty0 k)) (hnm : ∀ a, a < N → ∀ b, b < N → a ≠ b → (T a).2.1 ≠ (T b).2.1) (kf : Nat) (hk : kf < N) {ref : String} (hlink : Cond.fieldLink (kW κ) idx ref (T kf).2.1 (T kf).2.2.1 ∈ lw_all) (href : (T kf).1 = ref) (hfin : (T kf).2.2.2 = false) (ht : ftg ci kf = 0) (hcm : ty0 kf = .byte) (hdg : decode (kC κ) pc = .ok (.putfield idx, 3))
    (k : ∀ ν, V Γ κ (pc + 3) lv st ν (K ν)) : V Γ κ pc lv ((0, z) :: (2, a) :: st) μ (PB ci kf a z μ K) := by
  unfold PB
  by_cases h0 : (0 < a ∨ a < -21) ∧ μ a (-1) = (ci : Int) + 1 ∧ (z = 0 ∨ z = 1)
  · rw [if_pos h0]
    refine V_write h0.1 ?_ (fun b3 => ok_tl (ok_tl b3)) (k (mUp μ a kf z))
    obtain ⟨p, l, e, R, s, m, args, below, meth, c, Q, G, ρ0, μ0⟩ := Γ
    intro O
    obtain ⟨hx, hb, hml, hown, hts, hcx, hlk, htr, hfr, hlo, hrt, hin9, htab⟩ := O
    intro ρ H locs ls ce sl Q' b3 b4 b5 kk
    obtain ⟨g1, g2, g3, ⟨cell, q1, q2, q3, q4⟩, g5⟩ := b4.obj (ok_hd (ok_tl b3)) h8 h0.2.1
    subst hN
    have hap := va_apa hts hin ty0 hty hnm hcx.1.1 hcl
    obtain ⟨hS, hfc, kC, hkC, hkind⟩ := hcx.1.1.1 ci _ hcl
    obtain ⟨cf, kf', fi, f, hi, hsl⟩ := hS kf hk
    have hlay := hts _ (hin _ (u_in_lay hk))
    unfold u_lay at hlay
    rw [if_neg (by rw [hfin]; decide)] at hlay
    have hst := (u_facts hfc hkC (u_lays hts hin hk) hi).1
    have hnf : narrow .byte (cv G ρ (0, z)) = cv G ρ (0, z) ∧ fits .byte (cv G ρ (0, z)) = true := by
      rcases h0.2.2 with rfl | rfl
      · exact ⟨show narrow .byte (.int (Int32.ofInt 0)) = .int (Int32.ofInt 0) by decide, show fits .byte (.int (Int32.ofInt 0)) = true by decide⟩
      · exact ⟨show narrow .byte (.int (Int32.ofInt 1)) = .int (Int32.ofInt 1) by decide, show fits .byte (.int (Int32.ofInt 1)) = true by decide⟩
    have hty' := hty kf hk
    rw [hcm] at hty'
    have h6 := u_store hfc hkC hkind hlay hi hty' hnf.1 hnf.2
    rw [List.map_cons, List.map_cons, show cv G ρ (2, a) = cvR ρ a from rfl, cvR_pos g1]
    refine W.putK hx hb (f := f) ⟨hown, hts _ hlink, ⟨_, _, _, by rw [← href]; exact hi⟩, hst⟩ (by rw [q2]; exact h6) q1 q3 (by rw [hsl]; exact k2_hasslot (q4 kf hk)) rfl rfl hdg fun H' e1 e2 e3 => ?_
    rw [hsl] at e1 ⊢
    refine kk H' _ (b4.put h0.1 g2 (by omega) e3 (Or.inl ⟨ci, h8, by rw [mUp_ne _ _ (by omega)]; exact h0.2.1, ?_, fun j hj => ?_⟩)) (va_S.put (A := fun q => gB G ≤ q) b5 e2 e3 (g3 h0.1))
    · refine t_OB.to (V := updV (fun k => cv G ρ (ftg ci k, μ a k)) kf (cv G ρ (0, z))) ⟨_, e1, q2, q3, t_set q4 hap hk _⟩ (fun j _ => ?_)
      unfold updV mUp
      by_cases e9 : j = kf
      · subst e9
        simp [ht]
      · have e8 : ¬ ((j : Int) = (kf : Int)) := by omega
        simp [e9, e8]
    · rw [bd_up g1]
      by_cases e9 : j = kf
      · subst e9
        rw [mUp_same, ht]
        exact ok_hd b3
      · rw [mUp_ne _ _ (by omega)]
        exact g5 j hj
  · rw [if_neg h0]
    exact V_none
theorem V_putbF (hki : kI κ = true) (ci : Nat) {C : String} {T : u_T} {N : Nat} {idx : Nat} {a z : Int} {K : Mem → Rz} (hcl : vwC[ci]? = some (C, T, N)) (h8 : ci < 12) (hN : nfl ci = N) (hin : ∀ w ∈ u_ws C T N, w ∈ lw_all) (ty0 : Nat → FieldType) (hty : ∀ k, k < N → parseFieldDescriptor (T k).2.2.1 = some (ty0 k)) (hnm : ∀ a, a < N → ∀ b, b < N → a ≠ b → (T a).2.1 ≠ (T b).2.1) (kf : Nat) (hk : kf < N) {ref : String} (hlink : Cond.fieldLink (kW κ) idx ref (T kf).2.1 (T kf).2.2.1 ∈ lw_all) (href : (T kf).1 = ref) (hfin : (T kf).2.2.2 = true) (hdecl : (T kf).1 = kW κ) (ht : ftg ci kf = 0) (hcm : ty0 kf = .byte) (hdg : decode (kC κ) pc = .ok (.putfield idx, 3))
    (k : ∀ ν, V Γ κ (pc + 3) lv st ν (K ν)) : V Γ κ pc lv ((0, z) :: (2, a) :: st) μ (PB ci kf a z μ K) := by
  unfold PB
  by_cases h0 : (0 < a ∨ a < -21) ∧ μ a (-1) = (ci : Int) + 1 ∧ (z = 0 ∨ z = 1)
  · rw [if_pos h0]
    refine V_write h0.1 ?_ (fun b3 => ok_tl (ok_tl b3)) (k (mUp μ a kf z))
    obtain ⟨p, l, e, R, s, m, args, below, meth, c, Q, G, ρ0, μ0⟩ := Γ
    intro O
    obtain ⟨hx, hb, hml, hown, hts, hcx, hlk, htr, hfr, hlo, hrt, hin9, htab⟩ := O
    intro ρ H locs ls ce sl Q' b3 b4 b5 kk
    obtain ⟨g1, g2, g3, ⟨cell, q1, q2, q3, q4⟩, g5⟩ := b4.obj (ok_hd (ok_tl b3)) h8 h0.2.1
    subst hN
    have hap := va_apa hts hin ty0 hty hnm hcx.1.1 hcl
    obtain ⟨hS, hfc, kC, hkC, hkind⟩ := hcx.1.1.1 ci _ hcl
    obtain ⟨cf, kf', fi, f, hi, hsl⟩ := hS kf hk
    have hlay := hts _ (hin _ (u_in_lay hk))
    unfold u_lay at hlay
    rw [if_pos hfin] at hlay
    have hst := (u_facts hfc hkC (u_lays hts hin hk) hi).1
    have hcf : m.cls = cf := by
      obtain ⟨_, _, c', _, _, _, -, -, hf', -, -, -, hown2, -⟩ := Cond.laysFinal_spec hlay
      have e1 : c' = cf := by have := hi.symm.trans hf'; simp at this; exact this.1.symm
      rw [hdecl] at hown2
      rw [← e1]; exact Option.some.inj (hown.symm.trans hown2)
    have hnf : narrow .byte (cv G ρ (0, z)) = cv G ρ (0, z) ∧ fits .byte (cv G ρ (0, z)) = true := by
      rcases h0.2.2 with rfl | rfl
      · exact ⟨show narrow .byte (.int (Int32.ofInt 0)) = .int (Int32.ofInt 0) by decide, show fits .byte (.int (Int32.ofInt 0)) = true by decide⟩
      · exact ⟨show narrow .byte (.int (Int32.ofInt 1)) = .int (Int32.ofInt 1) by decide, show fits .byte (.int (Int32.ofInt 1)) = true by decide⟩
    have hty' := hty kf hk
    rw [hcm] at hty'
    have h6 := u_fits hfc hkC hkind (Or.inr hlay) hi hty' hnf.1 hnf.2
    rw [List.map_cons, List.map_cons, show cv G ρ (2, a) = cvR ρ a from rfl, cvR_pos g1]
    refine W.putFinK hx hb hown (hts _ hlink) (by rw [← href]; exact hi) hst hcf (hin9 hki) (by rw [q2]; exact h6) q1 q3 (by rw [hsl]; exact k2_hasslot (q4 kf hk)) rfl rfl hdg fun H' e1 e2 e3 => ?_
    rw [hsl] at e1 ⊢
    refine kk H' _ (b4.put h0.1 g2 (by omega) e3 (Or.inl ⟨ci, h8, by rw [mUp_ne _ _ (by omega)]; exact h0.2.1, ?_, fun j hj => ?_⟩)) (va_S.put (A := fun q => gB G ≤ q) b5 e2 e3 (g3 h0.1))
    · refine t_OB.to (V := updV (fun k => cv G ρ (ftg ci k, μ a k)) kf (cv G ρ (0, z))) ⟨_, e1, q2, q3, t_set q4 hap hk _⟩ (fun j _ => ?_)
      unfold updV mUp
      by_cases e9 : j = kf
      · subst e9
        simp [ht]
      · have e8 : ¬ ((j : Int) = (kf : Int)) := by omega
        simp [e9, e8]
    · rw [bd_up g1]
      by_cases e9 : j = kf
      · subst e9
        rw [mUp_same, ht]
        exact ok_hd b3
      · rw [mUp_ne _ _ (by omega)]
        exact g5 j hj
  · rw [if_neg h0]
    exact V_none
end VHEAP
end
section
/-! rows of V over arrays, and what makes cells -/
section VARR
variable {Γ : Gam} {κ : Kap} {pc : Nat} {lv : List (Nat × AV)} {st : List AV} {μ : Mem} {r : Rz}
theorem arr_known {G : Gc} {s : State} (hcx : CxP G s) {t : Nat} (ht : t < 8) (N : Nat) (f : Nat → Value) : s.isArrayOf (arrV (gA G t) N f) (ety t) := (hcx.1.1.2 t _ (tysG_at G ht)).1 N f
theorem isA_put {G : Gc} {ρ : Int → Nat} {μ : Mem} {H H1 : Heap} {a i z : Int} {t : Nat} {x : Value} (h : isA G ρ μ H a t) (ha : a ≠ 0) (h0 : 0 ≤ i) (h1 : i < μ a (-2)) (hx : x = cv G ρ (etg t, z)) (hz : vok (bd μ) (etg t, z)) (e : H1[ρ a]? = some ((arrV (gA G t) (μ a (-2)).toNat (fun k => cv G ρ (etg t, μ a k))).setSlot i.toNat x)) : isA G ρ (mUp μ a i z) H1 a t := by
  obtain ⟨g1, g2, g3, g4⟩ := h
  have e2 : mUp μ a i z a (-2) = μ a (-2) := mUp_ne _ _ (by omega)
  refine ⟨by rw [e2]; exact g1, by rw [e2]; exact g2, ?_, fun k hk => ?_⟩
  · rw [e, e2, arrV_store]
    refine congrArg (fun f => some (arrV _ _ f)) (funext fun j => ?_)
    unfold updV
    by_cases hj : j = i.toNat
    · rw [if_pos hj, hx, show ((j : Nat) : Int) = i by omega, mUp_same]
    · rw [if_neg hj, mUp_ne _ _ (by omega)]
  · rw [e2] at hk
    rw [bd_up ha]
    by_cases hj : (k : Int) = i
    · rw [hj, mUp_same]
      exact hz
    · rw [mUp_ne _ _ (by omega)]
      exact g4 k hk
theorem V_iaload {a i : Int} {K : Int → Rz} (hdg : decode (kC κ) pc = .ok (.iaload, 1)) (k : ∀ z, V Γ κ (pc + 1) lv ((0, z) :: st) μ (K z)) : V Γ κ pc lv ((0, i) :: (2, a) :: st) μ (AL 1 a i μ K) := by
  unfold AL
  by_cases h0 : μ a (-1) = 1 + 20 ∧ 0 ≤ i ∧ i < μ a (-2)
  · rw [if_pos h0]
    refine V_read ?_ (k (μ a i))
    obtain ⟨p, l, e, R, s, m, args, below, meth, c, Q, G, ρ0, μ0⟩ := Γ
    intro O
    obtain ⟨hx, hb, hml, hown, hts, hcx, hlk, htr, hfr, hlo, hrt, hin9, htab⟩ := O
    intro ρ H locs ls ce sl Q' b3 b4 b5 kk
    obtain ⟨g1, g2, g3, g4, g5, g6, g7⟩ := b4.arr (t := 1) (ok_hd (ok_tl b3)) h0.1
    obtain ⟨x1, x2⟩ := ix_ok (ok_hd b3) h0.2.1 h0.2.2
    have hz : ((i.toNat : Nat) : Int) = i := by omega
    have kk := kk (ok_cons (by have := g7 i.toNat (by omega); rw [hz] at this; exact this) (ok_tl (ok_tl b3)))
    rw [List.map_cons, List.map_cons, show cv G ρ (2, a) = cvR ρ a from rfl, cvR_pos g1]
    refine W.iald (j := Int32.ofInt i) (v := cv G ρ (0, μ a i)) hx hb g6 (arr_known hcx (t := 1) (by omega) _ _) (fun q => by cases q) (by rw [arrV_size]; exact x1) ?_ rfl rfl hdg kk
    rw [x2, arrV_read _ _ (by omega), hz]
    rfl
  · rw [if_neg h0]
    exact V_none
theorem V_baload {a i : Int} {K : Int → Rz} (hdg : decode (kC κ) pc = .ok (.baload, 1)) (k : ∀ z, V Γ κ (pc + 1) lv ((0, z) :: st) μ (K z)) : V Γ κ pc lv ((0, i) :: (2, a) :: st) μ (AL 0 a i μ K) := by
  unfold AL
  by_cases h0 : μ a (-1) = 0 + 20 ∧ 0 ≤ i ∧ i < μ a (-2)
  · rw [if_pos h0]
    refine V_read ?_ (k (μ a i))
    obtain ⟨p, l, e, R, s, m, args, below, meth, c, Q, G, ρ0, μ0⟩ := Γ
    intro O
    obtain ⟨hx, hb, hml, hown, hts, hcx, hlk, htr, hfr, hlo, hrt, hin9, htab⟩ := O
    intro ρ H locs ls ce sl Q' b3 b4 b5 kk
    obtain ⟨g1, g2, g3, g4, g5, g6, g7⟩ := b4.arr (t := 0) (ok_hd (ok_tl b3)) h0.1
    obtain ⟨x1, x2⟩ := ix_ok (ok_hd b3) h0.2.1 h0.2.2
    have hz : ((i.toNat : Nat) : Int) = i := by omega
    have kk := kk (ok_cons (by have := g7 i.toNat (by omega); rw [hz] at this; exact this) (ok_tl (ok_tl b3)))
    rw [List.map_cons, List.map_cons, show cv G ρ (2, a) = cvR ρ a from rfl, cvR_pos g1]
    refine W.bald (j := Int32.ofInt i) (v := cv G ρ (0, μ a i)) hx hb g6 (arr_known hcx (t := 0) (by omega) _ _) (fun q => by cases q) (by rw [arrV_size]; exact x1) ?_ rfl rfl hdg kk
    rw [x2, arrV_read _ _ (by omega), hz]
    rfl
  · rw [if_neg h0]
    exact V_none
theorem V_aaload (t : Nat) (h8 : t < 8) (hr : (ety t).isReference = true) (he : etg t = 2) {a i : Int} {K : Int → Rz} (hdg : decode (kC κ) pc = .ok (.aaload, 1)) (k : ∀ z, V Γ κ (pc + 1) lv ((2, z) :: st) μ (K z)) : V Γ κ pc lv ((0, i) :: (2, a) :: st) μ (AL t a i μ K) := by
  unfold AL
  by_cases h0 : μ a (-1) = (t : Int) + 20 ∧ 0 ≤ i ∧ i < μ a (-2)
  · rw [if_pos h0]
    refine V_read ?_ (k (μ a i))
    obtain ⟨p, l, e, R, s, m, args, below, meth, c, Q, G, ρ0, μ0⟩ := Γ
    intro O
    obtain ⟨hx, hb, hml, hown, hts, hcx, hlk, htr, hfr, hlo, hrt, hin9, htab⟩ := O
    intro ρ H locs ls ce sl Q' b3 b4 b5 kk
    obtain ⟨g1, g2, g3, g4, g5, g6, g7⟩ := b4.arr (t := t) (ok_hd (ok_tl b3)) h0.1
    obtain ⟨x1, x2⟩ := ix_ok (ok_hd b3) h0.2.1 h0.2.2
    have hz : ((i.toNat : Nat) : Int) = i := by omega
    have kk := kk (ok_cons (by have := g7 i.toNat (by omega); rw [hz, he] at this; exact this) (ok_tl (ok_tl b3)))
    rw [List.map_cons, List.map_cons, show cv G ρ (2, a) = cvR ρ a from rfl, cvR_pos g1]
    refine W.aald (j := Int32.ofInt i) (v := cv G ρ (2, μ a i)) hx hb g6 (arr_known hcx h8 _ _) hr (fun q => by cases q) (by rw [arrV_size]; exact x1) ?_ rfl rfl hdg kk
    rw [x2, arrV_read _ _ (by omega), hz, he]
  · rw [if_neg h0]
    exact V_none
theorem V_iastore {a i z : Int} {K : Mem → Rz} (hdg : decode (kC κ) pc = .ok (.iastore, 1)) (k : ∀ ν, V Γ κ (pc + 1) lv st ν (K ν)) : V Γ κ pc lv ((0, z) :: (0, i) :: (2, a) :: st) μ (AS 1 a i z μ K) := by
  unfold AS
  by_cases h0 : (0 < a ∨ a < -21) ∧ μ a (-1) = 1 + 20 ∧ 0 ≤ i ∧ i < μ a (-2)
  · rw [if_pos h0]
    refine V_write h0.1 ?_ (fun b3 => ok_tl (ok_tl (ok_tl b3))) (k (mUp μ a i z))
    obtain ⟨p, l, e, R, s, m, args, below, meth, c, Q, G, ρ0, μ0⟩ := Γ
    intro O
    obtain ⟨hx, hb, hml, hown, hts, hcx, hlk, htr, hfr, hlo, hrt, hin9, htab⟩ := O
    intro ρ H locs ls ce sl Q' b3 b4 b5 kk
    obtain ⟨g1, g2, g3, g4⟩ := b4.arr (t := 1) (ok_hd (ok_tl (ok_tl b3))) h0.2.1
    obtain ⟨x1, x2⟩ := ix_ok (ok_hd (ok_tl b3)) h0.2.2.1 h0.2.2.2
    rw [List.map_cons, List.map_cons, List.map_cons, show cv G ρ (2, a) = cvR ρ a from rfl, cvR_pos g1]
    refine W.iast (j := Int32.ofInt i) (x := Int32.ofInt z) hx hb g4.2.2.1 (arr_known hcx (t := 1) (by omega) _ _) (fun q => by cases q) (by rw [arrV_size]; exact x1) rfl rfl hdg fun H' e1 e2 e3 => ?_
    rw [x2] at e1
    exact kk H' _ (b4.put h0.1 g2 h0.2.2.1 e3 (Or.inr ⟨1, by omega, by rw [mUp_ne _ _ (by omega)]; exact h0.2.1, isA_put g4 g1 h0.2.2.1 h0.2.2.2 rfl (ok_hd b3) e1⟩)) (va_S.put (A := fun q => gB G ≤ q) b5 e2 e3 (g3 h0.1))
  · rw [if_neg h0]
    exact V_none
theorem V_bastore {a i z : Int} {K : Mem → Rz} (hdg : decode (kC κ) pc = .ok (.bastore, 1)) (k : ∀ ν, V Γ κ (pc + 1) lv st ν (K ν)) : V Γ κ pc lv ((0, z) :: (0, i) :: (2, a) :: st) μ (ASB a i z μ K) := by
  unfold ASB
  by_cases h0 : (0 < a ∨ a < -21) ∧ μ a (-1) = 20 ∧ 0 ≤ i ∧ i < μ a (-2)
  · rw [if_pos h0]
    refine V_write h0.1 ?_ (fun b3 => ok_tl (ok_tl (ok_tl b3))) (k (mUp μ a i (w8 z)))
    obtain ⟨p, l, e, R, s, m, args, below, meth, c, Q, G, ρ0, μ0⟩ := Γ
    intro O
    obtain ⟨hx, hb, hml, hown, hts, hcx, hlk, htr, hfr, hlo, hrt, hin9, htab⟩ := O
    intro ρ H locs ls ce sl Q' b3 b4 b5 kk
    obtain ⟨g1, g2, g3, g4⟩ := b4.arr (t := 0) (ok_hd (ok_tl (ok_tl b3))) h0.2.1
    obtain ⟨x1, x2⟩ := ix_ok (ok_hd (ok_tl b3)) h0.2.2.1 h0.2.2.2
    rw [List.map_cons, List.map_cons, List.map_cons, show cv G ρ (2, a) = cvR ρ a from rfl, cvR_pos g1]
    refine W.bast (j := Int32.ofInt i) (x := Int32.ofInt z) hx hb g4.2.2.1 (arr_known hcx (t := 0) (by omega) _ _) (fun q => by cases q) (by rw [arrV_size]; exact x1) rfl rfl hdg fun H' e1 e2 e3 => ?_
    rw [x2] at e1
    exact kk H' _ (b4.put h0.1 g2 h0.2.2.1 e3 (Or.inr ⟨0, by omega, by rw [mUp_ne _ _ (by omega)]; exact h0.2.1, isA_put g4 g1 h0.2.2.1 h0.2.2.2 (by rw [narrow_byte, oi_b]; rfl) (show i32 (w8 z) by have := w8_i z; unfold i32; omega) e1⟩)) (va_S.put (A := fun q => gB G ≤ q) b5 e2 e3 (g3 h0.1))
  · rw [if_neg h0]
    exact V_none
theorem V_alen (t : Nat) (h8 : t < 8) {a : Int} {K : Int → Rz} (hdg : decode (kC κ) pc = .ok (.arraylength, 1)) (k : ∀ z, V Γ κ (pc + 1) lv ((0, z) :: st) μ (K z)) : V Γ κ pc lv ((2, a) :: st) μ (LN t a μ K) := by
  unfold LN
  by_cases h0 : μ a (-1) = (t : Int) + 20
  · rw [if_pos h0]
    refine V_read ?_ (k (μ a (-2)))
    obtain ⟨p, l, e, R, s, m, args, below, meth, c, Q, G, ρ0, μ0⟩ := Γ
    intro O
    obtain ⟨hx, hb, hml, hown, hts, hcx, hlk, htr, hfr, hlo, hrt, hin9, htab⟩ := O
    intro ρ H locs ls ce sl Q' b3 b4 b5 kk
    obtain ⟨g1, g2, g3, g4, g5, g6, g7⟩ := b4.arr (t := t) (ok_hd b3) h0
    have kk := kk (ok_cons (show i32 (μ a (-2)) by unfold i32; omega) (ok_tl b3))
    rw [List.map_cons, show cv G ρ (2, a) = cvR ρ a from rfl, cvR_pos g1]
    refine W.alen (n := Int32.ofInt (μ a (-2))) hx hb g6 (arr_known hcx h8 _ _) ?_ rfl rfl hdg kk
    rw [arrV_size]
    show Int32.ofNat _ = _
    rw [← Int32.ofInt_eq_ofNat]
    congr 1
    omega
  · rw [if_neg h0]
    exact V_none
end VARR
end
section
/-! rows of V that make cells: by the component (numbers upward), by the law (numbers downward) -/
def rhoN (ρ : Int → Nat) (n : Int) (h : Nat) : Int → Nat := fun a => if a = n then h else ρ a
/-- the memory ν has the number n0 more -/
def Mk (μ ν : Mem) (n0 : Int) : Prop := (own n0 ∧ ¬ (μ 0 3 < n0 ∧ n0 < μ 0 0)) ∧ (∀ a, ν 0 3 < a → a < ν 0 0 → a ≠ n0 → μ 0 3 < a ∧ a < μ 0 0) ∧ (ν 0 3 < n0 ∧ n0 < ν 0 0) ∧ (∀ a k, a ≠ 0 → a ≠ n0 → ν a k = μ a k) ∧ ν 0 (-1) = μ 0 (-1)
theorem rhoN_ext {ρ : Int → Nat} {μ ν : Mem} {n : Int} {h : Nat} (hM : Mk μ ν n) : Ext (bd μ) ρ (rhoN ρ n h) := fun a _ h1 h2 => by
  unfold rhoN
  have h3 := hM.1.2
  have h1' : μ 0 3 < a := h1
  have h2' : a < μ 0 0 := h2
  rw [if_neg (by intro e; rw [e] at h1' h2'; exact h3 ⟨h1', h2'⟩)]
theorem mNew_00 {μ : Mem} (h : 0 < μ 0 0) (kd len sz : Int) : mNew μ kd len sz 0 0 = μ 0 0 + 1 := by
  unfold mNew
  rw [if_neg (by omega), if_pos ⟨rfl, rfl⟩]
theorem mNew_01 {μ : Mem} (h : 0 < μ 0 0) (kd len sz : Int) : mNew μ kd len sz 0 1 = μ 0 1 + 1 := by
  unfold mNew
  rw [if_neg (by omega), if_neg (by omega), if_pos ⟨rfl, rfl⟩]
theorem mNew_02 {μ : Mem} (h : 0 < μ 0 0) (kd len sz : Int) : mNew μ kd len sz 0 2 = μ 0 2 + sz := by
  unfold mNew
  rw [if_neg (by omega), if_neg (by omega), if_neg (by omega), if_pos ⟨rfl, rfl⟩]
theorem mNew_03 {μ : Mem} (h : 0 < μ 0 0) (kd len sz : Int) : mNew μ kd len sz 0 3 = μ 0 3 := by
  unfold mNew
  rw [if_neg (by omega), if_neg (by omega), if_neg (by omega), if_neg (by omega)]
theorem mNew_old {μ : Mem} {a : Int} (h1 : a ≠ μ 0 0) (h2 : a ≠ 0) (kd len sz k : Int) : mNew μ kd len sz a k = μ a k := by
  unfold mNew
  rw [if_neg h1, if_neg (by omega), if_neg (by omega), if_neg (by omega)]
theorem mNew_kd (μ : Mem) (kd len sz : Int) : mNew μ kd len sz (μ 0 0) (-1) = kd := by
  unfold mNew
  rw [if_pos rfl, if_pos rfl]
theorem mNew_len (μ : Mem) (kd len sz : Int) : mNew μ kd len sz (μ 0 0) (-2) = len := by
  unfold mNew
  rw [if_pos rfl, if_neg (by omega), if_pos rfl]
theorem mNew_at (μ : Mem) (kd len sz : Int) {k : Int} (h : 0 ≤ k) : mNew μ kd len sz (μ 0 0) k = 0 := by
  unfold mNew
  rw [if_pos rfl, if_neg (by omega), if_neg (by omega)]
theorem mNew_Mk {μ : Mem} (h : 0 < μ 0 0) (h3 : μ 0 3 < -21) (kd len sz : Int) : Mk μ (mNew μ kd len sz) (μ 0 0) := by
  unfold Mk own
  rw [mNew_00 h, mNew_03 h]
  refine ⟨⟨Or.inl h, by omega⟩, fun a h1 h2 h3 => by omega, by omega, fun a k h1 h2 => mNew_old h2 h1 kd len sz k, ?_⟩
  unfold mNew
  rw [if_neg (by omega), if_neg (by omega), if_neg (by omega), if_neg (by omega)]
theorem mNewN_00 {μ : Mem} (h : μ 0 3 < -21) (kd len sz : Int) : mNewN μ kd len sz 0 0 = μ 0 0 := by
  unfold mNewN
  rw [if_neg (by omega), if_neg (by omega), if_neg (by omega), if_neg (by omega)]
theorem mNewN_01 {μ : Mem} (h : μ 0 3 < -21) (kd len sz : Int) : mNewN μ kd len sz 0 1 = μ 0 1 + 1 := by
  unfold mNewN
  rw [if_neg (by omega), if_neg (by omega), if_pos ⟨rfl, rfl⟩]
theorem mNewN_02 {μ : Mem} (h : μ 0 3 < -21) (kd len sz : Int) : mNewN μ kd len sz 0 2 = μ 0 2 + sz := by
  unfold mNewN
  rw [if_neg (by omega), if_neg (by omega), if_neg (by omega), if_pos ⟨rfl, rfl⟩]
theorem mNewN_03 {μ : Mem} (h : μ 0 3 < -21) (kd len sz : Int) : mNewN μ kd len sz 0 3 = μ 0 3 - 1 := by
  unfold mNewN
  rw [if_neg (by omega), if_pos ⟨rfl, rfl⟩]
theorem mNewN_old {μ : Mem} {a : Int} (h1 : a ≠ μ 0 3) (h2 : a ≠ 0) (kd len sz k : Int) : mNewN μ kd len sz a k = μ a k := by
  unfold mNewN
  rw [if_neg h1, if_neg (by omega), if_neg (by omega), if_neg (by omega)]
theorem mNewN_kd (μ : Mem) (kd len sz : Int) : mNewN μ kd len sz (μ 0 3) (-1) = kd := by
  unfold mNewN
  rw [if_pos rfl, if_pos rfl]
theorem mNewN_len (μ : Mem) (kd len sz : Int) : mNewN μ kd len sz (μ 0 3) (-2) = len := by
  unfold mNewN
  rw [if_pos rfl, if_neg (by omega), if_pos rfl]
theorem mNewN_at (μ : Mem) (kd len sz : Int) {k : Int} (h : 0 ≤ k) : mNewN μ kd len sz (μ 0 3) k = 0 := by
  unfold mNewN
  rw [if_pos rfl, if_neg (by omega), if_neg (by omega)]
theorem mNewN_Mk {μ : Mem} (h0 : 0 < μ 0 0) (h : μ 0 3 < -21) (kd len sz : Int) : Mk μ (mNewN μ kd len sz) (μ 0 3) := by
  unfold Mk own
  rw [mNewN_00 h, mNewN_03 h]
  refine ⟨⟨Or.inr h, by omega⟩, fun a h1 h2 h3 => by omega, by omega, fun a k h1 h2 => mNewN_old h2 h1 kd len sz k, ?_⟩
  unfold mNewN
  rw [if_neg (by omega), if_neg (by omega), if_neg (by omega), if_neg (by omega)]
theorem okC.ext {G : Gc} {ρ ρ' : Int → Nat} {μ ν : Mem} {H : Heap} {a : Int} (h : okC G ρ μ H a) (ha : ρ' a = ρ a) (hE : Ext (bd μ) ρ ρ') (hr : ∀ k, ν a k = μ a k) (hn : μ 0 0 ≤ ν 0 0 ∧ ν 0 3 ≤ μ 0 3) : okC G ρ' ν H a := by
  rcases h with ⟨ci, h1, h2, h3, h4⟩ | ⟨t, h1, h2, h3, h5, h4, h6⟩
  · refine Or.inl ⟨ci, h1, by rw [hr]; exact h2, ?_, fun k hk => by rw [hr]; exact vok_mono hn (h4 k hk)⟩
    rw [ha]
    exact t_OB.to h3 (fun j hj => by rw [hr]; exact (cv_ext hE (h4 j hj)).symm)
  · refine Or.inr ⟨t, h1, by rw [hr]; exact h2, by rw [hr]; exact h3, by rw [hr]; exact h5, ?_, fun k hk => ?_⟩
    · rw [ha, h4, hr]
      have hz : ∀ j : Nat, j < (μ a (-2)).toNat → cv G ρ (etg t, μ a j) = cv G ρ' (etg t, ν a j) := fun j hj => by
        rw [hr]
        exact (cv_ext hE (h6 j (by omega))).symm
      unfold arrV
      congr 2
      refine Array.ext (by simp) (fun j h7 h8 => ?_)
      simp only [Array.getElem_ofFn]
      exact hz j (by simpa using h7)
    · rw [hr] at hk ⊢
      exact vok_mono hn (h6 k hk)
theorem rhoN_at {ρ : Int → Nat} {n : Int} {h : Nat} : rhoN ρ n h n = h := if_pos rfl
theorem rhoN_ne {ρ : Int → Nat} {n a : Int} {h : Nat} (ha : a ≠ n) : rhoN ρ n h a = ρ a := if_neg ha
theorem GP.mk {G : Gc} {ρ : Int → Nat} {μ ν : Mem} {H H1 : Heap} {n0 : Int} (h : GP G ρ μ H) (hM : Mk μ ν n0) (hm : μ 0 0 ≤ ν 0 0 ∧ ν 0 3 ≤ μ 0 3) (hB : gB G ≤ H.size) (hq : ∀ q : Nat, q < H.size → H1[q]? = H[q]?) (hc : okC G (rhoN ρ n0 H.size) ν H1 n0) : GP G (rhoN ρ n0 H.size) ν H1 := by
  have hE : Ext (bd μ) ρ (rhoN ρ n0 H.size) := rhoN_ext hM
  obtain ⟨⟨m1, m2⟩, m3, m4, m5, m6⟩ := hM
  refine ⟨⟨Int.lt_of_lt_of_le h.1.1 hm.1, Int.lt_of_le_of_lt hm.2 h.1.2.1, fun k k0 k1 => ?_⟩, by rw [m6]; exact h.2.1, fun a ha0 ha han => ?_, fun a b ha hb h1 h2 h3 h4 hab => ?_⟩
  · rw [rhoN_ne (by unfold own at m1; omega)]
    exact h.1.2.2 k k0 k1
  · by_cases e : a = n0
    · rw [e, rhoN_at]
      exact ⟨⟨fun _ => hB, fun z => absurd m1 z⟩, hc⟩
    · obtain ⟨r1, r2⟩ := m3 a ha han e
      obtain ⟨g1, g2⟩ := h.2.2.1 a ha0 r1 r2
      rw [rhoN_ne e]
      exact ⟨g1, (g2.kept (hq _ g2.lt)).ext (rhoN_ne e) hE (fun k => m5 a k ha0 e) hm⟩
  · by_cases e : a = n0 <;> by_cases e' : b = n0
    · rw [e, e']
    · exfalso
      obtain ⟨r1, r2⟩ := m3 b h3 h4 e'
      have hl := (h.2.2.1 b (own_ne hb) r1 r2).2.lt
      rw [e, rhoN_at, rhoN_ne e'] at hab
      omega
    · exfalso
      obtain ⟨r1, r2⟩ := m3 a h1 h2 e
      have hl := (h.2.2.1 a (own_ne ha) r1 r2).2.lt
      rw [e', rhoN_at, rhoN_ne e] at hab
      omega
    · obtain ⟨r1, r2⟩ := m3 a h1 h2 e
      obtain ⟨r3, r4⟩ := m3 b h3 h4 e'
      rw [rhoN_ne e, rhoN_ne e'] at hab
      exact h.2.2.2 a b ha hb r1 r2 r3 r4 hab
def dfl (t : Nat) (ty : FieldType) : Bool := match ty with
  | .int => t == 0
  | .byte => t == 0
  | .boolean => t == 0
  | .long => t == 1
  | .object _ => t == 2
  | .array _ => t == 2
  | _ => false
theorem dfl_ok {t : Nat} {ty : FieldType} (h : dfl t ty = true) (G : Gc) (ρ : Int → Nat) : defaultValue ty = cv G ρ (t, 0) := by
  cases ty <;> simp only [dfl, beq_iff_eq, Bool.false_eq_true] at h <;> subst h
  · show Value.int 0 = .int (Int32.ofInt 0)
    rw [oi_0]
  · show Value.int 0 = .int (Int32.ofInt 0)
    rw [oi_0]
  · show Value.long 0 = .long (Int64.ofInt 0)
    rw [lo_0]
  · show Value.int 0 = .int (Int32.ofInt 0)
    rw [oi_0]
  · rfl
  · rfl
theorem vok_0 (n : Int × Int) (h : n.2 < 0 ∧ 0 < n.1) (t : Nat) : vok n (t, 0) := by
  match t with
  | 0 => exact i32_0
  | 1 => exact i64_0
  | 2 => exact h
  | 3 => exact ⟨by decide, by decide⟩
  | 4 => exact ⟨by decide, by decide⟩
  | 5 => exact ⟨by decide, by decide⟩
  | 6 => trivial
  | _ + 7 => trivial
section VMAKE
variable {Γ : Gam} {κ : Kap} {pc : Nat} {lv : List (Nat × AV)} {st : List AV} {μ ν : Mem} {r : Rz}
theorem V_make {pc' : Nat} {st0 : List AV} {n0 sz : Int} (hz : 0 ≤ sz) (hm : (μ 0 0 ≤ ν 0 0 ∧ ν 0 3 ≤ μ 0 3) ∧ ν 0 1 = μ 0 1 + 1 ∧ ν 0 2 = μ 0 2 + sz) (hM : 0 < μ 0 0 → μ 0 3 < -21 → Mk μ ν n0)
    (h : match Γ with
      | (p, l, e, R, s, m, args, below, meth, c, Q, G, ρ0, μ0) => Ok (p, l, e, R, s, m, args, below, meth, c, Q, G, ρ0, μ0) κ → ∀ (ρ : Int → Nat) (H : Heap) (locs : List Loc) (ls : Array Slot) (ce sl : Nat) (Q' : State → Prop), ls.size = kN κ → (∀ q ∈ st, vok (bd μ) q) → GP G ρ μ H → va_S (fun q => gB G ≤ q) s.heap H locs → ce + 1 ≤ R.cells → sl + sz.toNat ≤ R.slots →
        (∀ H1 : Heap, (∀ q : Nat, q < H.size → H1[q]? = H[q]?) → H1.size = H.size + 1 → okC G (rhoN ρ n0 H.size) ν H1 n0 → W p l e R s m args below meth c H1 locs (ce + 1) (sl + sz.toNat) Q' (F0 m pc' ls (.ref H.size :: st0.map (cv G ρ)))) → W p l e R s m args below meth c H locs ce sl Q' (F0 m pc ls (st.map (cv G ρ))))
    (hs : (∀ q ∈ st, vok (bd μ) q) → ∀ q ∈ st0, vok (bd μ) q)
    (k : V Γ κ pc' lv ((2, n0) :: st0) ν r) : V Γ κ pc lv st μ r := by
  obtain ⟨p, l, e, R, s, m, args, below, meth, c, Q, G, ρ0, μ0⟩ := Γ
  intro x v μ' hr
  obtain ⟨k1, k2⟩ := k x v μ' hr
  obtain ⟨hm0, hm1, hm2⟩ := hm
  rw [hm1, hm2] at k1 k2
  refine ⟨by omega, fun O a1 a2 a3 a4 a5 ρ H locs ls b1 b2 b3 b4 b5 b6 => ?_⟩
  have hMk := hM b4.1.1 b4.1.2.1
  have hcx : CxP G s := O.2.2.2.2.2.1
  refine h O ρ H locs ls _ _ _ b1.1 b3 b4 b5 (by omega) (by omega) (fun H1 q1 q2 q3 => ?_)
  have hE : Ext (bd μ) ρ (rhoN ρ n0 H.size) := rhoN_ext hMk
  have hB : gB G ≤ H.size := Nat.le_trans hcx.1.2 b5.1
  have e1 : (μ 0 1 - μ0 0 1).toNat + 1 = (μ 0 1 + 1 - μ0 0 1).toNat := by omega
  have e2 : (μ 0 2 - μ0 0 2).toNat + sz.toNat = (μ 0 2 + sz - μ0 0 2).toNat := by omega
  have e3 : Value.ref H.size :: st0.map (cv G ρ) = ((2, n0) :: st0).map (cv G (rhoN ρ n0 H.size)) := by
    rw [List.map_cons]
    congr 1
    · show _ = cvR (rhoN ρ n0 H.size) n0
      rw [cvR_pos (own_ne hMk.1.1), rhoN_at]
    · exact List.map_congr_left (fun q hq => (cv_ext hE (hs b3 q hq)).symm)
  have e4 : (lv.map fun q => (q.1, cv G ρ q.2)) = lv.map fun q => (q.1, cv G (rhoN ρ n0 H.size) q.2) := List.map_congr_left (fun q hq => by rw [cv_ext hE (b2 q hq)])
  rw [e1, e2, e3]
  refine k2 O (by omega) (by omega) (by omega) a4 a5 _ H1 locs ls (by rw [← e4]; exact b1) (fun q hq => vok_bd hm0 (b2 q hq)) (ok_cons (show ν 0 3 < n0 ∧ n0 < ν 0 0 from hMk.2.2.1) (fun q hq => vok_bd hm0 (hs b3 q hq))) (b4.mk hMk hm0 hB q1 q3) ⟨by rw [q2]; exact Nat.le_trans b5.1 (by omega), fun q h1 h2 => (q1 q (Nat.lt_of_lt_of_le h1 b5.1)).trans (b5.2.1 q h1 h2), b5.2.2⟩ (b6.tr hE a1)
theorem V_newG (ci : Nat) {C : String} {T : u_T} {N : Nat} {idx : Nat} {n n0 : Int} (hcl : vwC[ci]? = some (C, T, N)) (h8 : ci < 12) (hN : nfl ci = N) (hn : (N : Int) = n) (hin : ∀ w ∈ u_ws C T N, w ∈ lw_all) (ty0 : Nat → FieldType) (hty : ∀ k, k < N → parseFieldDescriptor (T k).2.2.1 = some (ty0 k)) (hdf : ∀ k, k < N → dfl (ftg ci k) (ty0 k) = true) (hlink : Cond.classLink (kW κ) idx C ∈ lw_all) (hinst : Cond.instantiable C N ∈ lw_all) (hini : Cond.initialized C ∈ lw_all) (hdg : decode (kC κ) pc = .ok (.new idx, 3))
    (hm : (μ 0 0 ≤ ν 0 0 ∧ ν 0 3 ≤ μ 0 3) ∧ ν 0 1 = μ 0 1 + 1 ∧ ν 0 2 = μ 0 2 + n) (hM : 0 < μ 0 0 → μ 0 3 < -21 → Mk μ ν n0) (hk0 : ν n0 (-1) = ci + 1) (hk1 : ∀ j : Int, 0 ≤ j → ν n0 j = 0)
    (k : V Γ κ (pc + 3) lv ((2, n0) :: st) ν r) : V Γ κ pc lv st μ r := by
  refine V_make (pc' := pc + 3) (st0 := st) (n0 := n0) (sz := n) (by omega) hm hM ?_ (fun b => b) k
  obtain ⟨p, l, e, R, s, m, args, below, meth, c, Q, G, ρ0, μ0⟩ := Γ
  intro O
  obtain ⟨hx, hb, hml, hown, hts, hcx, hlk, htr, hfr, hlo, hrt, hin9, htab⟩ := O
  intro ρ H locs ls ce sl Q' b1 b3 b4 b5 h1 h2 kk
  subst hN
  have hKn := hcx.1.1.1 ci _ hcl
  have hnn : n.toNat = nfl ci := by omega
  rw [hnn] at h2 kk
  refine W.newcK hx hb hown (hts _ hlink) (hts _ hinst) (hts _ hini) rfl hdg h1 h2 hKn.2.1 rfl fun H1 kC hkC e1 z1 o1 => ?_
  refine kk H1 o1 z1 (Or.inl ⟨ci, h8, hk0, ?_, fun j hj => ?_⟩)
  · rw [rhoN_at]
    refine t_OB.to (u_born ty0 hts hin hKn hkC e1 hty) (fun j hj => ?_)
    rw [hk1 _ (by omega)]
    exact dfl_ok (hdf j hj) G _
  · rw [hk1 _ (by omega)]
    exact vok_0 _ (show ν 0 3 < 0 ∧ 0 < ν 0 0 from ⟨by have := b4.1.2.1; omega, by have := b4.1.1; omega⟩) _
theorem V_new (ci : Nat) {C : String} {T : u_T} {N : Nat} {idx : Nat} {n : Int} {K : Int → Mem → Rz} (hcl : vwC[ci]? = some (C, T, N)) (h8 : ci < 12) (hN : nfl ci = N) (hn : (N : Int) = n) (hin : ∀ w ∈ u_ws C T N, w ∈ lw_all) (ty0 : Nat → FieldType) (hty : ∀ k, k < N → parseFieldDescriptor (T k).2.2.1 = some (ty0 k)) (hdf : ∀ k, k < N → dfl (ftg ci k) (ty0 k) = true) (hlink : Cond.classLink (kW κ) idx C ∈ lw_all) (hinst : Cond.instantiable C N ∈ lw_all) (hini : Cond.initialized C ∈ lw_all) (hdg : decode (kC κ) pc = .ok (.new idx, 3))
    (k : ∀ z ν, V Γ κ (pc + 3) lv ((2, z) :: st) ν (K z ν)) : V Γ κ pc lv st μ (NW ci n μ K) := by
  unfold NW
  by_cases hp : 0 < μ 0 0
  · rw [if_pos hp]
    exact V_newG ci hcl h8 hN hn hin ty0 hty hdf hlink hinst hini hdg ⟨by rw [mNew_00 hp, mNew_03 hp]; omega, mNew_01 hp _ _ _, mNew_02 hp _ _ _⟩ (fun _ h3 => mNew_Mk hp h3 _ _ _) (mNew_kd _ _ _ _) (fun j hj => mNew_at _ _ _ _ hj) (k _ _)
  · rw [if_neg hp]
    exact V_none
theorem V_newN (ci : Nat) {C : String} {T : u_T} {N : Nat} {idx : Nat} {n : Int} {K : Int → Mem → Rz} (hcl : vwC[ci]? = some (C, T, N)) (h8 : ci < 12) (hN : nfl ci = N) (hn : (N : Int) = n) (hin : ∀ w ∈ u_ws C T N, w ∈ lw_all) (ty0 : Nat → FieldType) (hty : ∀ k, k < N → parseFieldDescriptor (T k).2.2.1 = some (ty0 k)) (hdf : ∀ k, k < N → dfl (ftg ci k) (ty0 k) = true) (hlink : Cond.classLink (kW κ) idx C ∈ lw_all) (hinst : Cond.instantiable C N ∈ lw_all) (hini : Cond.initialized C ∈ lw_all) (hdg : decode (kC κ) pc = .ok (.new idx, 3))
    (k : ∀ z ν, V Γ κ (pc + 3) lv ((2, z) :: st) ν (K z ν)) : V Γ κ pc lv st μ (NWn ci n μ K) := by
  unfold NWn
  by_cases hp : μ 0 3 < -21
  · rw [if_pos hp]
    exact V_newG ci hcl h8 hN hn hin ty0 hty hdf hlink hinst hini hdg ⟨by rw [mNewN_00 hp, mNewN_03 hp]; omega, mNewN_01 hp _ _ _, mNewN_02 hp _ _ _⟩ (fun h0 _ => mNewN_Mk h0 hp _ _ _) (mNewN_kd _ _ _ _) (fun j hj => mNewN_at _ _ _ _ hj) (k _ _)
  · rw [if_neg hp]
    exact V_none
theorem isA_new {G : Gc} {ρ : Int → Nat} {H1 : Heap} {h : Nat} {t : Nat} {n n0 : Int} {dv : Value} (hp : ν 0 3 < 0 ∧ 0 < ν 0 0) (h0 : 0 ≤ n) (h1 : n < 100000) (hk1 : ν n0 (-2) = n) (hk2 : ∀ j : Int, 0 ≤ j → ν n0 j = 0) (hdv : ∀ ρ', dv = cv G ρ' (etg t, 0)) (e : H1[h]? = some (arrV (gA G t) n.toNat (fun _ => dv))) : isA G (rhoN ρ n0 h) ν H1 n0 t := by
  refine ⟨by rw [hk1]; exact h0, by rw [hk1]; omega, ?_, fun k hk => ?_⟩
  · rw [rhoN_at, e, hk1]
    refine congrArg (fun f => some (arrV _ _ f)) (funext fun j => ?_)
    rw [hk2 _ (by omega)]
    exact hdv _
  · rw [hk2 _ (by omega)]
    exact vok_0 _ hp _
theorem V_newarrayG (t : Nat) (h8 : t < 2) {at9 : ArrayType} (hat : newarray.typeOf at9 = ety t) {n n0 : Int} (hac : Cond.arrayClass (ety t) ∈ lw_all) (hdg : decode (kC κ) pc = .ok (.newarray at9, 2)) (h0 : 0 ≤ n) (h1 : n < 100000)
    (hm : (μ 0 0 ≤ ν 0 0 ∧ ν 0 3 ≤ μ 0 3) ∧ ν 0 1 = μ 0 1 + 1 ∧ ν 0 2 = μ 0 2 + n) (hM : 0 < μ 0 0 → μ 0 3 < -21 → Mk μ ν n0) (hk0 : ν n0 (-1) = t + 20) (hk1 : ν n0 (-2) = n) (hk2 : ∀ j : Int, 0 ≤ j → ν n0 j = 0)
    (k : V Γ κ (pc + 2) lv ((2, n0) :: st) ν r) : V Γ κ pc lv ((0, n) :: st) μ r := by
  refine V_make (pc' := pc + 2) (st0 := st) (n0 := n0) (sz := n) h0 hm hM ?_ (fun b => ok_tl b) k
  obtain ⟨p, l, e, R, s, m, args, below, meth, c, Q, G, ρ0, μ0⟩ := Γ
  intro O
  obtain ⟨hx, hb, hml, hown, hts, hcx, hlk, htr, hfr, hlo, hrt, hin9, htab⟩ := O
  intro ρ H locs ls ce sl Q' b1 b3 b4 b5 h2 h3 kk
  have hi : i32 n := ok_hd b3
  have hcb : n.toNat * componentBytes (newarray.typeOf at9) ≤ 536870912 := by
    rw [hat]
    have : componentBytes (ety t) ≤ 8 := by
      rcases (by omega : t = 0 ∨ t = 1) with rfl | rfl <;> decide
    calc n.toNat * componentBytes (ety t) ≤ 100000 * 8 := Nat.mul_le_mul (by omega) this
      _ ≤ 536870912 := by decide
  refine va_newaK (n := Int32.ofInt n) (N := n.toNat) hx hb (by rw [hat]; exact hts _ hac) rfl hdg rfl ?_ ?_ hcb h2 h3 rfl fun H1 cA e1 z1 o1 hAr hNm => ?_
  · rw [← oi_0, oi_lt hi i32_0]
    omega
  · show (Int32.ofInt n).toInt.toNat = _
    rw [oi_to hi]
  · rw [hat] at e1 hNm
    have hcA : cA = gA G t := by
      have h4 : va_RA s (gA G t) (ety t) := (hcx.1.1.2 t _ (tysG_at G (by omega))).2
      have h5 : s.vm.findClass ("[" ++ (ety t).toString) = some (gA G t) := by
        rcases (by omega : t = 0 ∨ t = 1) with rfl | rfl <;> exact h4
      exact Option.some.inj (hNm.symm.trans h5)
    subst hcA
    refine kk H1 o1 z1 (Or.inr ⟨t, by omega, hk0, isA_new ⟨by have := b4.1.2.1; omega, by have := b4.1.1; omega⟩ h0 h1 hk1 hk2 (fun ρ' => ?_) e1⟩)
    rcases (by omega : t = 0 ∨ t = 1) with rfl | rfl
    · show Value.int 0 = .int (Int32.ofInt 0)
      rw [oi_0]
    · show Value.int 0 = .int (Int32.ofInt 0)
      rw [oi_0]
theorem V_newarray (t : Nat) (h8 : t < 2) {at9 : ArrayType} (hat : newarray.typeOf at9 = ety t) {n : Int} {K : Int → Mem → Rz} (hac : Cond.arrayClass (ety t) ∈ lw_all) (hdg : decode (kC κ) pc = .ok (.newarray at9, 2))
    (k : ∀ z ν, V Γ κ (pc + 2) lv ((2, z) :: st) ν (K z ν)) : V Γ κ pc lv ((0, n) :: st) μ (NA t n μ K) := by
  unfold NA
  by_cases hp : 0 < μ 0 0 ∧ 0 ≤ n ∧ n < 100000
  · rw [if_pos hp]
    obtain ⟨hp, h0, h1⟩ := hp
    exact V_newarrayG t h8 hat hac hdg h0 h1 ⟨by rw [mNew_00 hp, mNew_03 hp]; omega, mNew_01 hp _ _ _, mNew_02 hp _ _ _⟩ (fun _ h3 => mNew_Mk hp h3 _ _ _) (mNew_kd _ _ _ _) (mNew_len _ _ _ _) (fun j hj => mNew_at _ _ _ _ hj) (k _ _)
  · rw [if_neg hp]
    exact V_none
theorem V_newarrayN (t : Nat) (h8 : t < 2) {at9 : ArrayType} (hat : newarray.typeOf at9 = ety t) {n : Int} {K : Int → Mem → Rz} (hac : Cond.arrayClass (ety t) ∈ lw_all) (hdg : decode (kC κ) pc = .ok (.newarray at9, 2))
    (k : ∀ z ν, V Γ κ (pc + 2) lv ((2, z) :: st) ν (K z ν)) : V Γ κ pc lv ((0, n) :: st) μ (NAn t n μ K) := by
  unfold NAn
  by_cases hp : μ 0 3 < -21 ∧ 0 ≤ n ∧ n < 100000
  · rw [if_pos hp]
    obtain ⟨hp, h0, h1⟩ := hp
    exact V_newarrayG t h8 hat hac hdg h0 h1 ⟨by rw [mNewN_00 hp, mNewN_03 hp]; omega, mNewN_01 hp _ _ _, mNewN_02 hp _ _ _⟩ (fun h0 _ => mNewN_Mk h0 hp _ _ _) (mNewN_kd _ _ _ _) (mNewN_len _ _ _ _) (fun j hj => mNewN_at _ _ _ _ hj) (k _ _)
  · rw [if_neg hp]
    exact V_none
theorem V_anewarrayG (t : Nat) (h8 : t < 8) {C : String} (hC : ety t = .object C) (he : etg t = 2) {idx : Nat} {n n0 : Int} (hlink : Cond.classLink (kW κ) idx C ∈ lw_all) (hao : ∀ (G : Gc) (s : State), CxP G s → va_AO C s) (hdg : decode (kC κ) pc = .ok (.anewarray idx, 3)) (h0 : 0 ≤ n) (h1 : n < 100000)
    (hm : (μ 0 0 ≤ ν 0 0 ∧ ν 0 3 ≤ μ 0 3) ∧ ν 0 1 = μ 0 1 + 1 ∧ ν 0 2 = μ 0 2 + n) (hM : 0 < μ 0 0 → μ 0 3 < -21 → Mk μ ν n0) (hk0 : ν n0 (-1) = t + 20) (hk1 : ν n0 (-2) = n) (hk2 : ∀ j : Int, 0 ≤ j → ν n0 j = 0)
    (k : V Γ κ (pc + 3) lv ((2, n0) :: st) ν r) : V Γ κ pc lv ((0, n) :: st) μ r := by
  refine V_make (pc' := pc + 3) (st0 := st) (n0 := n0) (sz := n) h0 hm hM ?_ (fun b => ok_tl b) k
  obtain ⟨p, l, e, R, s, m, args, below, meth, c, Q, G, ρ0, μ0⟩ := Γ
  intro O
  obtain ⟨hx, hb, hml, hown, hts, hcx, hlk, htr, hfr, hlo, hrt, hin9, htab⟩ := O
  intro ρ H locs ls ce sl Q' b1 b3 b4 b5 h2 h3 kk
  have hi : i32 n := ok_hd b3
  have hN : (Int32.ofInt n).toNatClampNeg = n.toNat := by
    show (Int32.ofInt n).toInt.toNat = _
    rw [oi_to hi]
  refine W.anew (n := Int32.ofInt n) hx hb hown (hts _ hlink) (va_AO.use (hao G s hcx)) rfl hdg rfl ?_ (by rw [hN]; omega) h2 (by rw [hN]; exact h3) fun cA kA comp f1 f2 f3 f4 => ?_
  · rw [← oi_0, oi_lt hi i32_0]
    omega
  · rw [hN]
    have hcA : cA = gA G t := by
      have h4 : va_RA s (gA G t) (ety t) := (hcx.1.1.2 t _ (tysG_at G h8)).2
      rw [hC] at h4
      obtain ⟨_, _, -, -, -, h5⟩ := h4
      exact Option.some.inj (f1.symm.trans h5)
    subst hcA
    refine kk _ (fun q hq => ?_) (by rw [Array.size_push]) (Or.inr ⟨t, h8, hk0, isA_new (dv := .null) ⟨by have := b4.1.2.1; omega, by have := b4.1.1; omega⟩ h0 h1 hk1 hk2 (fun ρ' => by rw [he]; rfl) ?_⟩)
    · rw [Array.getElem?_push, if_neg (Nat.ne_of_lt hq)]
    · rw [Array.getElem?_push_size, ← arrV_new]
theorem V_anewarray (t : Nat) (h8 : t < 8) {C : String} (hC : ety t = .object C) (he : etg t = 2) {idx : Nat} {n : Int} {K : Int → Mem → Rz} (hlink : Cond.classLink (kW κ) idx C ∈ lw_all) (hao : ∀ (G : Gc) (s : State), CxP G s → va_AO C s) (hdg : decode (kC κ) pc = .ok (.anewarray idx, 3))
    (k : ∀ z ν, V Γ κ (pc + 3) lv ((2, z) :: st) ν (K z ν)) : V Γ κ pc lv ((0, n) :: st) μ (NA t n μ K) := by
  unfold NA
  by_cases hp : 0 < μ 0 0 ∧ 0 ≤ n ∧ n < 100000
  · rw [if_pos hp]
    obtain ⟨hp, h0, h1⟩ := hp
    exact V_anewarrayG t h8 hC he hlink hao hdg h0 h1 ⟨by rw [mNew_00 hp, mNew_03 hp]; omega, mNew_01 hp _ _ _, mNew_02 hp _ _ _⟩ (fun _ h3 => mNew_Mk hp h3 _ _ _) (mNew_kd _ _ _ _) (mNew_len _ _ _ _) (fun j hj => mNew_at _ _ _ _ hj) (k _ _)
  · rw [if_neg hp]
    exact V_none
theorem V_anewarrayN (t : Nat) (h8 : t < 8) {C : String} (hC : ety t = .object C) (he : etg t = 2) {idx : Nat} {n : Int} {K : Int → Mem → Rz} (hlink : Cond.classLink (kW κ) idx C ∈ lw_all) (hao : ∀ (G : Gc) (s : State), CxP G s → va_AO C s) (hdg : decode (kC κ) pc = .ok (.anewarray idx, 3))
    (k : ∀ z ν, V Γ κ (pc + 3) lv ((2, z) :: st) ν (K z ν)) : V Γ κ pc lv ((0, n) :: st) μ (NAn t n μ K) := by
  unfold NAn
  by_cases hp : μ 0 3 < -21 ∧ 0 ≤ n ∧ n < 100000
  · rw [if_pos hp]
    obtain ⟨hp, h0, h1⟩ := hp
    exact V_anewarrayG t h8 hC he hlink hao hdg h0 h1 ⟨by rw [mNewN_00 hp, mNewN_03 hp]; omega, mNewN_01 hp _ _ _, mNewN_02 hp _ _ _⟩ (fun h0 _ => mNewN_Mk h0 hp _ _ _) (mNewN_kd _ _ _ _) (mNewN_len _ _ _ _) (fun j hj => mNewN_at _ _ _ _ hj) (k _ _)
  · rw [if_neg hp]
    exact V_none
end VMAKE
end
